-- decode rows, by program
theorem dX12_holds_166 : decode cX12_holds 166 = .ok (.lconst 0, 1) := by decide +kernel
theorem dX12_holds_167 : decode cX12_holds 167 = .ok (.ladd, 1) := by decide +kernel
theorem dX12_holds_168 : decode cX12_holds 168 = .ok (.lstore_n 3, 1) := by decide +kernel
theorem dX12_holds_169 : decode cX12_holds 169 = .ok (.goto 57, 3) := by decide +kernel
theorem dX12_holds_172 : decode cX12_holds 172 = .ok (.iload 6, 2) := by decide +kernel
theorem dX12_holds_174 : decode cX12_holds 174 = .ok (.iconst 3, 1) := by decide +kernel
theorem dX12_holds_175 : decode cX12_holds 175 = .ok (.if_icmp .ne 10, 3) := by decide +kernel
theorem dX12_holds_178 : decode cX12_holds 178 = .ok (.lload_n 3, 1) := by decide +kernel
theorem dX12_holds_179 : decode cX12_holds 179 = .ok (.lconst 1, 1) := by decide +kernel
theorem dX12_holds_180 : decode cX12_holds 180 = .ok (.lxor, 1) := by decide +kernel
theorem dX12_holds_181 : decode cX12_holds 181 = .ok (.lstore_n 3, 1) := by decide +kernel
theorem dX12_holds_182 : decode cX12_holds 182 = .ok (.goto 44, 3) := by decide +kernel
theorem dX12_holds_185 : decode cX12_holds 185 = .ok (.lload_n 3, 1) := by decide +kernel
theorem dX12_holds_186 : decode cX12_holds 186 = .ok (.lconst 1, 1) := by decide +kernel
theorem dX12_holds_187 : decode cX12_holds 187 = .ok (.land, 1) := by decide +kernel
theorem dX12_holds_188 : decode cX12_holds 188 = .ok (.lstore 7, 2) := by decide +kernel
theorem dX12_holds_190 : decode cX12_holds 190 = .ok (.lload_n 3, 1) := by decide +kernel
theorem dX12_holds_191 : decode cX12_holds 191 = .ok (.ldc2_w 67, 3) := by decide +kernel
theorem dX12_holds_194 : decode cX12_holds 194 = .ok (.ldiv, 1) := by decide +kernel
theorem dX12_holds_195 : decode cX12_holds 195 = .ok (.lstore_n 3, 1) := by decide +kernel
theorem dX12_holds_196 : decode cX12_holds 196 = .ok (.iload 6, 2) := by decide +kernel
theorem dX12_holds_198 : decode cX12_holds 198 = .ok (.iconst 4, 1) := by decide +kernel
theorem dX12_holds_199 : decode cX12_holds 199 = .ok (.if_icmp .eq 10, 3) := by decide +kernel
theorem dX12_holds_202 : decode cX12_holds 202 = .ok (.lload_n 3, 1) := by decide +kernel
theorem dX12_holds_203 : decode cX12_holds 203 = .ok (.lload 7, 2) := by decide +kernel
theorem dX12_holds_205 : decode cX12_holds 205 = .ok (.lor, 1) := by decide +kernel
theorem dX12_holds_206 : decode cX12_holds 206 = .ok (.goto 19, 3) := by decide +kernel
theorem dX12_holds_209 : decode cX12_holds 209 = .ok (.lload 7, 2) := by decide +kernel
theorem dX12_holds_211 : decode cX12_holds 211 = .ok (.lconst 1, 1) := by decide +kernel
theorem dX12_holds_212 : decode cX12_holds 212 = .ok (.lcmp, 1) := by decide +kernel
theorem dX12_holds_213 : decode cX12_holds 213 = .ok (.ifCond .ne 7, 3) := by decide +kernel
theorem dX12_holds_216 : decode cX12_holds 216 = .ok (.lload_n 3, 1) := by decide +kernel
theorem dX12_holds_217 : decode cX12_holds 217 = .ok (.goto 8, 3) := by decide +kernel
theorem dX12_holds_220 : decode cX12_holds 220 = .ok (.lload_n 3, 1) := by decide +kernel
theorem dX12_holds_221 : decode cX12_holds 221 = .ok (.ldc2_w 80, 3) := by decide +kernel
theorem dX12_holds_224 : decode cX12_holds 224 = .ok (.land, 1) := by decide +kernel
theorem dX12_holds_225 : decode cX12_holds 225 = .ok (.lstore_n 3, 1) := by decide +kernel
theorem dX12_holds_226 : decode cX12_holds 226 = .ok (.iinc 5 1, 3) := by decide +kernel
theorem dX12_holds_229 : decode cX12_holds 229 = .ok (.goto (-212), 3) := by decide +kernel
theorem dX12_holds_232 : decode cX12_holds 232 = .ok (.lload_n 3, 1) := by decide +kernel
theorem dX12_holds_233 : decode cX12_holds 233 = .ok (.ldc2_w 67, 3) := by decide +kernel
theorem dX12_holds_236 : decode cX12_holds 236 = .ok (.lrem, 1) := by decide +kernel
theorem dX12_holds_237 : decode cX12_holds 237 = .ok (.lconst 1, 1) := by decide +kernel
theorem dX12_holds_238 : decode cX12_holds 238 = .ok (.lcmp, 1) := by decide +kernel
theorem dX12_holds_239 : decode cX12_holds 239 = .ok (.ifCond .ne 7, 3) := by decide +kernel
theorem dX12_holds_242 : decode cX12_holds 242 = .ok (.iconst 1, 1) := by decide +kernel
theorem dX12_holds_243 : decode cX12_holds 243 = .ok (.goto 4, 3) := by decide +kernel
theorem dX12_holds_246 : decode cX12_holds 246 = .ok (.iconst 0, 1) := by decide +kernel
theorem dX12_holds_247 : decode cX12_holds 247 = .ok (.ireturn, 1) := by decide +kernel
theorem dX12_will_0 : decode cX12_will 0 = .ok (.iconst 0, 1) := by decide +kernel
theorem dX12_will_1 : decode cX12_will 1 = .ok (.istore_n 2, 1) := by decide +kernel
theorem dX12_will_2 : decode cX12_will 2 = .ok (.iload_n 2, 1) := by decide +kernel
theorem dX12_will_3 : decode cX12_will 3 = .ok (.aload_n 0, 1) := by decide +kernel
theorem dX12_will_4 : decode cX12_will 4 = .ok (.getfield 7, 3) := by decide +kernel
theorem dX12_will_7 : decode cX12_will 7 = .ok (.iconst 5, 1) := by decide +kernel
theorem dX12_will_8 : decode cX12_will 8 = .ok (.iaload, 1) := by decide +kernel
theorem dX12_will_9 : decode cX12_will 9 = .ok (.if_icmp .ge 55, 3) := by decide +kernel
theorem dX12_will_12 : decode cX12_will 12 = .ok (.aload_n 0, 1) := by decide +kernel
theorem dX12_will_13 : decode cX12_will 13 = .ok (.iload_n 1, 1) := by decide +kernel
theorem dX12_will_14 : decode cX12_will 14 = .ok (.iconst 0, 1) := by decide +kernel
theorem dX12_will_15 : decode cX12_will 15 = .ok (.invokevirtual 69, 3) := by decide +kernel
theorem dX12_will_18 : decode cX12_will 18 = .ok (.aload_n 0, 1) := by decide +kernel
theorem dX12_will_19 : decode cX12_will 19 = .ok (.getfield 7, 3) := by decide +kernel
theorem dX12_will_22 : decode cX12_will 22 = .ok (.bipush 53, 2) := by decide +kernel
theorem dX12_will_24 : decode cX12_will 24 = .ok (.iconst 4, 1) := by decide +kernel
theorem dX12_will_25 : decode cX12_will 25 = .ok (.iload_n 2, 1) := by decide +kernel
theorem dX12_will_26 : decode cX12_will 26 = .ok (.imul, 1) := by decide +kernel
theorem dX12_will_27 : decode cX12_will 27 = .ok (.iadd, 1) := by decide +kernel
theorem dX12_will_28 : decode cX12_will 28 = .ok (.iaload, 1) := by decide +kernel
theorem dX12_will_29 : decode cX12_will 29 = .ok (.invokestatic 82, 3) := by decide +kernel
theorem dX12_will_32 : decode cX12_will 32 = .ok (.ifCond .eq 26, 3) := by decide +kernel
theorem dX12_will_35 : decode cX12_will 35 = .ok (.aload_n 0, 1) := by decide +kernel
theorem dX12_will_36 : decode cX12_will 36 = .ok (.iload_n 2, 1) := by decide +kernel
theorem dX12_will_37 : decode cX12_will 37 = .ok (.iload_n 1, 1) := by decide +kernel
theorem dX12_will_38 : decode cX12_will 38 = .ok (.invokevirtual 85, 3) := by decide +kernel
theorem dX12_will_41 : decode cX12_will 41 = .ok (.ifCond .eq 17, 3) := by decide +kernel
theorem dX12_will_44 : decode cX12_will 44 = .ok (.aload_n 0, 1) := by decide +kernel
theorem dX12_will_45 : decode cX12_will 45 = .ok (.getfield 7, 3) := by decide +kernel
theorem dX12_will_48 : decode cX12_will 48 = .ok (.bipush 53, 2) := by decide +kernel
theorem dX12_will_50 : decode cX12_will 50 = .ok (.iconst 4, 1) := by decide +kernel
theorem dX12_will_51 : decode cX12_will 51 = .ok (.iload_n 2, 1) := by decide +kernel
theorem dX12_will_52 : decode cX12_will 52 = .ok (.imul, 1) := by decide +kernel
theorem dX12_will_53 : decode cX12_will 53 = .ok (.iadd, 1) := by decide +kernel
theorem dX12_will_54 : decode cX12_will 54 = .ok (.iconst 1, 1) := by decide +kernel
theorem dX12_will_55 : decode cX12_will 55 = .ok (.iadd, 1) := by decide +kernel
theorem dX12_will_56 : decode cX12_will 56 = .ok (.iaload, 1) := by decide +kernel
theorem dX12_will_57 : decode cX12_will 57 = .ok (.ireturn, 1) := by decide +kernel
theorem dX12_will_58 : decode cX12_will 58 = .ok (.iinc 2 1, 3) := by decide +kernel
theorem dX12_will_61 : decode cX12_will 61 = .ok (.goto (-59), 3) := by decide +kernel
theorem dX12_will_64 : decode cX12_will 64 = .ok (.iconst 0, 1) := by decide +kernel
theorem dX12_will_65 : decode cX12_will 65 = .ok (.ireturn, 1) := by decide +kernel
theorem dX12_setOf_0 : decode cX12_setOf 0 = .ok (.aload_n 0, 1) := by decide +kernel
theorem dX12_setOf_1 : decode cX12_setOf 1 = .ok (.iload_n 1, 1) := by decide +kernel
theorem dX12_setOf_2 : decode cX12_setOf 2 = .ok (.invokevirtual 88, 3) := by decide +kernel
theorem dX12_setOf_5 : decode cX12_setOf 5 = .ok (.ifCond .eq 15, 3) := by decide +kernel
theorem dX12_setOf_8 : decode cX12_setOf 8 = .ok (.iload_n 2, 1) := by decide +kernel
theorem dX12_setOf_9 : decode cX12_setOf 9 = .ok (.i2l, 1) := by decide +kernel
theorem dX12_setOf_10 : decode cX12_setOf 10 = .ok (.lconst 0, 1) := by decide +kernel
theorem dX12_setOf_11 : decode cX12_setOf 11 = .ok (.ldc2_w 91, 3) := by decide +kernel
theorem dX12_setOf_14 : decode cX12_setOf 14 = .ok (.invokestatic 57, 3) := by decide +kernel
theorem dX12_setOf_17 : decode cX12_setOf 17 = .ok (.ifCond .ne 5, 3) := by decide +kernel
theorem dX12_setOf_20 : decode cX12_setOf 20 = .ok (.iconst (-1), 1) := by decide +kernel
theorem dX12_setOf_21 : decode cX12_setOf 21 = .ok (.ireturn, 1) := by decide +kernel
theorem dX12_setOf_22 : decode cX12_setOf 22 = .ok (.iload_n 2, 1) := by decide +kernel
theorem dX12_setOf_23 : decode cX12_setOf 23 = .ok (.tableswitch 67 5 8 #[29, 49, 55, 61], 29) := by decide +kernel
theorem dX12_setOf_52 : decode cX12_setOf 52 = .ok (.aload_n 0, 1) := by decide +kernel
theorem dX12_setOf_53 : decode cX12_setOf 53 = .ok (.iload_n 1, 1) := by decide +kernel
theorem dX12_setOf_54 : decode cX12_setOf 54 = .ok (.aload_n 0, 1) := by decide +kernel
theorem dX12_setOf_55 : decode cX12_setOf 55 = .ok (.getfield 7, 3) := by decide +kernel
theorem dX12_setOf_58 : decode cX12_setOf 58 = .ok (.iconst 1, 1) := by decide +kernel
theorem dX12_setOf_59 : decode cX12_setOf 59 = .ok (.iaload, 1) := by decide +kernel
theorem dX12_setOf_60 : decode cX12_setOf 60 = .ok (.invokevirtual 93, 3) := by decide +kernel
theorem dX12_setOf_63 : decode cX12_setOf 63 = .ok (.ifCond .eq 7, 3) := by decide +kernel
theorem dX12_setOf_66 : decode cX12_setOf 66 = .ok (.iconst 1, 1) := by decide +kernel
theorem dX12_setOf_67 : decode cX12_setOf 67 = .ok (.goto 4, 3) := by decide +kernel
theorem dX12_setOf_70 : decode cX12_setOf 70 = .ok (.iconst 0, 1) := by decide +kernel
theorem dX12_setOf_71 : decode cX12_setOf 71 = .ok (.ireturn, 1) := by decide +kernel
theorem dX12_setOf_72 : decode cX12_setOf 72 = .ok (.aload_n 0, 1) := by decide +kernel
theorem dX12_setOf_73 : decode cX12_setOf 73 = .ok (.iload_n 1, 1) := by decide +kernel
theorem dX12_setOf_74 : decode cX12_setOf 74 = .ok (.invokevirtual 96, 3) := by decide +kernel
theorem dX12_setOf_77 : decode cX12_setOf 77 = .ok (.ireturn, 1) := by decide +kernel
theorem dX12_setOf_78 : decode cX12_setOf 78 = .ok (.aload_n 0, 1) := by decide +kernel
theorem dX12_setOf_79 : decode cX12_setOf 79 = .ok (.iload_n 1, 1) := by decide +kernel
theorem dX12_setOf_80 : decode cX12_setOf 80 = .ok (.invokevirtual 100, 3) := by decide +kernel
theorem dX12_setOf_83 : decode cX12_setOf 83 = .ok (.ireturn, 1) := by decide +kernel
theorem dX12_setOf_84 : decode cX12_setOf 84 = .ok (.aload_n 0, 1) := by decide +kernel
theorem dX12_setOf_85 : decode cX12_setOf 85 = .ok (.iload_n 1, 1) := by decide +kernel
theorem dX12_setOf_86 : decode cX12_setOf 86 = .ok (.invokevirtual 103, 3) := by decide +kernel
theorem dX12_setOf_89 : decode cX12_setOf 89 = .ok (.ireturn, 1) := by decide +kernel
theorem dX12_setOf_90 : decode cX12_setOf 90 = .ok (.aload_n 0, 1) := by decide +kernel
theorem dX12_setOf_91 : decode cX12_setOf 91 = .ok (.iload_n 1, 1) := by decide +kernel
theorem dX12_setOf_92 : decode cX12_setOf 92 = .ok (.iload_n 2, 1) := by decide +kernel
theorem dX12_setOf_93 : decode cX12_setOf 93 = .ok (.invokevirtual 69, 3) := by decide +kernel
theorem dX12_setOf_96 : decode cX12_setOf 96 = .ok (.ireturn, 1) := by decide +kernel
theorem dX12_change_0 : decode cX12_change 0 = .ok (.aload_n 0, 1) := by decide +kernel
theorem dX12_change_1 : decode cX12_change 1 = .ok (.iload_n 1, 1) := by decide +kernel
theorem dX12_change_2 : decode cX12_change 2 = .ok (.invokevirtual 88, 3) := by decide +kernel
theorem dX12_change_5 : decode cX12_change 5 = .ok (.ifCond .eq 62, 3) := by decide +kernel
theorem dX12_change_8 : decode cX12_change 8 = .ok (.iload_n 2, 1) := by decide +kernel
theorem dX12_change_9 : decode cX12_change 9 = .ok (.i2l, 1) := by decide +kernel
theorem dX12_change_10 : decode cX12_change 10 = .ok (.lconst 1, 1) := by decide +kernel
theorem dX12_change_11 : decode cX12_change 11 = .ok (.ldc2_w 106, 3) := by decide +kernel
theorem dX12_change_14 : decode cX12_change 14 = .ok (.invokestatic 57, 3) := by decide +kernel
theorem dX12_change_17 : decode cX12_change 17 = .ok (.ifCond .eq 50, 3) := by decide +kernel
theorem dX12_change_20 : decode cX12_change 20 = .ok (.iload_n 3, 1) := by decide +kernel
theorem dX12_change_21 : decode cX12_change 21 = .ok (.i2l, 1) := by decide +kernel
theorem dX12_change_22 : decode cX12_change 22 = .ok (.iload_n 2, 1) := by decide +kernel
theorem dX12_change_23 : decode cX12_change 23 = .ok (.iconst 2, 1) := by decide +kernel
theorem dX12_change_24 : decode cX12_change 24 = .ok (.if_icmp .ne 7, 3) := by decide +kernel
theorem dX12_change_27 : decode cX12_change 27 = .ok (.lconst 1, 1) := by decide +kernel
theorem dX12_change_28 : decode cX12_change 28 = .ok (.goto 4, 3) := by decide +kernel
theorem dX12_change_31 : decode cX12_change 31 = .ok (.lconst 0, 1) := by decide +kernel
theorem dX12_change_32 : decode cX12_change 32 = .ok (.iload_n 2, 1) := by decide +kernel
theorem dX12_change_33 : decode cX12_change 33 = .ok (.iconst 1, 1) := by decide +kernel
theorem dX12_change_34 : decode cX12_change 34 = .ok (.if_icmp .ne 9, 3) := by decide +kernel
theorem dX12_change_37 : decode cX12_change 37 = .ok (.ldc2_w 55, 3) := by decide +kernel
theorem dX12_change_40 : decode cX12_change 40 = .ok (.goto 17, 3) := by decide +kernel
theorem dX12_change_43 : decode cX12_change 43 = .ok (.iload_n 2, 1) := by decide +kernel
theorem dX12_change_44 : decode cX12_change 44 = .ok (.iconst 3, 1) := by decide +kernel
theorem dX12_change_45 : decode cX12_change 45 = .ok (.if_icmp .ne 9, 3) := by decide +kernel
theorem dX12_change_48 : decode cX12_change 48 = .ok (.ldc2_w 67, 3) := by decide +kernel
theorem dX12_change_51 : decode cX12_change 51 = .ok (.goto 6, 3) := by decide +kernel
theorem dX12_change_54 : decode cX12_change 54 = .ok (.ldc2_w 65, 3) := by decide +kernel
theorem dX12_change_57 : decode cX12_change 57 = .ok (.invokestatic 57, 3) := by decide +kernel
theorem dX12_change_60 : decode cX12_change 60 = .ok (.ifCond .eq 7, 3) := by decide +kernel
theorem dX12_change_63 : decode cX12_change 63 = .ok (.iconst 1, 1) := by decide +kernel
theorem dX12_change_64 : decode cX12_change 64 = .ok (.goto 4, 3) := by decide +kernel
theorem dX12_change_67 : decode cX12_change 67 = .ok (.iconst 0, 1) := by decide +kernel
theorem dX12_change_68 : decode cX12_change 68 = .ok (.istore 4, 2) := by decide +kernel
theorem dX12_change_70 : decode cX12_change 70 = .ok (.iload 4, 2) := by decide +kernel
theorem dX12_change_72 : decode cX12_change 72 = .ok (.ifCond .eq 19, 3) := by decide +kernel
theorem dX12_change_75 : decode cX12_change 75 = .ok (.aload_n 0, 1) := by decide +kernel
theorem dX12_change_76 : decode cX12_change 76 = .ok (.bipush 8, 2) := by decide +kernel
theorem dX12_change_78 : decode cX12_change 78 = .ok (.iconst 5, 1) := by decide +kernel
theorem dX12_change_79 : decode cX12_change 79 = .ok (.iload_n 1, 1) := by decide +kernel
theorem dX12_change_80 : decode cX12_change 80 = .ok (.imul, 1) := by decide +kernel
theorem dX12_change_81 : decode cX12_change 81 = .ok (.iadd, 1) := by decide +kernel
theorem dX12_change_82 : decode cX12_change 82 = .ok (.iload_n 2, 1) := by decide +kernel
theorem dX12_change_83 : decode cX12_change 83 = .ok (.iadd, 1) := by decide +kernel
theorem dX12_change_84 : decode cX12_change 84 = .ok (.iload_n 3, 1) := by decide +kernel
theorem dX12_change_85 : decode cX12_change 85 = .ok (.invokevirtual 108, 3) := by decide +kernel
theorem dX12_change_88 : decode cX12_change 88 = .ok (.goto 4, 3) := by decide +kernel
theorem dX12_change_91 : decode cX12_change 91 = .ok (.iconst (-1), 1) := by decide +kernel
theorem dX12_change_92 : decode cX12_change 92 = .ok (.ireturn, 1) := by decide +kernel
theorem dX12_remake_0 : decode cX12_remake 0 = .ok (.aload_n 0, 1) := by decide +kernel
theorem dX12_remake_1 : decode cX12_remake 1 = .ok (.iload_n 1, 1) := by decide +kernel
theorem dX12_remake_2 : decode cX12_remake 2 = .ok (.invokevirtual 88, 3) := by decide +kernel
theorem dX12_remake_5 : decode cX12_remake 5 = .ok (.ifCond .eq 29, 3) := by decide +kernel
theorem dX12_remake_8 : decode cX12_remake 8 = .ok (.iload_n 2, 1) := by decide +kernel
theorem dX12_remake_9 : decode cX12_remake 9 = .ok (.i2l, 1) := by decide +kernel
theorem dX12_remake_10 : decode cX12_remake 10 = .ok (.lconst 1, 1) := by decide +kernel
theorem dX12_remake_11 : decode cX12_remake 11 = .ok (.ldc2_w 55, 3) := by decide +kernel
theorem dX12_remake_14 : decode cX12_remake 14 = .ok (.invokestatic 57, 3) := by decide +kernel
theorem dX12_remake_17 : decode cX12_remake 17 = .ok (.ifCond .eq 17, 3) := by decide +kernel
theorem dX12_remake_20 : decode cX12_remake 20 = .ok (.aload_n 0, 1) := by decide +kernel
theorem dX12_remake_21 : decode cX12_remake 21 = .ok (.bipush 8, 2) := by decide +kernel
theorem dX12_remake_23 : decode cX12_remake 23 = .ok (.iconst 5, 1) := by decide +kernel
theorem dX12_remake_24 : decode cX12_remake 24 = .ok (.iload_n 1, 1) := by decide +kernel
theorem dX12_remake_25 : decode cX12_remake 25 = .ok (.imul, 1) := by decide +kernel
theorem dX12_remake_26 : decode cX12_remake 26 = .ok (.iadd, 1) := by decide +kernel
theorem dX12_remake_27 : decode cX12_remake 27 = .ok (.iload_n 2, 1) := by decide +kernel
theorem dX12_remake_28 : decode cX12_remake 28 = .ok (.invokevirtual 108, 3) := by decide +kernel
theorem dX12_remake_31 : decode cX12_remake 31 = .ok (.goto 4, 3) := by decide +kernel
theorem dX12_remake_34 : decode cX12_remake 34 = .ok (.iconst (-1), 1) := by decide +kernel
theorem dX12_remake_35 : decode cX12_remake 35 = .ok (.ireturn, 1) := by decide +kernel
theorem dX12_machine_0 : decode cX12_machine 0 = .ok (.iload_n 1, 1) := by decide +kernel
theorem dX12_machine_1 : decode cX12_machine 1 = .ok (.invokestatic 61, 3) := by decide +kernel
theorem dX12_machine_4 : decode cX12_machine 4 = .ok (.ifCond .eq 35, 3) := by decide +kernel
theorem dX12_machine_7 : decode cX12_machine 7 = .ok (.iload_n 2, 1) := by decide +kernel
theorem dX12_machine_8 : decode cX12_machine 8 = .ok (.i2l, 1) := by decide +kernel
theorem dX12_machine_9 : decode cX12_machine 9 = .ok (.lconst 0, 1) := by decide +kernel
theorem dX12_machine_10 : decode cX12_machine 10 = .ok (.lconst 1, 1) := by decide +kernel
theorem dX12_machine_11 : decode cX12_machine 11 = .ok (.invokestatic 57, 3) := by decide +kernel
theorem dX12_machine_14 : decode cX12_machine 14 = .ok (.ifCond .eq 25, 3) := by decide +kernel
theorem dX12_machine_17 : decode cX12_machine 17 = .ok (.iload_n 3, 1) := by decide +kernel
theorem dX12_machine_18 : decode cX12_machine 18 = .ok (.i2l, 1) := by decide +kernel
theorem dX12_machine_19 : decode cX12_machine 19 = .ok (.lconst 0, 1) := by decide +kernel
theorem dX12_machine_20 : decode cX12_machine 20 = .ok (.iload_n 2, 1) := by decide +kernel
theorem dX12_machine_21 : decode cX12_machine 21 = .ok (.ifCond .ne 9, 3) := by decide +kernel
theorem dX12_machine_24 : decode cX12_machine 24 = .ok (.ldc2_w 65, 3) := by decide +kernel
theorem dX12_machine_27 : decode cX12_machine 27 = .ok (.goto 6, 3) := by decide +kernel
theorem dX12_machine_30 : decode cX12_machine 30 = .ok (.ldc2_w 111, 3) := by decide +kernel
theorem dX12_machine_33 : decode cX12_machine 33 = .ok (.invokestatic 57, 3) := by decide +kernel
theorem dX12_machine_36 : decode cX12_machine 36 = .ok (.ifCond .ne 5, 3) := by decide +kernel
theorem dX12_machine_39 : decode cX12_machine 39 = .ok (.iconst (-1), 1) := by decide +kernel
theorem dX12_machine_40 : decode cX12_machine 40 = .ok (.ireturn, 1) := by decide +kernel
theorem dX12_machine_41 : decode cX12_machine 41 = .ok (.aload_n 0, 1) := by decide +kernel
theorem dX12_machine_42 : decode cX12_machine 42 = .ok (.iload_n 2, 1) := by decide +kernel
theorem dX12_machine_43 : decode cX12_machine 43 = .ok (.ifCond .ne 8, 3) := by decide +kernel
theorem dX12_machine_46 : decode cX12_machine 46 = .ok (.bipush 41, 2) := by decide +kernel
theorem dX12_machine_48 : decode cX12_machine 48 = .ok (.goto 5, 3) := by decide +kernel
theorem dX12_machine_51 : decode cX12_machine 51 = .ok (.bipush 47, 2) := by decide +kernel
theorem dX12_machine_53 : decode cX12_machine 53 = .ok (.iload_n 1, 1) := by decide +kernel
theorem dX12_machine_54 : decode cX12_machine 54 = .ok (.iadd, 1) := by decide +kernel
theorem dX12_machine_55 : decode cX12_machine 55 = .ok (.iload_n 3, 1) := by decide +kernel
theorem dX12_machine_56 : decode cX12_machine 56 = .ok (.invokevirtual 108, 3) := by decide +kernel
theorem dX12_machine_59 : decode cX12_machine 59 = .ok (.ireturn, 1) := by decide +kernel
theorem dX12_machineOf_0 : decode cX12_machineOf 0 = .ok (.iload_n 1, 1) := by decide +kernel
theorem dX12_machineOf_1 : decode cX12_machineOf 1 = .ok (.invokestatic 61, 3) := by decide +kernel
theorem dX12_machineOf_4 : decode cX12_machineOf 4 = .ok (.ifCond .eq 13, 3) := by decide +kernel
theorem dX12_machineOf_7 : decode cX12_machineOf 7 = .ok (.iload_n 2, 1) := by decide +kernel
theorem dX12_machineOf_8 : decode cX12_machineOf 8 = .ok (.i2l, 1) := by decide +kernel
theorem dX12_machineOf_9 : decode cX12_machineOf 9 = .ok (.lconst 0, 1) := by decide +kernel
theorem dX12_machineOf_10 : decode cX12_machineOf 10 = .ok (.lconst 1, 1) := by decide +kernel
theorem dX12_machineOf_11 : decode cX12_machineOf 11 = .ok (.invokestatic 57, 3) := by decide +kernel
theorem dX12_machineOf_14 : decode cX12_machineOf 14 = .ok (.ifCond .ne 5, 3) := by decide +kernel
theorem dX12_machineOf_17 : decode cX12_machineOf 17 = .ok (.iconst (-1), 1) := by decide +kernel
theorem dX12_machineOf_18 : decode cX12_machineOf 18 = .ok (.ireturn, 1) := by decide +kernel
theorem dX12_machineOf_19 : decode cX12_machineOf 19 = .ok (.aload_n 0, 1) := by decide +kernel
theorem dX12_machineOf_20 : decode cX12_machineOf 20 = .ok (.getfield 7, 3) := by decide +kernel
theorem dX12_machineOf_23 : decode cX12_machineOf 23 = .ok (.iload_n 2, 1) := by decide +kernel
theorem dX12_machineOf_24 : decode cX12_machineOf 24 = .ok (.ifCond .ne 8, 3) := by decide +kernel
theorem dX12_machineOf_27 : decode cX12_machineOf 27 = .ok (.bipush 41, 2) := by decide +kernel
theorem dX12_machineOf_29 : decode cX12_machineOf 29 = .ok (.goto 5, 3) := by decide +kernel
theorem dX12_machineOf_32 : decode cX12_machineOf 32 = .ok (.bipush 47, 2) := by decide +kernel
theorem dX12_machineOf_34 : decode cX12_machineOf 34 = .ok (.iload_n 1, 1) := by decide +kernel
theorem dX12_machineOf_35 : decode cX12_machineOf 35 = .ok (.iadd, 1) := by decide +kernel
theorem dX12_machineOf_36 : decode cX12_machineOf 36 = .ok (.iaload, 1) := by decide +kernel
theorem dX12_machineOf_37 : decode cX12_machineOf 37 = .ok (.ireturn, 1) := by decide +kernel
theorem dX12_tire_0 : decode cX12_tire 0 = .ok (.iload_n 1, 1) := by decide +kernel
theorem dX12_tire_1 : decode cX12_tire 1 = .ok (.i2l, 1) := by decide +kernel
theorem dX12_tire_2 : decode cX12_tire 2 = .ok (.lconst 0, 1) := by decide +kernel
theorem dX12_tire_3 : decode cX12_tire 3 = .ok (.ldc2_w 67, 3) := by decide +kernel
theorem dX12_tire_6 : decode cX12_tire 6 = .ok (.invokestatic 57, 3) := by decide +kernel
theorem dX12_tire_9 : decode cX12_tire 9 = .ok (.ifCond .eq 27, 3) := by decide +kernel
theorem dX12_tire_12 : decode cX12_tire 12 = .ok (.iload_n 2, 1) := by decide +kernel
theorem dX12_tire_13 : decode cX12_tire 13 = .ok (.i2l, 1) := by decide +kernel
theorem dX12_tire_14 : decode cX12_tire 14 = .ok (.lconst 0, 1) := by decide +kernel
theorem dX12_tire_15 : decode cX12_tire 15 = .ok (.ldc2_w 65, 3) := by decide +kernel
theorem dX12_tire_18 : decode cX12_tire 18 = .ok (.invokestatic 57, 3) := by decide +kernel
theorem dX12_tire_21 : decode cX12_tire 21 = .ok (.ifCond .eq 15, 3) := by decide +kernel
theorem dX12_tire_24 : decode cX12_tire 24 = .ok (.aload_n 0, 1) := by decide +kernel
theorem dX12_tire_25 : decode cX12_tire 25 = .ok (.bipush 38, 2) := by decide +kernel
theorem dX12_tire_27 : decode cX12_tire 27 = .ok (.iload_n 1, 1) := by decide +kernel
theorem dX12_tire_28 : decode cX12_tire 28 = .ok (.iadd, 1) := by decide +kernel
theorem dX12_tire_29 : decode cX12_tire 29 = .ok (.iload_n 2, 1) := by decide +kernel
theorem dX12_tire_30 : decode cX12_tire 30 = .ok (.invokevirtual 108, 3) := by decide +kernel
theorem dX12_tire_33 : decode cX12_tire 33 = .ok (.goto 4, 3) := by decide +kernel
theorem dX12_tire_36 : decode cX12_tire 36 = .ok (.iconst (-1), 1) := by decide +kernel
theorem dX12_tire_37 : decode cX12_tire 37 = .ok (.ireturn, 1) := by decide +kernel
theorem dX12_ends_0 : decode cX12_ends 0 = .ok (.iload_n 1, 1) := by decide +kernel
theorem dX12_ends_1 : decode cX12_ends 1 = .ok (.i2l, 1) := by decide +kernel
theorem dX12_ends_2 : decode cX12_ends 2 = .ok (.lconst 1, 1) := by decide +kernel
theorem dX12_ends_3 : decode cX12_ends 3 = .ok (.ldc2_w 113, 3) := by decide +kernel
theorem dX12_ends_6 : decode cX12_ends 6 = .ok (.invokestatic 57, 3) := by decide +kernel
theorem dX12_ends_9 : decode cX12_ends 9 = .ok (.ifCond .ne 5, 3) := by decide +kernel
theorem dX12_ends_12 : decode cX12_ends 12 = .ok (.iconst (-1), 1) := by decide +kernel
theorem dX12_ends_13 : decode cX12_ends 13 = .ok (.ireturn, 1) := by decide +kernel
theorem dX12_ends_14 : decode cX12_ends 14 = .ok (.iload_n 1, 1) := by decide +kernel
theorem dX12_ends_15 : decode cX12_ends 15 = .ok (.aload_n 0, 1) := by decide +kernel
theorem dX12_ends_16 : decode cX12_ends 16 = .ok (.getfield 7, 3) := by decide +kernel
theorem dX12_ends_19 : decode cX12_ends 19 = .ok (.iconst 1, 1) := by decide +kernel
theorem dX12_ends_20 : decode cX12_ends 20 = .ok (.iaload, 1) := by decide +kernel
theorem dX12_ends_21 : decode cX12_ends 21 = .ok (.if_icmp .ge 8, 3) := by decide +kernel
theorem dX12_ends_24 : decode cX12_ends 24 = .ok (.bipush (-4), 2) := by decide +kernel
theorem dX12_ends_26 : decode cX12_ends 26 = .ok (.goto 9, 3) := by decide +kernel
theorem dX12_ends_29 : decode cX12_ends 29 = .ok (.aload_n 0, 1) := by decide +kernel
theorem dX12_ends_30 : decode cX12_ends 30 = .ok (.iconst 2, 1) := by decide +kernel
theorem dX12_ends_31 : decode cX12_ends 31 = .ok (.iload_n 1, 1) := by decide +kernel
theorem dX12_ends_32 : decode cX12_ends 32 = .ok (.invokevirtual 108, 3) := by decide +kernel
theorem dX12_ends_35 : decode cX12_ends 35 = .ok (.ireturn, 1) := by decide +kernel
theorem dX12_anew_0 : decode cX12_anew 0 = .ok (.iconst 0, 1) := by decide +kernel
theorem dX12_anew_1 : decode cX12_anew 1 = .ok (.istore_n 1, 1) := by decide +kernel
theorem dX12_anew_2 : decode cX12_anew 2 = .ok (.iload_n 1, 1) := by decide +kernel
theorem dX12_anew_3 : decode cX12_anew 3 = .ok (.aload_n 0, 1) := by decide +kernel
theorem dX12_anew_4 : decode cX12_anew 4 = .ok (.getfield 7, 3) := by decide +kernel
theorem dX12_anew_7 : decode cX12_anew 7 = .ok (.iconst 0, 1) := by decide +kernel
theorem dX12_anew_8 : decode cX12_anew 8 = .ok (.iaload, 1) := by decide +kernel
theorem dX12_anew_9 : decode cX12_anew 9 = .ok (.if_icmp .ge 23, 3) := by decide +kernel
theorem dX12_anew_12 : decode cX12_anew 12 = .ok (.aload_n 0, 1) := by decide +kernel
theorem dX12_anew_13 : decode cX12_anew 13 = .ok (.getfield 7, 3) := by decide +kernel
theorem dX12_anew_16 : decode cX12_anew 16 = .ok (.bipush 8, 2) := by decide +kernel
theorem dX12_anew_18 : decode cX12_anew 18 = .ok (.iconst 5, 1) := by decide +kernel
theorem dX12_anew_19 : decode cX12_anew 19 = .ok (.iload_n 1, 1) := by decide +kernel
theorem dX12_anew_20 : decode cX12_anew 20 = .ok (.imul, 1) := by decide +kernel
theorem dX12_anew_21 : decode cX12_anew 21 = .ok (.iadd, 1) := by decide +kernel
theorem dX12_anew_22 : decode cX12_anew 22 = .ok (.iconst 4, 1) := by decide +kernel
theorem dX12_anew_23 : decode cX12_anew 23 = .ok (.iadd, 1) := by decide +kernel
theorem dX12_anew_24 : decode cX12_anew 24 = .ok (.iconst 3, 1) := by decide +kernel
theorem dX12_anew_25 : decode cX12_anew 25 = .ok (.iastore, 1) := by decide +kernel
theorem dX12_anew_26 : decode cX12_anew 26 = .ok (.iinc 1 1, 3) := by decide +kernel
theorem dX12_anew_29 : decode cX12_anew 29 = .ok (.goto (-27), 3) := by decide +kernel
theorem dX12_anew_32 : decode cX12_anew 32 = .ok (.bipush 38, 2) := by decide +kernel
theorem dX12_anew_34 : decode cX12_anew 34 = .ok (.istore_n 1, 1) := by decide +kernel
theorem dX12_anew_35 : decode cX12_anew 35 = .ok (.iload_n 1, 1) := by decide +kernel
theorem dX12_anew_36 : decode cX12_anew 36 = .ok (.bipush 47, 2) := by decide +kernel
theorem dX12_anew_38 : decode cX12_anew 38 = .ok (.if_icmp .ge 16, 3) := by decide +kernel
theorem dX12_anew_41 : decode cX12_anew 41 = .ok (.aload_n 0, 1) := by decide +kernel
theorem dX12_anew_42 : decode cX12_anew 42 = .ok (.getfield 7, 3) := by decide +kernel
theorem dX12_anew_45 : decode cX12_anew 45 = .ok (.iload_n 1, 1) := by decide +kernel
theorem dX12_anew_46 : decode cX12_anew 46 = .ok (.iconst 0, 1) := by decide +kernel
theorem dX12_anew_47 : decode cX12_anew 47 = .ok (.iastore, 1) := by decide +kernel
theorem dX12_anew_48 : decode cX12_anew 48 = .ok (.iinc 1 1, 3) := by decide +kernel
theorem dX12_anew_51 : decode cX12_anew 51 = .ok (.goto (-16), 3) := by decide +kernel
theorem dX12_anew_54 : decode cX12_anew 54 = .ok (.aload_n 0, 1) := by decide +kernel
theorem dX12_anew_55 : decode cX12_anew 55 = .ok (.getfield 7, 3) := by decide +kernel
theorem dX12_anew_58 : decode cX12_anew 58 = .ok (.iconst 3, 1) := by decide +kernel
theorem dX12_anew_59 : decode cX12_anew 59 = .ok (.iconst 0, 1) := by decide +kernel
theorem dX12_anew_60 : decode cX12_anew 60 = .ok (.iastore, 1) := by decide +kernel
theorem dX12_anew_61 : decode cX12_anew 61 = .ok (.aload_n 0, 1) := by decide +kernel
theorem dX12_anew_62 : decode cX12_anew 62 = .ok (.iconst 1, 1) := by decide +kernel
theorem dX12_anew_63 : decode cX12_anew 63 = .ok (.iconst 0, 1) := by decide +kernel
theorem dX12_anew_64 : decode cX12_anew 64 = .ok (.invokevirtual 108, 3) := by decide +kernel
theorem dX12_anew_67 : decode cX12_anew 67 = .ok (.ireturn, 1) := by decide +kernel
theorem dX12_noneLeft_0 : decode cX12_noneLeft 0 = .ok (.iconst 0, 1) := by decide +kernel
theorem dX12_noneLeft_1 : decode cX12_noneLeft 1 = .ok (.istore_n 1, 1) := by decide +kernel
theorem dX12_noneLeft_2 : decode cX12_noneLeft 2 = .ok (.iconst 0, 1) := by decide +kernel
theorem dX12_noneLeft_3 : decode cX12_noneLeft 3 = .ok (.istore_n 2, 1) := by decide +kernel
theorem dX12_noneLeft_4 : decode cX12_noneLeft 4 = .ok (.iload_n 2, 1) := by decide +kernel
theorem dX12_noneLeft_5 : decode cX12_noneLeft 5 = .ok (.aload_n 0, 1) := by decide +kernel
theorem dX12_noneLeft_6 : decode cX12_noneLeft 6 = .ok (.getfield 7, 3) := by decide +kernel
theorem dX12_noneLeft_9 : decode cX12_noneLeft 9 = .ok (.iconst 0, 1) := by decide +kernel
theorem dX12_noneLeft_10 : decode cX12_noneLeft 10 = .ok (.iaload, 1) := by decide +kernel
theorem dX12_noneLeft_11 : decode cX12_noneLeft 11 = .ok (.if_icmp .ge 28, 3) := by decide +kernel
theorem dX12_noneLeft_14 : decode cX12_noneLeft 14 = .ok (.iload_n 1, 1) := by decide +kernel
theorem dX12_noneLeft_15 : decode cX12_noneLeft 15 = .ok (.aload_n 0, 1) := by decide +kernel
theorem dX12_noneLeft_16 : decode cX12_noneLeft 16 = .ok (.iload_n 2, 1) := by decide +kernel
theorem dX12_noneLeft_17 : decode cX12_noneLeft 17 = .ok (.iconst 4, 1) := by decide +kernel
theorem dX12_noneLeft_18 : decode cX12_noneLeft 18 = .ok (.invokevirtual 69, 3) := by decide +kernel
theorem dX12_noneLeft_21 : decode cX12_noneLeft 21 = .ok (.ifCond .ne 9, 3) := by decide +kernel
theorem dX12_noneLeft_24 : decode cX12_noneLeft 24 = .ok (.iconst 1, 1) := by decide +kernel
theorem dX12_noneLeft_25 : decode cX12_noneLeft 25 = .ok (.iload_n 2, 1) := by decide +kernel
theorem dX12_noneLeft_26 : decode cX12_noneLeft 26 = .ok (.ishl, 1) := by decide +kernel
theorem dX12_noneLeft_27 : decode cX12_noneLeft 27 = .ok (.goto 4, 3) := by decide +kernel
theorem dX12_noneLeft_30 : decode cX12_noneLeft 30 = .ok (.iconst 0, 1) := by decide +kernel
theorem dX12_noneLeft_31 : decode cX12_noneLeft 31 = .ok (.ior, 1) := by decide +kernel
theorem dX12_noneLeft_32 : decode cX12_noneLeft 32 = .ok (.istore_n 1, 1) := by decide +kernel
theorem dX12_noneLeft_33 : decode cX12_noneLeft 33 = .ok (.iinc 2 1, 3) := by decide +kernel
theorem dX12_noneLeft_36 : decode cX12_noneLeft 36 = .ok (.goto (-32), 3) := by decide +kernel
theorem dX12_noneLeft_39 : decode cX12_noneLeft 39 = .ok (.iload_n 1, 1) := by decide +kernel
theorem dX12_noneLeft_40 : decode cX12_noneLeft 40 = .ok (.ireturn, 1) := by decide +kernel
theorem dX12_state_0 : decode cX12_state 0 = .ok (.iload_n 1, 1) := by decide +kernel
theorem dX12_state_1 : decode cX12_state 1 = .ok (.tableswitch 86 0 7 #[47, 47, 47, 56, 69, 74, 74, 74], 47) := by decide +kernel
theorem dX12_state_48 : decode cX12_state 48 = .ok (.aload_n 0, 1) := by decide +kernel
theorem dX12_state_49 : decode cX12_state 49 = .ok (.getfield 7, 3) := by decide +kernel
theorem dX12_state_52 : decode cX12_state 52 = .ok (.iconst 1, 1) := by decide +kernel
theorem dX12_state_53 : decode cX12_state 53 = .ok (.iload_n 1, 1) := by decide +kernel
theorem dX12_state_54 : decode cX12_state 54 = .ok (.iadd, 1) := by decide +kernel
theorem dX12_state_55 : decode cX12_state 55 = .ok (.iaload, 1) := by decide +kernel
theorem dX12_state_56 : decode cX12_state 56 = .ok (.ireturn, 1) := by decide +kernel
theorem dX12_state_57 : decode cX12_state 57 = .ok (.aload_n 0, 1) := by decide +kernel
theorem dX12_state_58 : decode cX12_state 58 = .ok (.invokevirtual 115, 3) := by decide +kernel
theorem dX12_state_61 : decode cX12_state 61 = .ok (.ifCond .eq 7, 3) := by decide +kernel
theorem dX12_state_64 : decode cX12_state 64 = .ok (.iconst 1, 1) := by decide +kernel
theorem dX12_state_65 : decode cX12_state 65 = .ok (.goto 4, 3) := by decide +kernel
theorem dX12_state_68 : decode cX12_state 68 = .ok (.iconst 0, 1) := by decide +kernel
theorem dX12_state_69 : decode cX12_state 69 = .ok (.ireturn, 1) := by decide +kernel
theorem dX12_state_70 : decode cX12_state 70 = .ok (.aload_n 0, 1) := by decide +kernel
theorem dX12_state_71 : decode cX12_state 71 = .ok (.invokevirtual 119, 3) := by decide +kernel
theorem dX12_state_74 : decode cX12_state 74 = .ok (.ireturn, 1) := by decide +kernel
theorem dX12_state_75 : decode cX12_state 75 = .ok (.aload_n 0, 1) := by decide +kernel
theorem dX12_state_76 : decode cX12_state 76 = .ok (.getfield 7, 3) := by decide +kernel
theorem dX12_state_79 : decode cX12_state 79 = .ok (.bipush 38, 2) := by decide +kernel
theorem dX12_state_81 : decode cX12_state 81 = .ok (.iload_n 1, 1) := by decide +kernel
theorem dX12_state_82 : decode cX12_state 82 = .ok (.iadd, 1) := by decide +kernel
theorem dX12_state_83 : decode cX12_state 83 = .ok (.iconst 5, 1) := by decide +kernel
theorem dX12_state_84 : decode cX12_state 84 = .ok (.isub, 1) := by decide +kernel
theorem dX12_state_85 : decode cX12_state 85 = .ok (.iaload, 1) := by decide +kernel
theorem dX12_state_86 : decode cX12_state 86 = .ok (.ireturn, 1) := by decide +kernel
theorem dX12_state_87 : decode cX12_state 87 = .ok (.iconst (-1), 1) := by decide +kernel
theorem dX12_state_88 : decode cX12_state 88 = .ok (.ireturn, 1) := by decide +kernel
theorem dX12_feed_0 : decode cX12_feed 0 = .ok (.iload_n 3, 1) := by decide +kernel
theorem dX12_feed_1 : decode cX12_feed 1 = .ok (.i2l, 1) := by decide +kernel
theorem dX12_feed_2 : decode cX12_feed 2 = .ok (.lconst 1, 1) := by decide +kernel
theorem dX12_feed_3 : decode cX12_feed 3 = .ok (.ldc2_w 91, 3) := by decide +kernel
theorem dX12_feed_6 : decode cX12_feed 6 = .ok (.invokestatic 57, 3) := by decide +kernel
theorem dX12_feed_9 : decode cX12_feed 9 = .ok (.ifCond .ne 5, 3) := by decide +kernel
theorem dX12_feed_12 : decode cX12_feed 12 = .ok (.iconst (-1), 1) := by decide +kernel
theorem dX12_feed_13 : decode cX12_feed 13 = .ok (.ireturn, 1) := by decide +kernel
theorem dX12_feed_14 : decode cX12_feed 14 = .ok (.aload_n 0, 1) := by decide +kernel
theorem dX12_feed_15 : decode cX12_feed 15 = .ok (.getfield 123, 3) := by decide +kernel
theorem dX12_feed_18 : decode cX12_feed 18 = .ok (.iload_n 3, 1) := by decide +kernel
theorem dX12_feed_19 : decode cX12_feed 19 = .ok (.iadd, 1) := by decide +kernel
theorem dX12_feed_20 : decode cX12_feed 20 = .ok (.sipush 200, 3) := by decide +kernel
theorem dX12_feed_23 : decode cX12_feed 23 = .ok (.if_icmp .le 6, 3) := by decide +kernel
theorem dX12_feed_26 : decode cX12_feed 26 = .ok (.bipush (-2), 2) := by decide +kernel
theorem dX12_feed_28 : decode cX12_feed 28 = .ok (.ireturn, 1) := by decide +kernel
theorem dX12_feed_29 : decode cX12_feed 29 = .ok (.iconst 0, 1) := by decide +kernel
theorem dX12_feed_30 : decode cX12_feed 30 = .ok (.istore 4, 2) := by decide +kernel
theorem dX12_feed_32 : decode cX12_feed 32 = .ok (.iload 4, 2) := by decide +kernel
theorem dX12_feed_34 : decode cX12_feed 34 = .ok (.iload_n 3, 1) := by decide +kernel
theorem dX12_feed_35 : decode cX12_feed 35 = .ok (.if_icmp .ge 40, 3) := by decide +kernel
theorem dX12_feed_38 : decode cX12_feed 38 = .ok (.aload_n 0, 1) := by decide +kernel
theorem dX12_feed_39 : decode cX12_feed 39 = .ok (.getfield 19, 3) := by decide +kernel
theorem dX12_feed_42 : decode cX12_feed 42 = .ok (.aload_n 0, 1) := by decide +kernel
theorem dX12_feed_43 : decode cX12_feed 43 = .ok (.getfield 123, 3) := by decide +kernel
theorem dX12_feed_46 : decode cX12_feed 46 = .ok (.lload_n 1, 1) := by decide +kernel
theorem dX12_feed_47 : decode cX12_feed 47 = .ok (.bipush 8, 2) := by decide +kernel
theorem dX12_feed_49 : decode cX12_feed 49 = .ok (.iload 4, 2) := by decide +kernel
theorem dX12_feed_51 : decode cX12_feed 51 = .ok (.imul, 1) := by decide +kernel
theorem dX12_feed_52 : decode cX12_feed 52 = .ok (.lshr, 1) := by decide +kernel
theorem dX12_feed_53 : decode cX12_feed 53 = .ok (.ldc2_w 127, 3) := by decide +kernel
theorem dX12_feed_56 : decode cX12_feed 56 = .ok (.land, 1) := by decide +kernel
theorem dX12_feed_57 : decode cX12_feed 57 = .ok (.l2i, 1) := by decide +kernel
theorem dX12_feed_58 : decode cX12_feed 58 = .ok (.iastore, 1) := by decide +kernel
theorem dX12_feed_59 : decode cX12_feed 59 = .ok (.aload_n 0, 1) := by decide +kernel
theorem dX12_feed_60 : decode cX12_feed 60 = .ok (.dup, 1) := by decide +kernel
theorem dX12_feed_61 : decode cX12_feed 61 = .ok (.getfield 123, 3) := by decide +kernel
theorem dX12_feed_64 : decode cX12_feed 64 = .ok (.iconst 1, 1) := by decide +kernel
theorem dX12_feed_65 : decode cX12_feed 65 = .ok (.iadd, 1) := by decide +kernel
theorem dX12_feed_66 : decode cX12_feed 66 = .ok (.putfield 123, 3) := by decide +kernel
theorem dX12_feed_69 : decode cX12_feed 69 = .ok (.iinc 4 1, 3) := by decide +kernel
theorem dX12_feed_72 : decode cX12_feed 72 = .ok (.goto (-40), 3) := by decide +kernel
theorem dX12_feed_75 : decode cX12_feed 75 = .ok (.aload_n 0, 1) := by decide +kernel
theorem dX12_feed_76 : decode cX12_feed 76 = .ok (.getfield 123, 3) := by decide +kernel
theorem dX12_feed_79 : decode cX12_feed 79 = .ok (.ireturn, 1) := by decide +kernel
theorem dX12_isAlpha_0 : decode cX12_isAlpha 0 = .ok (.iload_n 0, 1) := by decide +kernel
theorem dX12_isAlpha_1 : decode cX12_isAlpha 1 = .ok (.bipush 97, 2) := by decide +kernel
theorem dX12_isAlpha_3 : decode cX12_isAlpha 3 = .ok (.if_icmp .lt 13, 3) := by decide +kernel
theorem dX12_isAlpha_6 : decode cX12_isAlpha 6 = .ok (.iload_n 0, 1) := by decide +kernel
theorem dX12_isAlpha_7 : decode cX12_isAlpha 7 = .ok (.bipush 122, 2) := by decide +kernel
theorem dX12_isAlpha_9 : decode cX12_isAlpha 9 = .ok (.if_icmp .gt 7, 3) := by decide +kernel
theorem dX12_isAlpha_12 : decode cX12_isAlpha 12 = .ok (.iconst 1, 1) := by decide +kernel
theorem dX12_isAlpha_13 : decode cX12_isAlpha 13 = .ok (.goto 4, 3) := by decide +kernel
theorem dX12_isAlpha_16 : decode cX12_isAlpha 16 = .ok (.iconst 0, 1) := by decide +kernel
theorem dX12_isAlpha_17 : decode cX12_isAlpha 17 = .ok (.ireturn, 1) := by decide +kernel
theorem dX12_isDigit_0 : decode cX12_isDigit 0 = .ok (.iload_n 0, 1) := by decide +kernel
theorem dX12_isDigit_1 : decode cX12_isDigit 1 = .ok (.bipush 48, 2) := by decide +kernel
theorem dX12_isDigit_3 : decode cX12_isDigit 3 = .ok (.if_icmp .lt 13, 3) := by decide +kernel
theorem dX12_isDigit_6 : decode cX12_isDigit 6 = .ok (.iload_n 0, 1) := by decide +kernel
theorem dX12_isDigit_7 : decode cX12_isDigit 7 = .ok (.bipush 57, 2) := by decide +kernel
theorem dX12_isDigit_9 : decode cX12_isDigit 9 = .ok (.if_icmp .gt 7, 3) := by decide +kernel
theorem dX12_isDigit_12 : decode cX12_isDigit 12 = .ok (.iconst 1, 1) := by decide +kernel
theorem dX12_isDigit_13 : decode cX12_isDigit 13 = .ok (.goto 4, 3) := by decide +kernel
theorem dX12_isDigit_16 : decode cX12_isDigit 16 = .ok (.iconst 0, 1) := by decide +kernel
theorem dX12_isDigit_17 : decode cX12_isDigit 17 = .ok (.ireturn, 1) := by decide +kernel
theorem dX12_byteAt_0 : decode cX12_byteAt 0 = .ok (.iload_n 1, 1) := by decide +kernel
theorem dX12_byteAt_1 : decode cX12_byteAt 1 = .ok (.aload_n 0, 1) := by decide +kernel
theorem dX12_byteAt_2 : decode cX12_byteAt 2 = .ok (.getfield 123, 3) := by decide +kernel
theorem dX12_byteAt_5 : decode cX12_byteAt 5 = .ok (.if_icmp .ge 12, 3) := by decide +kernel
theorem dX12_byteAt_8 : decode cX12_byteAt 8 = .ok (.aload_n 0, 1) := by decide +kernel
theorem dX12_byteAt_9 : decode cX12_byteAt 9 = .ok (.getfield 19, 3) := by decide +kernel
theorem dX12_byteAt_12 : decode cX12_byteAt 12 = .ok (.iload_n 1, 1) := by decide +kernel
theorem dX12_byteAt_13 : decode cX12_byteAt 13 = .ok (.iaload, 1) := by decide +kernel
theorem dX12_byteAt_14 : decode cX12_byteAt 14 = .ok (.goto 4, 3) := by decide +kernel
theorem dX12_byteAt_17 : decode cX12_byteAt 17 = .ok (.iconst (-1), 1) := by decide +kernel
theorem dX12_byteAt_18 : decode cX12_byteAt 18 = .ok (.ireturn, 1) := by decide +kernel
theorem dX12_nextToken_0 : decode cX12_nextToken 0 = .ok (.aload_n 0, 1) := by decide +kernel
theorem dX12_nextToken_1 : decode cX12_nextToken 1 = .ok (.aload_n 0, 1) := by decide +kernel
theorem dX12_nextToken_2 : decode cX12_nextToken 2 = .ok (.getfield 129, 3) := by decide +kernel
theorem dX12_nextToken_5 : decode cX12_nextToken 5 = .ok (.putfield 132, 3) := by decide +kernel
theorem dX12_nextToken_8 : decode cX12_nextToken 8 = .ok (.aload_n 0, 1) := by decide +kernel
theorem dX12_nextToken_9 : decode cX12_nextToken 9 = .ok (.aload_n 0, 1) := by decide +kernel
theorem dX12_nextToken_10 : decode cX12_nextToken 10 = .ok (.getfield 132, 3) := by decide +kernel
theorem dX12_nextToken_13 : decode cX12_nextToken 13 = .ok (.invokevirtual 135, 3) := by decide +kernel
theorem dX12_nextToken_16 : decode cX12_nextToken 16 = .ok (.bipush 32, 2) := by decide +kernel
theorem dX12_nextToken_18 : decode cX12_nextToken 18 = .ok (.if_icmp .ne 16, 3) := by decide +kernel
theorem dX12_nextToken_21 : decode cX12_nextToken 21 = .ok (.aload_n 0, 1) := by decide +kernel
theorem dX12_nextToken_22 : decode cX12_nextToken 22 = .ok (.dup, 1) := by decide +kernel
theorem dX12_nextToken_23 : decode cX12_nextToken 23 = .ok (.getfield 132, 3) := by decide +kernel
theorem dX12_nextToken_26 : decode cX12_nextToken 26 = .ok (.iconst 1, 1) := by decide +kernel
theorem dX12_nextToken_27 : decode cX12_nextToken 27 = .ok (.iadd, 1) := by decide +kernel
theorem dX12_nextToken_28 : decode cX12_nextToken 28 = .ok (.putfield 132, 3) := by decide +kernel
theorem dX12_nextToken_31 : decode cX12_nextToken 31 = .ok (.goto (-23), 3) := by decide +kernel
theorem dX12_nextToken_34 : decode cX12_nextToken 34 = .ok (.aload_n 0, 1) := by decide +kernel
theorem dX12_nextToken_35 : decode cX12_nextToken 35 = .ok (.aload_n 0, 1) := by decide +kernel
theorem dX12_nextToken_36 : decode cX12_nextToken 36 = .ok (.getfield 132, 3) := by decide +kernel
theorem dX12_nextToken_39 : decode cX12_nextToken 39 = .ok (.putfield 129, 3) := by decide +kernel
theorem dX12_nextToken_42 : decode cX12_nextToken 42 = .ok (.aload_n 0, 1) := by decide +kernel
theorem dX12_nextToken_43 : decode cX12_nextToken 43 = .ok (.aload_n 0, 1) := by decide +kernel
theorem dX12_nextToken_44 : decode cX12_nextToken 44 = .ok (.getfield 132, 3) := by decide +kernel
theorem dX12_nextToken_47 : decode cX12_nextToken 47 = .ok (.invokevirtual 135, 3) := by decide +kernel
theorem dX12_nextToken_50 : decode cX12_nextToken 50 = .ok (.istore_n 1, 1) := by decide +kernel
theorem dX12_nextToken_51 : decode cX12_nextToken 51 = .ok (.aload_n 0, 1) := by decide +kernel
theorem dX12_nextToken_52 : decode cX12_nextToken 52 = .ok (.iload_n 1, 1) := by decide +kernel
theorem dX12_nextToken_53 : decode cX12_nextToken 53 = .ok (.ifCond .ge 7, 3) := by decide +kernel
theorem dX12_nextToken_56 : decode cX12_nextToken 56 = .ok (.iconst 0, 1) := by decide +kernel
theorem dX12_nextToken_57 : decode cX12_nextToken 57 = .ok (.goto 26, 3) := by decide +kernel
theorem dX12_nextToken_60 : decode cX12_nextToken 60 = .ok (.iload_n 1, 1) := by decide +kernel
theorem dX12_nextToken_61 : decode cX12_nextToken 61 = .ok (.invokestatic 138, 3) := by decide +kernel
theorem dX12_nextToken_64 : decode cX12_nextToken 64 = .ok (.ifCond .eq 7, 3) := by decide +kernel
theorem dX12_nextToken_67 : decode cX12_nextToken 67 = .ok (.iconst 1, 1) := by decide +kernel
theorem dX12_nextToken_68 : decode cX12_nextToken 68 = .ok (.goto 15, 3) := by decide +kernel
theorem dX12_nextToken_71 : decode cX12_nextToken 71 = .ok (.iload_n 1, 1) := by decide +kernel
theorem dX12_nextToken_72 : decode cX12_nextToken 72 = .ok (.invokestatic 141, 3) := by decide +kernel
theorem dX12_nextToken_75 : decode cX12_nextToken 75 = .ok (.ifCond .eq 7, 3) := by decide +kernel
theorem dX12_nextToken_78 : decode cX12_nextToken 78 = .ok (.iconst 2, 1) := by decide +kernel
theorem dX12_nextToken_79 : decode cX12_nextToken 79 = .ok (.goto 4, 3) := by decide +kernel
theorem dX12_nextToken_82 : decode cX12_nextToken 82 = .ok (.iconst 3, 1) := by decide +kernel
theorem dX12_nextToken_83 : decode cX12_nextToken 83 = .ok (.putfield 144, 3) := by decide +kernel
theorem dX12_nextToken_86 : decode cX12_nextToken 86 = .ok (.aload_n 0, 1) := by decide +kernel
theorem dX12_nextToken_87 : decode cX12_nextToken 87 = .ok (.iconst 0, 1) := by decide +kernel
theorem dX12_nextToken_88 : decode cX12_nextToken 88 = .ok (.putfield 147, 3) := by decide +kernel
theorem dX12_nextToken_91 : decode cX12_nextToken 91 = .ok (.aload_n 0, 1) := by decide +kernel
theorem dX12_nextToken_92 : decode cX12_nextToken 92 = .ok (.getfield 144, 3) := by decide +kernel
theorem dX12_nextToken_95 : decode cX12_nextToken 95 = .ok (.iconst 1, 1) := by decide +kernel
theorem dX12_nextToken_96 : decode cX12_nextToken 96 = .ok (.if_icmp .ne 30, 3) := by decide +kernel
theorem dX12_nextToken_99 : decode cX12_nextToken 99 = .ok (.aload_n 0, 1) := by decide +kernel
theorem dX12_nextToken_100 : decode cX12_nextToken 100 = .ok (.aload_n 0, 1) := by decide +kernel
theorem dX12_nextToken_101 : decode cX12_nextToken 101 = .ok (.getfield 129, 3) := by decide +kernel
theorem dX12_nextToken_104 : decode cX12_nextToken 104 = .ok (.invokevirtual 135, 3) := by decide +kernel
theorem dX12_nextToken_107 : decode cX12_nextToken 107 = .ok (.invokestatic 138, 3) := by decide +kernel
theorem dX12_nextToken_110 : decode cX12_nextToken 110 = .ok (.ifCond .eq 16, 3) := by decide +kernel
theorem dX12_nextToken_113 : decode cX12_nextToken 113 = .ok (.aload_n 0, 1) := by decide +kernel
theorem dX12_nextToken_114 : decode cX12_nextToken 114 = .ok (.dup, 1) := by decide +kernel
theorem dX12_nextToken_115 : decode cX12_nextToken 115 = .ok (.getfield 129, 3) := by decide +kernel
theorem dX12_nextToken_118 : decode cX12_nextToken 118 = .ok (.iconst 1, 1) := by decide +kernel
theorem dX12_nextToken_119 : decode cX12_nextToken 119 = .ok (.iadd, 1) := by decide +kernel
theorem dX12_nextToken_120 : decode cX12_nextToken 120 = .ok (.putfield 129, 3) := by decide +kernel
theorem dX12_nextToken_123 : decode cX12_nextToken 123 = .ok (.goto (-32), 3) := by decide +kernel
theorem dX12_nextToken_126 : decode cX12_nextToken 126 = .ok (.aload_n 0, 1) := by decide +kernel
theorem dX12_nextToken_127 : decode cX12_nextToken 127 = .ok (.getfield 144, 3) := by decide +kernel
theorem dX12_nextToken_130 : decode cX12_nextToken 130 = .ok (.iconst 2, 1) := by decide +kernel
theorem dX12_nextToken_131 : decode cX12_nextToken 131 = .ok (.if_icmp .ne 70, 3) := by decide +kernel
theorem dX12_nextToken_134 : decode cX12_nextToken 134 = .ok (.aload_n 0, 1) := by decide +kernel
theorem dX12_nextToken_135 : decode cX12_nextToken 135 = .ok (.aload_n 0, 1) := by decide +kernel
theorem dX12_nextToken_136 : decode cX12_nextToken 136 = .ok (.getfield 129, 3) := by decide +kernel
theorem dX12_nextToken_139 : decode cX12_nextToken 139 = .ok (.invokevirtual 135, 3) := by decide +kernel
theorem dX12_nextToken_142 : decode cX12_nextToken 142 = .ok (.invokestatic 141, 3) := by decide +kernel
theorem dX12_nextToken_145 : decode cX12_nextToken 145 = .ok (.ifCond .eq 56, 3) := by decide +kernel
theorem dX12_nextToken_148 : decode cX12_nextToken 148 = .ok (.aload_n 0, 1) := by decide +kernel
theorem dX12_nextToken_149 : decode cX12_nextToken 149 = .ok (.aload_n 0, 1) := by decide +kernel
theorem dX12_nextToken_150 : decode cX12_nextToken 150 = .ok (.getfield 147, 3) := by decide +kernel
theorem dX12_nextToken_153 : decode cX12_nextToken 153 = .ok (.sipush 9999, 3) := by decide +kernel
theorem dX12_nextToken_156 : decode cX12_nextToken 156 = .ok (.if_icmp .le 10, 3) := by decide +kernel
theorem dX12_nextToken_159 : decode cX12_nextToken 159 = .ok (.aload_n 0, 1) := by decide +kernel
theorem dX12_nextToken_160 : decode cX12_nextToken 160 = .ok (.getfield 147, 3) := by decide +kernel
theorem dX12_nextToken_163 : decode cX12_nextToken 163 = .ok (.goto 22, 3) := by decide +kernel
theorem dX12_nextToken_166 : decode cX12_nextToken 166 = .ok (.bipush 10, 2) := by decide +kernel
theorem dX12_nextToken_168 : decode cX12_nextToken 168 = .ok (.aload_n 0, 1) := by decide +kernel
theorem dX12_nextToken_169 : decode cX12_nextToken 169 = .ok (.getfield 147, 3) := by decide +kernel
theorem dX12_nextToken_172 : decode cX12_nextToken 172 = .ok (.imul, 1) := by decide +kernel
theorem dX12_nextToken_173 : decode cX12_nextToken 173 = .ok (.aload_n 0, 1) := by decide +kernel
theorem dX12_nextToken_174 : decode cX12_nextToken 174 = .ok (.aload_n 0, 1) := by decide +kernel
theorem dX12_nextToken_175 : decode cX12_nextToken 175 = .ok (.getfield 129, 3) := by decide +kernel
theorem dX12_nextToken_178 : decode cX12_nextToken 178 = .ok (.invokevirtual 135, 3) := by decide +kernel
theorem dX12_nextToken_181 : decode cX12_nextToken 181 = .ok (.iadd, 1) := by decide +kernel
theorem dX12_nextToken_182 : decode cX12_nextToken 182 = .ok (.bipush 48, 2) := by decide +kernel
theorem dX12_nextToken_184 : decode cX12_nextToken 184 = .ok (.isub, 1) := by decide +kernel
theorem dX12_nextToken_185 : decode cX12_nextToken 185 = .ok (.putfield 147, 3) := by decide +kernel
theorem dX12_nextToken_188 : decode cX12_nextToken 188 = .ok (.aload_n 0, 1) := by decide +kernel
theorem dX12_nextToken_189 : decode cX12_nextToken 189 = .ok (.dup, 1) := by decide +kernel
theorem dX12_nextToken_190 : decode cX12_nextToken 190 = .ok (.getfield 129, 3) := by decide +kernel
theorem dX12_nextToken_193 : decode cX12_nextToken 193 = .ok (.iconst 1, 1) := by decide +kernel
theorem dX12_nextToken_194 : decode cX12_nextToken 194 = .ok (.iadd, 1) := by decide +kernel
theorem dX12_nextToken_195 : decode cX12_nextToken 195 = .ok (.putfield 129, 3) := by decide +kernel
theorem dX12_nextToken_198 : decode cX12_nextToken 198 = .ok (.goto (-72), 3) := by decide +kernel
theorem dX12_nextToken_201 : decode cX12_nextToken 201 = .ok (.aload_n 0, 1) := by decide +kernel
theorem dX12_nextToken_202 : decode cX12_nextToken 202 = .ok (.dup, 1) := by decide +kernel
theorem dX12_nextToken_203 : decode cX12_nextToken 203 = .ok (.getfield 129, 3) := by decide +kernel
theorem dX12_nextToken_206 : decode cX12_nextToken 206 = .ok (.aload_n 0, 1) := by decide +kernel
theorem dX12_nextToken_207 : decode cX12_nextToken 207 = .ok (.getfield 144, 3) := by decide +kernel
theorem dX12_nextToken_210 : decode cX12_nextToken 210 = .ok (.iconst 2, 1) := by decide +kernel
theorem dX12_nextToken_211 : decode cX12_nextToken 211 = .ok (.if_icmp .le 7, 3) := by decide +kernel
theorem dX12_nextToken_214 : decode cX12_nextToken 214 = .ok (.iconst 1, 1) := by decide +kernel
theorem dX12_nextToken_215 : decode cX12_nextToken 215 = .ok (.goto 4, 3) := by decide +kernel
theorem dX12_nextToken_218 : decode cX12_nextToken 218 = .ok (.iconst 0, 1) := by decide +kernel
theorem dX12_nextToken_219 : decode cX12_nextToken 219 = .ok (.iadd, 1) := by decide +kernel
theorem dX12_nextToken_220 : decode cX12_nextToken 220 = .ok (.putfield 129, 3) := by decide +kernel
theorem dX12_nextToken_223 : decode cX12_nextToken 223 = .ok (.return_, 1) := by decide +kernel
theorem dX12_needs_0 : decode cX12_needs 0 = .ok (.aload_n 0, 1) := by decide +kernel
theorem dX12_needs_1 : decode cX12_needs 1 = .ok (.aload_n 0, 1) := by decide +kernel
theorem dX12_needs_2 : decode cX12_needs 2 = .ok (.getfield 150, 3) := by decide +kernel
theorem dX12_needs_5 : decode cX12_needs 5 = .ok (.ifCond .ne 7, 3) := by decide +kernel
theorem dX12_needs_8 : decode cX12_needs 8 = .ok (.iload_n 1, 1) := by decide +kernel
theorem dX12_needs_9 : decode cX12_needs 9 = .ok (.ifCond .ne 7, 3) := by decide +kernel
theorem dX12_needs_12 : decode cX12_needs 12 = .ok (.iconst 1, 1) := by decide +kernel
theorem dX12_needs_13 : decode cX12_needs 13 = .ok (.goto 4, 3) := by decide +kernel
theorem dX12_needs_16 : decode cX12_needs 16 = .ok (.iconst 0, 1) := by decide +kernel
theorem dX12_needs_17 : decode cX12_needs 17 = .ok (.putfield 150, 3) := by decide +kernel
theorem dX12_needs_20 : decode cX12_needs 20 = .ok (.aload_n 0, 1) := by decide +kernel
theorem dX12_needs_21 : decode cX12_needs 21 = .ok (.getfield 150, 3) := by decide +kernel
theorem dX12_needs_24 : decode cX12_needs 24 = .ok (.ifCond .ne 7, 3) := by decide +kernel
theorem dX12_needs_27 : decode cX12_needs 27 = .ok (.aload_n 0, 1) := by decide +kernel
theorem dX12_needs_28 : decode cX12_needs 28 = .ok (.invokevirtual 154, 3) := by decide +kernel
theorem dX12_needs_31 : decode cX12_needs 31 = .ok (.return_, 1) := by decide +kernel
theorem dX12_isByte_0 : decode cX12_isByte 0 = .ok (.aload_n 0, 1) := by decide +kernel
theorem dX12_isByte_1 : decode cX12_isByte 1 = .ok (.getfield 144, 3) := by decide +kernel
theorem dX12_isByte_4 : decode cX12_isByte 4 = .ok (.iconst 3, 1) := by decide +kernel
theorem dX12_isByte_5 : decode cX12_isByte 5 = .ok (.if_icmp .ne 19, 3) := by decide +kernel
theorem dX12_isByte_8 : decode cX12_isByte 8 = .ok (.aload_n 0, 1) := by decide +kernel
theorem dX12_isByte_9 : decode cX12_isByte 9 = .ok (.aload_n 0, 1) := by decide +kernel
theorem dX12_isByte_10 : decode cX12_isByte 10 = .ok (.getfield 132, 3) := by decide +kernel
theorem dX12_isByte_13 : decode cX12_isByte 13 = .ok (.invokevirtual 135, 3) := by decide +kernel
theorem dX12_isByte_16 : decode cX12_isByte 16 = .ok (.iload_n 1, 1) := by decide +kernel
theorem dX12_isByte_17 : decode cX12_isByte 17 = .ok (.if_icmp .ne 7, 3) := by decide +kernel
theorem dX12_isByte_20 : decode cX12_isByte 20 = .ok (.iconst 1, 1) := by decide +kernel
theorem dX12_isByte_21 : decode cX12_isByte 21 = .ok (.goto 4, 3) := by decide +kernel
theorem dX12_isByte_24 : decode cX12_isByte 24 = .ok (.iconst 0, 1) := by decide +kernel
theorem dX12_isByte_25 : decode cX12_isByte 25 = .ok (.ireturn, 1) := by decide +kernel
theorem dX12_isName_0 : decode cX12_isName 0 = .ok (.aload_n 0, 1) := by decide +kernel
theorem dX12_isName_1 : decode cX12_isName 1 = .ok (.getfield 144, 3) := by decide +kernel
theorem dX12_isName_4 : decode cX12_isName 4 = .ok (.iconst 1, 1) := by decide +kernel
theorem dX12_isName_5 : decode cX12_isName 5 = .ok (.if_icmp .ne 76, 3) := by decide +kernel
theorem dX12_isName_8 : decode cX12_isName 8 = .ok (.aload_n 0, 1) := by decide +kernel
theorem dX12_isName_9 : decode cX12_isName 9 = .ok (.getfield 129, 3) := by decide +kernel
theorem dX12_isName_12 : decode cX12_isName 12 = .ok (.aload_n 0, 1) := by decide +kernel
theorem dX12_isName_13 : decode cX12_isName 13 = .ok (.getfield 132, 3) := by decide +kernel
theorem dX12_isName_16 : decode cX12_isName 16 = .ok (.isub, 1) := by decide +kernel
theorem dX12_isName_17 : decode cX12_isName 17 = .ok (.iload_n 1, 1) := by decide +kernel
theorem dX12_isName_18 : decode cX12_isName 18 = .ok (.if_icmp .ne 63, 3) := by decide +kernel
theorem dX12_isName_21 : decode cX12_isName 21 = .ok (.aload_n 0, 1) := by decide +kernel
theorem dX12_isName_22 : decode cX12_isName 22 = .ok (.aload_n 0, 1) := by decide +kernel
theorem dX12_isName_23 : decode cX12_isName 23 = .ok (.getfield 132, 3) := by decide +kernel
theorem dX12_isName_26 : decode cX12_isName 26 = .ok (.invokevirtual 135, 3) := by decide +kernel
theorem dX12_isName_29 : decode cX12_isName 29 = .ok (.iload_n 2, 1) := by decide +kernel
theorem dX12_isName_30 : decode cX12_isName 30 = .ok (.if_icmp .ne 51, 3) := by decide +kernel
theorem dX12_isName_33 : decode cX12_isName 33 = .ok (.aload_n 0, 1) := by decide +kernel
theorem dX12_isName_34 : decode cX12_isName 34 = .ok (.aload_n 0, 1) := by decide +kernel
theorem dX12_isName_35 : decode cX12_isName 35 = .ok (.getfield 132, 3) := by decide +kernel
theorem dX12_isName_38 : decode cX12_isName 38 = .ok (.iconst 1, 1) := by decide +kernel
theorem dX12_isName_39 : decode cX12_isName 39 = .ok (.iadd, 1) := by decide +kernel
theorem dX12_isName_40 : decode cX12_isName 40 = .ok (.invokevirtual 135, 3) := by decide +kernel
theorem dX12_isName_43 : decode cX12_isName 43 = .ok (.iload_n 3, 1) := by decide +kernel
theorem dX12_isName_44 : decode cX12_isName 44 = .ok (.if_icmp .ne 37, 3) := by decide +kernel
theorem dX12_isName_47 : decode cX12_isName 47 = .ok (.aload_n 0, 1) := by decide +kernel
theorem dX12_isName_48 : decode cX12_isName 48 = .ok (.aload_n 0, 1) := by decide +kernel
theorem dX12_isName_49 : decode cX12_isName 49 = .ok (.getfield 132, 3) := by decide +kernel
theorem dX12_isName_52 : decode cX12_isName 52 = .ok (.iconst 2, 1) := by decide +kernel
theorem dX12_isName_53 : decode cX12_isName 53 = .ok (.iadd, 1) := by decide +kernel
theorem dX12_isName_54 : decode cX12_isName 54 = .ok (.invokevirtual 135, 3) := by decide +kernel
theorem dX12_isName_57 : decode cX12_isName 57 = .ok (.iload 4, 2) := by decide +kernel
theorem dX12_isName_59 : decode cX12_isName 59 = .ok (.if_icmp .ne 22, 3) := by decide +kernel
theorem dX12_isName_62 : decode cX12_isName 62 = .ok (.aload_n 0, 1) := by decide +kernel
theorem dX12_isName_63 : decode cX12_isName 63 = .ok (.aload_n 0, 1) := by decide +kernel
theorem dX12_isName_64 : decode cX12_isName 64 = .ok (.getfield 129, 3) := by decide +kernel
theorem dX12_isName_67 : decode cX12_isName 67 = .ok (.iconst 1, 1) := by decide +kernel
theorem dX12_isName_68 : decode cX12_isName 68 = .ok (.isub, 1) := by decide +kernel
theorem dX12_isName_69 : decode cX12_isName 69 = .ok (.invokevirtual 135, 3) := by decide +kernel
theorem dX12_isName_72 : decode cX12_isName 72 = .ok (.iload 5, 2) := by decide +kernel
theorem dX12_isName_74 : decode cX12_isName 74 = .ok (.if_icmp .ne 7, 3) := by decide +kernel
theorem dX12_isName_77 : decode cX12_isName 77 = .ok (.iconst 1, 1) := by decide +kernel
theorem dX12_isName_78 : decode cX12_isName 78 = .ok (.goto 4, 3) := by decide +kernel
theorem dX12_isName_81 : decode cX12_isName 81 = .ok (.iconst 0, 1) := by decide +kernel
theorem dX12_isName_82 : decode cX12_isName 82 = .ok (.ireturn, 1) := by decide +kernel
theorem dX12_isSame_0 : decode cX12_isSame 0 = .ok (.aload_n 0, 1) := by decide +kernel
theorem dX12_isSame_1 : decode cX12_isSame 1 = .ok (.aload_n 0, 1) := by decide +kernel
theorem dX12_isSame_2 : decode cX12_isSame 2 = .ok (.getfield 132, 3) := by decide +kernel
theorem dX12_isSame_5 : decode cX12_isSame 5 = .ok (.iload_n 1, 1) := by decide +kernel
theorem dX12_isSame_6 : decode cX12_isSame 6 = .ok (.iadd, 1) := by decide +kernel
theorem dX12_isSame_7 : decode cX12_isSame 7 = .ok (.invokevirtual 135, 3) := by decide +kernel
theorem dX12_isSame_10 : decode cX12_isSame 10 = .ok (.iload_n 2, 1) := by decide +kernel
theorem dX12_isSame_11 : decode cX12_isSame 11 = .ok (.if_icmp .ne 40, 3) := by decide +kernel
theorem dX12_isSame_14 : decode cX12_isSame 14 = .ok (.aload_n 0, 1) := by decide +kernel
theorem dX12_isSame_15 : decode cX12_isSame 15 = .ok (.aload_n 0, 1) := by decide +kernel
theorem dX12_isSame_16 : decode cX12_isSame 16 = .ok (.getfield 132, 3) := by decide +kernel
theorem dX12_isSame_19 : decode cX12_isSame 19 = .ok (.iload_n 1, 1) := by decide +kernel
theorem dX12_isSame_20 : decode cX12_isSame 20 = .ok (.iadd, 1) := by decide +kernel
theorem dX12_isSame_21 : decode cX12_isSame 21 = .ok (.iconst 1, 1) := by decide +kernel
theorem dX12_isSame_22 : decode cX12_isSame 22 = .ok (.iadd, 1) := by decide +kernel
theorem dX12_isSame_23 : decode cX12_isSame 23 = .ok (.invokevirtual 135, 3) := by decide +kernel
theorem dX12_isSame_26 : decode cX12_isSame 26 = .ok (.iload_n 3, 1) := by decide +kernel
theorem dX12_isSame_27 : decode cX12_isSame 27 = .ok (.if_icmp .ne 24, 3) := by decide +kernel
theorem dX12_isSame_30 : decode cX12_isSame 30 = .ok (.aload_n 0, 1) := by decide +kernel
theorem dX12_isSame_31 : decode cX12_isSame 31 = .ok (.aload_n 0, 1) := by decide +kernel
theorem dX12_isSame_32 : decode cX12_isSame 32 = .ok (.getfield 132, 3) := by decide +kernel
theorem dX12_isSame_35 : decode cX12_isSame 35 = .ok (.iload_n 1, 1) := by decide +kernel
theorem dX12_isSame_36 : decode cX12_isSame 36 = .ok (.iadd, 1) := by decide +kernel
theorem dX12_isSame_37 : decode cX12_isSame 37 = .ok (.iconst 2, 1) := by decide +kernel
theorem dX12_isSame_38 : decode cX12_isSame 38 = .ok (.iadd, 1) := by decide +kernel
theorem dX12_isSame_39 : decode cX12_isSame 39 = .ok (.invokevirtual 135, 3) := by decide +kernel
theorem dX12_isSame_42 : decode cX12_isSame 42 = .ok (.iload 4, 2) := by decide +kernel
theorem dX12_isSame_44 : decode cX12_isSame 44 = .ok (.if_icmp .ne 7, 3) := by decide +kernel
theorem dX12_isSame_47 : decode cX12_isSame 47 = .ok (.iconst 1, 1) := by decide +kernel
theorem dX12_isSame_48 : decode cX12_isSame 48 = .ok (.goto 4, 3) := by decide +kernel
theorem dX12_isSame_51 : decode cX12_isSame 51 = .ok (.iconst 0, 1) := by decide +kernel
theorem dX12_isSame_52 : decode cX12_isSame 52 = .ok (.ireturn, 1) := by decide +kernel
theorem dX12_kindHere_0 : decode cX12_kindHere 0 = .ok (.aload_n 0, 1) := by decide +kernel
theorem dX12_kindHere_1 : decode cX12_kindHere 1 = .ok (.iconst 3, 1) := by decide +kernel
theorem dX12_kindHere_2 : decode cX12_kindHere 2 = .ok (.bipush 115, 2) := by decide +kernel
theorem dX12_kindHere_4 : decode cX12_kindHere 4 = .ok (.bipush 101, 2) := by decide +kernel
theorem dX12_kindHere_6 : decode cX12_kindHere 6 = .ok (.bipush 116, 2) := by decide +kernel
theorem dX12_kindHere_8 : decode cX12_kindHere 8 = .ok (.bipush 116, 2) := by decide +kernel
theorem dX12_kindHere_10 : decode cX12_kindHere 10 = .ok (.invokevirtual 157, 3) := by decide +kernel
theorem dX12_kindHere_13 : decode cX12_kindHere 13 = .ok (.ifCond .eq 5, 3) := by decide +kernel
theorem dX12_kindHere_16 : decode cX12_kindHere 16 = .ok (.iconst 0, 1) := by decide +kernel
theorem dX12_kindHere_17 : decode cX12_kindHere 17 = .ok (.ireturn, 1) := by decide +kernel
theorem dX12_kindHere_18 : decode cX12_kindHere 18 = .ok (.aload_n 0, 1) := by decide +kernel
theorem dX12_kindHere_19 : decode cX12_kindHere 19 = .ok (.iconst 5, 1) := by decide +kernel
theorem dX12_kindHere_20 : decode cX12_kindHere 20 = .ok (.bipush 97, 2) := by decide +kernel
theorem dX12_kindHere_22 : decode cX12_kindHere 22 = .ok (.bipush 108, 2) := by decide +kernel
theorem dX12_kindHere_24 : decode cX12_kindHere 24 = .ok (.bipush 111, 2) := by decide +kernel
theorem dX12_kindHere_26 : decode cX12_kindHere 26 = .ok (.bipush 101, 2) := by decide +kernel
theorem dX12_kindHere_28 : decode cX12_kindHere 28 = .ok (.invokevirtual 157, 3) := by decide +kernel
theorem dX12_kindHere_31 : decode cX12_kindHere 31 = .ok (.ifCond .eq 20, 3) := by decide +kernel
theorem dX12_kindHere_34 : decode cX12_kindHere 34 = .ok (.aload_n 0, 1) := by decide +kernel
theorem dX12_kindHere_35 : decode cX12_kindHere 35 = .ok (.aload_n 0, 1) := by decide +kernel
theorem dX12_kindHere_36 : decode cX12_kindHere 36 = .ok (.getfield 132, 3) := by decide +kernel
theorem dX12_kindHere_39 : decode cX12_kindHere 39 = .ok (.iconst 3, 1) := by decide +kernel
theorem dX12_kindHere_40 : decode cX12_kindHere 40 = .ok (.iadd, 1) := by decide +kernel
theorem dX12_kindHere_41 : decode cX12_kindHere 41 = .ok (.invokevirtual 135, 3) := by decide +kernel
theorem dX12_kindHere_44 : decode cX12_kindHere 44 = .ok (.bipush 110, 2) := by decide +kernel
theorem dX12_kindHere_46 : decode cX12_kindHere 46 = .ok (.if_icmp .ne 5, 3) := by decide +kernel
theorem dX12_kindHere_49 : decode cX12_kindHere 49 = .ok (.iconst 1, 1) := by decide +kernel
theorem dX12_kindHere_50 : decode cX12_kindHere 50 = .ok (.ireturn, 1) := by decide +kernel
theorem dX12_kindHere_51 : decode cX12_kindHere 51 = .ok (.aload_n 0, 1) := by decide +kernel
theorem dX12_kindHere_52 : decode cX12_kindHere 52 = .ok (.bipush 6, 2) := by decide +kernel
theorem dX12_kindHere_54 : decode cX12_kindHere 54 = .ok (.bipush 115, 2) := by decide +kernel
theorem dX12_kindHere_56 : decode cX12_kindHere 56 = .ok (.bipush 104, 2) := by decide +kernel
theorem dX12_kindHere_58 : decode cX12_kindHere 58 = .ok (.bipush 97, 2) := by decide +kernel
theorem dX12_kindHere_60 : decode cX12_kindHere 60 = .ok (.bipush 100, 2) := by decide +kernel
theorem dX12_kindHere_62 : decode cX12_kindHere 62 = .ok (.invokevirtual 157, 3) := by decide +kernel
theorem dX12_kindHere_65 : decode cX12_kindHere 65 = .ok (.ifCond .eq 19, 3) := by decide +kernel
theorem dX12_kindHere_68 : decode cX12_kindHere 68 = .ok (.aload_n 0, 1) := by decide +kernel
theorem dX12_kindHere_69 : decode cX12_kindHere 69 = .ok (.iconst 2, 1) := by decide +kernel
theorem dX12_kindHere_70 : decode cX12_kindHere 70 = .ok (.bipush 97, 2) := by decide +kernel
theorem dX12_kindHere_72 : decode cX12_kindHere 72 = .ok (.bipush 114, 2) := by decide +kernel
theorem dX12_kindHere_74 : decode cX12_kindHere 74 = .ok (.bipush 101, 2) := by decide +kernel
theorem dX12_kindHere_76 : decode cX12_kindHere 76 = .ok (.invokevirtual 161, 3) := by decide +kernel
theorem dX12_kindHere_79 : decode cX12_kindHere 79 = .ok (.ifCond .eq 5, 3) := by decide +kernel
theorem dX12_kindHere_82 : decode cX12_kindHere 82 = .ok (.iconst 2, 1) := by decide +kernel
theorem dX12_kindHere_83 : decode cX12_kindHere 83 = .ok (.ireturn, 1) := by decide +kernel
theorem dX12_kindHere_84 : decode cX12_kindHere 84 = .ok (.aload_n 0, 1) := by decide +kernel
theorem dX12_kindHere_85 : decode cX12_kindHere 85 = .ok (.bipush 6, 2) := by decide +kernel
theorem dX12_kindHere_87 : decode cX12_kindHere 87 = .ok (.bipush 112, 2) := by decide +kernel
theorem dX12_kindHere_89 : decode cX12_kindHere 89 = .ok (.bipush 97, 2) := by decide +kernel
theorem dX12_kindHere_91 : decode cX12_kindHere 91 = .ok (.bipush 105, 2) := by decide +kernel
theorem dX12_kindHere_93 : decode cX12_kindHere 93 = .ok (.bipush 100, 2) := by decide +kernel
theorem dX12_kindHere_95 : decode cX12_kindHere 95 = .ok (.invokevirtual 157, 3) := by decide +kernel
theorem dX12_kindHere_98 : decode cX12_kindHere 98 = .ok (.ifCond .eq 19, 3) := by decide +kernel
theorem dX12_kindHere_101 : decode cX12_kindHere 101 = .ok (.aload_n 0, 1) := by decide +kernel
theorem dX12_kindHere_102 : decode cX12_kindHere 102 = .ok (.iconst 2, 1) := by decide +kernel
theorem dX12_kindHere_103 : decode cX12_kindHere 103 = .ok (.bipush 105, 2) := by decide +kernel
theorem dX12_kindHere_105 : decode cX12_kindHere 105 = .ok (.bipush 114, 2) := by decide +kernel
theorem dX12_kindHere_107 : decode cX12_kindHere 107 = .ok (.bipush 101, 2) := by decide +kernel
theorem dX12_kindHere_109 : decode cX12_kindHere 109 = .ok (.invokevirtual 161, 3) := by decide +kernel
theorem dX12_kindHere_112 : decode cX12_kindHere 112 = .ok (.ifCond .eq 5, 3) := by decide +kernel
theorem dX12_kindHere_115 : decode cX12_kindHere 115 = .ok (.iconst 3, 1) := by decide +kernel
theorem dX12_kindHere_116 : decode cX12_kindHere 116 = .ok (.ireturn, 1) := by decide +kernel
theorem dX12_kindHere_117 : decode cX12_kindHere 117 = .ok (.aload_n 0, 1) := by decide +kernel
theorem dX12_kindHere_118 : decode cX12_kindHere 118 = .ok (.iconst 4, 1) := by decide +kernel
theorem dX12_kindHere_119 : decode cX12_kindHere 119 = .ok (.bipush 104, 2) := by decide +kernel
theorem dX12_kindHere_121 : decode cX12_kindHere 121 = .ok (.bipush 101, 2) := by decide +kernel
theorem dX12_kindHere_123 : decode cX12_kindHere 123 = .ok (.bipush 108, 2) := by decide +kernel
theorem dX12_kindHere_125 : decode cX12_kindHere 125 = .ok (.bipush 100, 2) := by decide +kernel
theorem dX12_kindHere_127 : decode cX12_kindHere 127 = .ok (.invokevirtual 157, 3) := by decide +kernel
theorem dX12_kindHere_130 : decode cX12_kindHere 130 = .ok (.ifCond .eq 5, 3) := by decide +kernel
theorem dX12_kindHere_133 : decode cX12_kindHere 133 = .ok (.iconst 4, 1) := by decide +kernel
theorem dX12_kindHere_134 : decode cX12_kindHere 134 = .ok (.ireturn, 1) := by decide +kernel
theorem dX12_kindHere_135 : decode cX12_kindHere 135 = .ok (.aload_n 0, 1) := by decide +kernel
theorem dX12_kindHere_136 : decode cX12_kindHere 136 = .ok (.bipush 7, 2) := by decide +kernel
theorem dX12_kindHere_138 : decode cX12_kindHere 138 = .ok (.bipush 117, 2) := by decide +kernel
theorem dX12_kindHere_140 : decode cX12_kindHere 140 = .ok (.bipush 110, 2) := by decide +kernel
theorem dX12_kindHere_142 : decode cX12_kindHere 142 = .ok (.bipush 97, 2) := by decide +kernel
theorem dX12_kindHere_144 : decode cX12_kindHere 144 = .ok (.bipush 100, 2) := by decide +kernel
theorem dX12_kindHere_146 : decode cX12_kindHere 146 = .ok (.invokevirtual 157, 3) := by decide +kernel
theorem dX12_kindHere_149 : decode cX12_kindHere 149 = .ok (.ifCond .eq 21, 3) := by decide +kernel
theorem dX12_kindHere_152 : decode cX12_kindHere 152 = .ok (.aload_n 0, 1) := by decide +kernel
theorem dX12_kindHere_153 : decode cX12_kindHere 153 = .ok (.iconst 3, 1) := by decide +kernel
theorem dX12_kindHere_154 : decode cX12_kindHere 154 = .ok (.bipush 115, 2) := by decide +kernel
theorem dX12_kindHere_156 : decode cX12_kindHere 156 = .ok (.bipush 107, 2) := by decide +kernel
theorem dX12_kindHere_158 : decode cX12_kindHere 158 = .ok (.bipush 101, 2) := by decide +kernel
theorem dX12_kindHere_160 : decode cX12_kindHere 160 = .ok (.invokevirtual 161, 3) := by decide +kernel
theorem dX12_kindHere_163 : decode cX12_kindHere 163 = .ok (.ifCond .eq 7, 3) := by decide +kernel
theorem dX12_kindHere_166 : decode cX12_kindHere 166 = .ok (.iconst 5, 1) := by decide +kernel
theorem dX12_kindHere_167 : decode cX12_kindHere 167 = .ok (.goto 4, 3) := by decide +kernel
theorem dX12_kindHere_170 : decode cX12_kindHere 170 = .ok (.iconst (-1), 1) := by decide +kernel
theorem dX12_kindHere_171 : decode cX12_kindHere 171 = .ok (.ireturn, 1) := by decide +kernel
theorem dX12_doHere_0 : decode cX12_doHere 0 = .ok (.aload_n 0, 1) := by decide +kernel
theorem dX12_doHere_1 : decode cX12_doHere 1 = .ok (.iconst 4, 1) := by decide +kernel
theorem dX12_doHere_2 : decode cX12_doHere 2 = .ok (.bipush 108, 2) := by decide +kernel
theorem dX12_doHere_4 : decode cX12_doHere 4 = .ok (.bipush 105, 2) := by decide +kernel
theorem dX12_doHere_6 : decode cX12_doHere 6 = .ok (.bipush 102, 2) := by decide +kernel
theorem dX12_doHere_8 : decode cX12_doHere 8 = .ok (.bipush 116, 2) := by decide +kernel
theorem dX12_doHere_10 : decode cX12_doHere 10 = .ok (.invokevirtual 157, 3) := by decide +kernel
theorem dX12_doHere_13 : decode cX12_doHere 13 = .ok (.ifCond .eq 5, 3) := by decide +kernel
theorem dX12_doHere_16 : decode cX12_doHere 16 = .ok (.iconst 0, 1) := by decide +kernel
theorem dX12_doHere_17 : decode cX12_doHere 17 = .ok (.ireturn, 1) := by decide +kernel
theorem dX12_doHere_18 : decode cX12_doHere 18 = .ok (.aload_n 0, 1) := by decide +kernel
theorem dX12_doHere_19 : decode cX12_doHere 19 = .ok (.iconst 4, 1) := by decide +kernel
theorem dX12_doHere_20 : decode cX12_doHere 20 = .ok (.bipush 101, 2) := by decide +kernel
theorem dX12_doHere_22 : decode cX12_doHere 22 = .ok (.bipush 97, 2) := by decide +kernel
theorem dX12_doHere_24 : decode cX12_doHere 24 = .ok (.bipush 115, 2) := by decide +kernel
theorem dX12_doHere_26 : decode cX12_doHere 26 = .ok (.bipush 101, 2) := by decide +kernel
theorem dX12_doHere_28 : decode cX12_doHere 28 = .ok (.invokevirtual 157, 3) := by decide +kernel
theorem dX12_doHere_31 : decode cX12_doHere 31 = .ok (.ifCond .eq 5, 3) := by decide +kernel
theorem dX12_doHere_34 : decode cX12_doHere 34 = .ok (.iconst 1, 1) := by decide +kernel
theorem dX12_doHere_35 : decode cX12_doHere 35 = .ok (.ireturn, 1) := by decide +kernel
theorem dX12_doHere_36 : decode cX12_doHere 36 = .ok (.aload_n 0, 1) := by decide +kernel
theorem dX12_doHere_37 : decode cX12_doHere 37 = .ok (.iconst 4, 1) := by decide +kernel
theorem dX12_doHere_38 : decode cX12_doHere 38 = .ok (.bipush 119, 2) := by decide +kernel
theorem dX12_doHere_40 : decode cX12_doHere 40 = .ok (.bipush 97, 2) := by decide +kernel
theorem dX12_doHere_42 : decode cX12_doHere 42 = .ok (.bipush 105, 2) := by decide +kernel
theorem dX12_doHere_44 : decode cX12_doHere 44 = .ok (.bipush 116, 2) := by decide +kernel
theorem dX12_doHere_46 : decode cX12_doHere 46 = .ok (.invokevirtual 157, 3) := by decide +kernel
theorem dX12_doHere_49 : decode cX12_doHere 49 = .ok (.ifCond .eq 7, 3) := by decide +kernel
theorem dX12_doHere_52 : decode cX12_doHere 52 = .ok (.iconst 2, 1) := by decide +kernel
theorem dX12_doHere_53 : decode cX12_doHere 53 = .ok (.goto 4, 3) := by decide +kernel
theorem dX12_doHere_56 : decode cX12_doHere 56 = .ok (.iconst (-1), 1) := by decide +kernel
theorem dX12_doHere_57 : decode cX12_doHere 57 = .ok (.ireturn, 1) := by decide +kernel
theorem dX12_factHere_0 : decode cX12_factHere 0 = .ok (.aload_n 0, 1) := by decide +kernel
theorem dX12_factHere_1 : decode cX12_factHere 1 = .ok (.bipush 6, 2) := by decide +kernel
theorem dX12_factHere_3 : decode cX12_factHere 3 = .ok (.bipush 109, 2) := by decide +kernel
theorem dX12_factHere_5 : decode cX12_factHere 5 = .ok (.bipush 105, 2) := by decide +kernel
theorem dX12_factHere_7 : decode cX12_factHere 7 = .ok (.bipush 110, 2) := by decide +kernel
theorem dX12_factHere_9 : decode cX12_factHere 9 = .ok (.bipush 101, 2) := by decide +kernel
theorem dX12_factHere_11 : decode cX12_factHere 11 = .ok (.invokevirtual 157, 3) := by decide +kernel
theorem dX12_factHere_14 : decode cX12_factHere 14 = .ok (.ifCond .eq 19, 3) := by decide +kernel
theorem dX12_factHere_17 : decode cX12_factHere 17 = .ok (.aload_n 0, 1) := by decide +kernel
theorem dX12_factHere_18 : decode cX12_factHere 18 = .ok (.iconst 2, 1) := by decide +kernel
theorem dX12_factHere_19 : decode cX12_factHere 19 = .ok (.bipush 110, 2) := by decide +kernel
theorem dX12_factHere_21 : decode cX12_factHere 21 = .ok (.bipush 117, 2) := by decide +kernel
theorem dX12_factHere_23 : decode cX12_factHere 23 = .ok (.bipush 116, 2) := by decide +kernel
theorem dX12_factHere_25 : decode cX12_factHere 25 = .ok (.invokevirtual 161, 3) := by decide +kernel
theorem dX12_factHere_28 : decode cX12_factHere 28 = .ok (.ifCond .eq 5, 3) := by decide +kernel
theorem dX12_factHere_31 : decode cX12_factHere 31 = .ok (.iconst 0, 1) := by decide +kernel
theorem dX12_factHere_32 : decode cX12_factHere 32 = .ok (.ireturn, 1) := by decide +kernel
theorem dX12_factHere_33 : decode cX12_factHere 33 = .ok (.aload_n 0, 1) := by decide +kernel
theorem dX12_factHere_34 : decode cX12_factHere 34 = .ok (.bipush 6, 2) := by decide +kernel
theorem dX12_factHere_36 : decode cX12_factHere 36 = .ok (.bipush 119, 2) := by decide +kernel
theorem dX12_factHere_38 : decode cX12_factHere 38 = .ok (.bipush 101, 2) := by decide +kernel
theorem dX12_factHere_40 : decode cX12_factHere 40 = .ok (.bipush 105, 2) := by decide +kernel
theorem dX12_factHere_42 : decode cX12_factHere 42 = .ok (.bipush 116, 2) := by decide +kernel
theorem dX12_factHere_44 : decode cX12_factHere 44 = .ok (.invokevirtual 157, 3) := by decide +kernel
theorem dX12_factHere_47 : decode cX12_factHere 47 = .ok (.ifCond .eq 19, 3) := by decide +kernel
theorem dX12_factHere_50 : decode cX12_factHere 50 = .ok (.aload_n 0, 1) := by decide +kernel
theorem dX12_factHere_51 : decode cX12_factHere 51 = .ok (.iconst 2, 1) := by decide +kernel
theorem dX12_factHere_52 : decode cX12_factHere 52 = .ok (.bipush 105, 2) := by decide +kernel
theorem dX12_factHere_54 : decode cX12_factHere 54 = .ok (.bipush 103, 2) := by decide +kernel
theorem dX12_factHere_56 : decode cX12_factHere 56 = .ok (.bipush 104, 2) := by decide +kernel
theorem dX12_factHere_58 : decode cX12_factHere 58 = .ok (.invokevirtual 161, 3) := by decide +kernel
theorem dX12_factHere_61 : decode cX12_factHere 61 = .ok (.ifCond .eq 5, 3) := by decide +kernel
theorem dX12_factHere_64 : decode cX12_factHere 64 = .ok (.iconst 1, 1) := by decide +kernel
theorem dX12_factHere_65 : decode cX12_factHere 65 = .ok (.ireturn, 1) := by decide +kernel
theorem dX12_factHere_66 : decode cX12_factHere 66 = .ok (.aload_n 0, 1) := by decide +kernel
theorem dX12_factHere_67 : decode cX12_factHere 67 = .ok (.iconst 5, 1) := by decide +kernel
theorem dX12_factHere_68 : decode cX12_factHere 68 = .ok (.bipush 116, 2) := by decide +kernel
theorem dX12_factHere_70 : decode cX12_factHere 70 = .ok (.bipush 105, 2) := by decide +kernel
theorem dX12_factHere_72 : decode cX12_factHere 72 = .ok (.bipush 114, 2) := by decide +kernel
theorem dX12_factHere_74 : decode cX12_factHere 74 = .ok (.bipush 100, 2) := by decide +kernel
theorem dX12_factHere_76 : decode cX12_factHere 76 = .ok (.invokevirtual 157, 3) := by decide +kernel
theorem dX12_factHere_79 : decode cX12_factHere 79 = .ok (.ifCond .eq 20, 3) := by decide +kernel
theorem dX12_factHere_82 : decode cX12_factHere 82 = .ok (.aload_n 0, 1) := by decide +kernel
theorem dX12_factHere_83 : decode cX12_factHere 83 = .ok (.aload_n 0, 1) := by decide +kernel
theorem dX12_factHere_84 : decode cX12_factHere 84 = .ok (.getfield 132, 3) := by decide +kernel
theorem dX12_factHere_87 : decode cX12_factHere 87 = .ok (.iconst 3, 1) := by decide +kernel
theorem dX12_factHere_88 : decode cX12_factHere 88 = .ok (.iadd, 1) := by decide +kernel
theorem dX12_factHere_89 : decode cX12_factHere 89 = .ok (.invokevirtual 135, 3) := by decide +kernel
theorem dX12_factHere_92 : decode cX12_factHere 92 = .ok (.bipush 101, 2) := by decide +kernel
theorem dX12_factHere_94 : decode cX12_factHere 94 = .ok (.if_icmp .ne 5, 3) := by decide +kernel
theorem dX12_factHere_97 : decode cX12_factHere 97 = .ok (.iconst 2, 1) := by decide +kernel
theorem dX12_factHere_98 : decode cX12_factHere 98 = .ok (.ireturn, 1) := by decide +kernel
theorem dX12_factHere_99 : decode cX12_factHere 99 = .ok (.aload_n 0, 1) := by decide +kernel
theorem dX12_factHere_100 : decode cX12_factHere 100 = .ok (.iconst 4, 1) := by decide +kernel
theorem dX12_factHere_101 : decode cX12_factHere 101 = .ok (.bipush 108, 2) := by decide +kernel
theorem dX12_factHere_103 : decode cX12_factHere 103 = .ok (.bipush 101, 2) := by decide +kernel
theorem dX12_factHere_105 : decode cX12_factHere 105 = .ok (.bipush 102, 2) := by decide +kernel
theorem dX12_factHere_107 : decode cX12_factHere 107 = .ok (.bipush 116, 2) := by decide +kernel
theorem dX12_factHere_109 : decode cX12_factHere 109 = .ok (.invokevirtual 157, 3) := by decide +kernel
theorem dX12_factHere_112 : decode cX12_factHere 112 = .ok (.ifCond .eq 5, 3) := by decide +kernel
theorem dX12_factHere_115 : decode cX12_factHere 115 = .ok (.iconst 3, 1) := by decide +kernel
theorem dX12_factHere_116 : decode cX12_factHere 116 = .ok (.ireturn, 1) := by decide +kernel
theorem dX12_factHere_117 : decode cX12_factHere 117 = .ok (.aload_n 0, 1) := by decide +kernel
theorem dX12_factHere_118 : decode cX12_factHere 118 = .ok (.bipush 6, 2) := by decide +kernel
theorem dX12_factHere_120 : decode cX12_factHere 120 = .ok (.bipush 110, 2) := by decide +kernel
theorem dX12_factHere_122 : decode cX12_factHere 122 = .ok (.bipush 117, 2) := by decide +kernel
theorem dX12_factHere_124 : decode cX12_factHere 124 = .ok (.bipush 109, 2) := by decide +kernel
theorem dX12_factHere_126 : decode cX12_factHere 126 = .ok (.bipush 114, 2) := by decide +kernel
theorem dX12_factHere_128 : decode cX12_factHere 128 = .ok (.invokevirtual 157, 3) := by decide +kernel
theorem dX12_factHere_131 : decode cX12_factHere 131 = .ok (.ifCond .eq 21, 3) := by decide +kernel
theorem dX12_factHere_134 : decode cX12_factHere 134 = .ok (.aload_n 0, 1) := by decide +kernel
theorem dX12_factHere_135 : decode cX12_factHere 135 = .ok (.iconst 2, 1) := by decide +kernel
theorem dX12_factHere_136 : decode cX12_factHere 136 = .ok (.bipush 109, 2) := by decide +kernel
theorem dX12_factHere_138 : decode cX12_factHere 138 = .ok (.bipush 98, 2) := by decide +kernel
theorem dX12_factHere_140 : decode cX12_factHere 140 = .ok (.bipush 101, 2) := by decide +kernel
theorem dX12_factHere_142 : decode cX12_factHere 142 = .ok (.invokevirtual 161, 3) := by decide +kernel
theorem dX12_factHere_145 : decode cX12_factHere 145 = .ok (.ifCond .eq 7, 3) := by decide +kernel
theorem dX12_factHere_148 : decode cX12_factHere 148 = .ok (.iconst 4, 1) := by decide +kernel
theorem dX12_factHere_149 : decode cX12_factHere 149 = .ok (.goto 4, 3) := by decide +kernel
theorem dX12_factHere_152 : decode cX12_factHere 152 = .ok (.iconst (-1), 1) := by decide +kernel
theorem dX12_factHere_153 : decode cX12_factHere 153 = .ok (.ireturn, 1) := by decide +kernel
theorem dX12_isTwo_0 : decode cX12_isTwo 0 = .ok (.aload_n 0, 1) := by decide +kernel
theorem dX12_isTwo_1 : decode cX12_isTwo 1 = .ok (.getfield 144, 3) := by decide +kernel
theorem dX12_isTwo_4 : decode cX12_isTwo 4 = .ok (.iconst 1, 1) := by decide +kernel
theorem dX12_isTwo_5 : decode cX12_isTwo 5 = .ok (.if_icmp .ne 46, 3) := by decide +kernel
theorem dX12_isTwo_8 : decode cX12_isTwo 8 = .ok (.aload_n 0, 1) := by decide +kernel
theorem dX12_isTwo_9 : decode cX12_isTwo 9 = .ok (.getfield 129, 3) := by decide +kernel
theorem dX12_isTwo_12 : decode cX12_isTwo 12 = .ok (.aload_n 0, 1) := by decide +kernel
theorem dX12_isTwo_13 : decode cX12_isTwo 13 = .ok (.getfield 132, 3) := by decide +kernel
theorem dX12_isTwo_16 : decode cX12_isTwo 16 = .ok (.isub, 1) := by decide +kernel
theorem dX12_isTwo_17 : decode cX12_isTwo 17 = .ok (.iconst 2, 1) := by decide +kernel
theorem dX12_isTwo_18 : decode cX12_isTwo 18 = .ok (.if_icmp .ne 33, 3) := by decide +kernel
theorem dX12_isTwo_21 : decode cX12_isTwo 21 = .ok (.aload_n 0, 1) := by decide +kernel
theorem dX12_isTwo_22 : decode cX12_isTwo 22 = .ok (.aload_n 0, 1) := by decide +kernel
theorem dX12_isTwo_23 : decode cX12_isTwo 23 = .ok (.getfield 132, 3) := by decide +kernel
theorem dX12_isTwo_26 : decode cX12_isTwo 26 = .ok (.invokevirtual 135, 3) := by decide +kernel
theorem dX12_isTwo_29 : decode cX12_isTwo 29 = .ok (.iload_n 1, 1) := by decide +kernel
theorem dX12_isTwo_30 : decode cX12_isTwo 30 = .ok (.if_icmp .ne 21, 3) := by decide +kernel
theorem dX12_isTwo_33 : decode cX12_isTwo 33 = .ok (.aload_n 0, 1) := by decide +kernel
theorem dX12_isTwo_34 : decode cX12_isTwo 34 = .ok (.aload_n 0, 1) := by decide +kernel
theorem dX12_isTwo_35 : decode cX12_isTwo 35 = .ok (.getfield 132, 3) := by decide +kernel
theorem dX12_isTwo_38 : decode cX12_isTwo 38 = .ok (.iconst 1, 1) := by decide +kernel
theorem dX12_isTwo_39 : decode cX12_isTwo 39 = .ok (.iadd, 1) := by decide +kernel
theorem dX12_isTwo_40 : decode cX12_isTwo 40 = .ok (.invokevirtual 135, 3) := by decide +kernel
theorem dX12_isTwo_43 : decode cX12_isTwo 43 = .ok (.iload_n 2, 1) := by decide +kernel
theorem dX12_isTwo_44 : decode cX12_isTwo 44 = .ok (.if_icmp .ne 7, 3) := by decide +kernel
theorem dX12_isTwo_47 : decode cX12_isTwo 47 = .ok (.iconst 1, 1) := by decide +kernel
theorem dX12_isTwo_48 : decode cX12_isTwo 48 = .ok (.goto 4, 3) := by decide +kernel
theorem dX12_isTwo_51 : decode cX12_isTwo 51 = .ok (.iconst 0, 1) := by decide +kernel
theorem dX12_isTwo_52 : decode cX12_isTwo 52 = .ok (.ireturn, 1) := by decide +kernel
theorem dX12_steps_0 : decode cX12_steps 0 = .ok (.aload_n 0, 1) := by decide +kernel
theorem dX12_steps_1 : decode cX12_steps 1 = .ok (.getfield 150, 3) := by decide +kernel
theorem dX12_steps_4 : decode cX12_steps 4 = .ok (.ifCond .ne 72, 3) := by decide +kernel
theorem dX12_steps_7 : decode cX12_steps 7 = .ok (.aload_n 0, 1) := by decide +kernel
theorem dX12_steps_8 : decode cX12_steps 8 = .ok (.getfield 7, 3) := by decide +kernel
theorem dX12_steps_11 : decode cX12_steps 11 = .ok (.bipush 103, 2) := by decide +kernel
theorem dX12_steps_13 : decode cX12_steps 13 = .ok (.iconst 3, 1) := by decide +kernel
theorem dX12_steps_14 : decode cX12_steps 14 = .ok (.aload_n 0, 1) := by decide +kernel
theorem dX12_steps_15 : decode cX12_steps 15 = .ok (.getfield 7, 3) := by decide +kernel
theorem dX12_steps_18 : decode cX12_steps 18 = .ok (.bipush 7, 2) := by decide +kernel
theorem dX12_steps_20 : decode cX12_steps 20 = .ok (.iaload, 1) := by decide +kernel
theorem dX12_steps_21 : decode cX12_steps 21 = .ok (.imul, 1) := by decide +kernel
theorem dX12_steps_22 : decode cX12_steps 22 = .ok (.iadd, 1) := by decide +kernel
theorem dX12_steps_23 : decode cX12_steps 23 = .ok (.iload_n 1, 1) := by decide +kernel
theorem dX12_steps_24 : decode cX12_steps 24 = .ok (.iastore, 1) := by decide +kernel
theorem dX12_steps_25 : decode cX12_steps 25 = .ok (.aload_n 0, 1) := by decide +kernel
theorem dX12_steps_26 : decode cX12_steps 26 = .ok (.getfield 7, 3) := by decide +kernel
theorem dX12_steps_29 : decode cX12_steps 29 = .ok (.bipush 103, 2) := by decide +kernel
theorem dX12_steps_31 : decode cX12_steps 31 = .ok (.iconst 3, 1) := by decide +kernel
theorem dX12_steps_32 : decode cX12_steps 32 = .ok (.aload_n 0, 1) := by decide +kernel
theorem dX12_steps_33 : decode cX12_steps 33 = .ok (.getfield 7, 3) := by decide +kernel
theorem dX12_steps_36 : decode cX12_steps 36 = .ok (.bipush 7, 2) := by decide +kernel
theorem dX12_steps_38 : decode cX12_steps 38 = .ok (.iaload, 1) := by decide +kernel
theorem dX12_steps_39 : decode cX12_steps 39 = .ok (.imul, 1) := by decide +kernel
theorem dX12_steps_40 : decode cX12_steps 40 = .ok (.iadd, 1) := by decide +kernel
theorem dX12_steps_41 : decode cX12_steps 41 = .ok (.iconst 1, 1) := by decide +kernel
theorem dX12_steps_42 : decode cX12_steps 42 = .ok (.iadd, 1) := by decide +kernel
theorem dX12_steps_43 : decode cX12_steps 43 = .ok (.iload_n 2, 1) := by decide +kernel
theorem dX12_steps_44 : decode cX12_steps 44 = .ok (.iastore, 1) := by decide +kernel
theorem dX12_steps_45 : decode cX12_steps 45 = .ok (.aload_n 0, 1) := by decide +kernel
theorem dX12_steps_46 : decode cX12_steps 46 = .ok (.getfield 7, 3) := by decide +kernel
theorem dX12_steps_49 : decode cX12_steps 49 = .ok (.bipush 103, 2) := by decide +kernel
theorem dX12_steps_51 : decode cX12_steps 51 = .ok (.iconst 3, 1) := by decide +kernel
theorem dX12_steps_52 : decode cX12_steps 52 = .ok (.aload_n 0, 1) := by decide +kernel
theorem dX12_steps_53 : decode cX12_steps 53 = .ok (.getfield 7, 3) := by decide +kernel
theorem dX12_steps_56 : decode cX12_steps 56 = .ok (.bipush 7, 2) := by decide +kernel
theorem dX12_steps_58 : decode cX12_steps 58 = .ok (.iaload, 1) := by decide +kernel
theorem dX12_steps_59 : decode cX12_steps 59 = .ok (.imul, 1) := by decide +kernel
theorem dX12_steps_60 : decode cX12_steps 60 = .ok (.iadd, 1) := by decide +kernel
theorem dX12_steps_61 : decode cX12_steps 61 = .ok (.iconst 2, 1) := by decide +kernel
theorem dX12_steps_62 : decode cX12_steps 62 = .ok (.iadd, 1) := by decide +kernel
theorem dX12_steps_63 : decode cX12_steps 63 = .ok (.iload_n 3, 1) := by decide +kernel
theorem dX12_steps_64 : decode cX12_steps 64 = .ok (.iastore, 1) := by decide +kernel
theorem dX12_steps_65 : decode cX12_steps 65 = .ok (.aload_n 0, 1) := by decide +kernel
theorem dX12_steps_66 : decode cX12_steps 66 = .ok (.getfield 7, 3) := by decide +kernel
theorem dX12_steps_69 : decode cX12_steps 69 = .ok (.bipush 7, 2) := by decide +kernel
theorem dX12_steps_71 : decode cX12_steps 71 = .ok (.dup2, 1) := by decide +kernel
theorem dX12_steps_72 : decode cX12_steps 72 = .ok (.iaload, 1) := by decide +kernel
theorem dX12_steps_73 : decode cX12_steps 73 = .ok (.iconst 1, 1) := by decide +kernel
theorem dX12_steps_74 : decode cX12_steps 74 = .ok (.iadd, 1) := by decide +kernel
theorem dX12_steps_75 : decode cX12_steps 75 = .ok (.iastore, 1) := by decide +kernel
theorem dX12_steps_76 : decode cX12_steps 76 = .ok (.return_, 1) := by decide +kernel
theorem dX12_valueHere_0 : decode cX12_valueHere 0 = .ok (.aload_n 0, 1) := by decide +kernel
theorem dX12_valueHere_1 : decode cX12_valueHere 1 = .ok (.invokevirtual 165, 3) := by decide +kernel
theorem dX12_valueHere_4 : decode cX12_valueHere 4 = .ok (.istore_n 1, 1) := by decide +kernel
theorem dX12_valueHere_5 : decode cX12_valueHere 5 = .ok (.iload_n 1, 1) := by decide +kernel
theorem dX12_valueHere_6 : decode cX12_valueHere 6 = .ok (.ifCond .lt 11, 3) := by decide +kernel
theorem dX12_valueHere_9 : decode cX12_valueHere 9 = .ok (.sipush 10000, 3) := by decide +kernel
theorem dX12_valueHere_12 : decode cX12_valueHere 12 = .ok (.iload_n 1, 1) := by decide +kernel
theorem dX12_valueHere_13 : decode cX12_valueHere 13 = .ok (.iadd, 1) := by decide +kernel
theorem dX12_valueHere_14 : decode cX12_valueHere 14 = .ok (.goto 7, 3) := by decide +kernel
theorem dX12_valueHere_17 : decode cX12_valueHere 17 = .ok (.aload_n 0, 1) := by decide +kernel
theorem dX12_valueHere_18 : decode cX12_valueHere 18 = .ok (.getfield 147, 3) := by decide +kernel
theorem dX12_valueHere_21 : decode cX12_valueHere 21 = .ok (.istore_n 2, 1) := by decide +kernel
theorem dX12_valueHere_22 : decode cX12_valueHere 22 = .ok (.aload_n 0, 1) := by decide +kernel
theorem dX12_valueHere_23 : decode cX12_valueHere 23 = .ok (.iload_n 1, 1) := by decide +kernel
theorem dX12_valueHere_24 : decode cX12_valueHere 24 = .ok (.ifCond .ge 24, 3) := by decide +kernel
theorem dX12_valueHere_27 : decode cX12_valueHere 27 = .ok (.aload_n 0, 1) := by decide +kernel
theorem dX12_valueHere_28 : decode cX12_valueHere 28 = .ok (.getfield 144, 3) := by decide +kernel
theorem dX12_valueHere_31 : decode cX12_valueHere 31 = .ok (.iconst 2, 1) := by decide +kernel
theorem dX12_valueHere_32 : decode cX12_valueHere 32 = .ok (.if_icmp .ne 20, 3) := by decide +kernel
theorem dX12_valueHere_35 : decode cX12_valueHere 35 = .ok (.aload_n 0, 1) := by decide +kernel
theorem dX12_valueHere_36 : decode cX12_valueHere 36 = .ok (.getfield 129, 3) := by decide +kernel
theorem dX12_valueHere_39 : decode cX12_valueHere 39 = .ok (.aload_n 0, 1) := by decide +kernel
theorem dX12_valueHere_40 : decode cX12_valueHere 40 = .ok (.getfield 132, 3) := by decide +kernel
theorem dX12_valueHere_43 : decode cX12_valueHere 43 = .ok (.isub, 1) := by decide +kernel
theorem dX12_valueHere_44 : decode cX12_valueHere 44 = .ok (.iconst 4, 1) := by decide +kernel
theorem dX12_valueHere_45 : decode cX12_valueHere 45 = .ok (.if_icmp .gt 7, 3) := by decide +kernel
theorem dX12_valueHere_48 : decode cX12_valueHere 48 = .ok (.iconst 1, 1) := by decide +kernel
theorem dX12_valueHere_49 : decode cX12_valueHere 49 = .ok (.goto 4, 3) := by decide +kernel
theorem dX12_valueHere_52 : decode cX12_valueHere 52 = .ok (.iconst 0, 1) := by decide +kernel
theorem dX12_valueHere_53 : decode cX12_valueHere 53 = .ok (.invokevirtual 168, 3) := by decide +kernel
theorem dX12_valueHere_56 : decode cX12_valueHere 56 = .ok (.iload_n 2, 1) := by decide +kernel
theorem dX12_valueHere_57 : decode cX12_valueHere 57 = .ok (.ireturn, 1) := by decide +kernel
theorem dX12_comparesHere_0 : decode cX12_comparesHere 0 = .ok (.aload_n 0, 1) := by decide +kernel
theorem dX12_comparesHere_1 : decode cX12_comparesHere 1 = .ok (.invokevirtual 172, 3) := by decide +kernel
theorem dX12_comparesHere_4 : decode cX12_comparesHere 4 = .ok (.istore_n 1, 1) := by decide +kernel
theorem dX12_comparesHere_5 : decode cX12_comparesHere 5 = .ok (.aload_n 0, 1) := by decide +kernel
theorem dX12_comparesHere_6 : decode cX12_comparesHere 6 = .ok (.bipush 60, 2) := by decide +kernel
theorem dX12_comparesHere_8 : decode cX12_comparesHere 8 = .ok (.invokevirtual 175, 3) := by decide +kernel
theorem dX12_comparesHere_11 : decode cX12_comparesHere 11 = .ok (.ifCond .eq 7, 3) := by decide +kernel
theorem dX12_comparesHere_14 : decode cX12_comparesHere 14 = .ok (.iconst 0, 1) := by decide +kernel
theorem dX12_comparesHere_15 : decode cX12_comparesHere 15 = .ok (.goto 17, 3) := by decide +kernel
theorem dX12_comparesHere_18 : decode cX12_comparesHere 18 = .ok (.aload_n 0, 1) := by decide +kernel
theorem dX12_comparesHere_19 : decode cX12_comparesHere 19 = .ok (.bipush 61, 2) := by decide +kernel
theorem dX12_comparesHere_21 : decode cX12_comparesHere 21 = .ok (.invokevirtual 175, 3) := by decide +kernel
theorem dX12_comparesHere_24 : decode cX12_comparesHere 24 = .ok (.ifCond .eq 7, 3) := by decide +kernel
theorem dX12_comparesHere_27 : decode cX12_comparesHere 27 = .ok (.iconst 1, 1) := by decide +kernel
theorem dX12_comparesHere_28 : decode cX12_comparesHere 28 = .ok (.goto 4, 3) := by decide +kernel
theorem dX12_comparesHere_31 : decode cX12_comparesHere 31 = .ok (.iconst 2, 1) := by decide +kernel
theorem dX12_comparesHere_32 : decode cX12_comparesHere 32 = .ok (.istore_n 2, 1) := by decide +kernel
theorem dX12_comparesHere_33 : decode cX12_comparesHere 33 = .ok (.aload_n 0, 1) := by decide +kernel
theorem dX12_comparesHere_34 : decode cX12_comparesHere 34 = .ok (.aload_n 0, 1) := by decide +kernel
theorem dX12_comparesHere_35 : decode cX12_comparesHere 35 = .ok (.bipush 60, 2) := by decide +kernel
theorem dX12_comparesHere_37 : decode cX12_comparesHere 37 = .ok (.invokevirtual 175, 3) := by decide +kernel
theorem dX12_comparesHere_40 : decode cX12_comparesHere 40 = .ok (.ifCond .ne 21, 3) := by decide +kernel
theorem dX12_comparesHere_43 : decode cX12_comparesHere 43 = .ok (.aload_n 0, 1) := by decide +kernel
theorem dX12_comparesHere_44 : decode cX12_comparesHere 44 = .ok (.bipush 61, 2) := by decide +kernel
theorem dX12_comparesHere_46 : decode cX12_comparesHere 46 = .ok (.invokevirtual 175, 3) := by decide +kernel
theorem dX12_comparesHere_49 : decode cX12_comparesHere 49 = .ok (.ifCond .ne 12, 3) := by decide +kernel
theorem dX12_comparesHere_52 : decode cX12_comparesHere 52 = .ok (.aload_n 0, 1) := by decide +kernel
theorem dX12_comparesHere_53 : decode cX12_comparesHere 53 = .ok (.bipush 62, 2) := by decide +kernel
theorem dX12_comparesHere_55 : decode cX12_comparesHere 55 = .ok (.invokevirtual 175, 3) := by decide +kernel
theorem dX12_comparesHere_58 : decode cX12_comparesHere 58 = .ok (.ifCond .eq 7, 3) := by decide +kernel
theorem dX12_comparesHere_61 : decode cX12_comparesHere 61 = .ok (.iconst 1, 1) := by decide +kernel
theorem dX12_comparesHere_62 : decode cX12_comparesHere 62 = .ok (.goto 4, 3) := by decide +kernel
theorem dX12_comparesHere_65 : decode cX12_comparesHere 65 = .ok (.iconst 0, 1) := by decide +kernel
theorem dX12_comparesHere_66 : decode cX12_comparesHere 66 = .ok (.invokevirtual 168, 3) := by decide +kernel
theorem dX12_comparesHere_69 : decode cX12_comparesHere 69 = .ok (.aload_n 0, 1) := by decide +kernel
theorem dX12_comparesHere_70 : decode cX12_comparesHere 70 = .ok (.invokevirtual 172, 3) := by decide +kernel
theorem dX12_comparesHere_73 : decode cX12_comparesHere 73 = .ok (.istore_n 3, 1) := by decide +kernel
theorem dX12_comparesHere_74 : decode cX12_comparesHere 74 = .ok (.aload_n 0, 1) := by decide +kernel
theorem dX12_comparesHere_75 : decode cX12_comparesHere 75 = .ok (.iload_n 2, 1) := by decide +kernel
theorem dX12_comparesHere_76 : decode cX12_comparesHere 76 = .ok (.iload_n 1, 1) := by decide +kernel
theorem dX12_comparesHere_77 : decode cX12_comparesHere 77 = .ok (.iload_n 3, 1) := by decide +kernel
theorem dX12_comparesHere_78 : decode cX12_comparesHere 78 = .ok (.invokevirtual 178, 3) := by decide +kernel
theorem dX12_comparesHere_81 : decode cX12_comparesHere 81 = .ok (.return_, 1) := by decide +kernel
theorem dX12_oneHere_0 : decode cX12_oneHere 0 = .ok (.iconst 0, 1) := by decide +kernel
theorem dX12_oneHere_1 : decode cX12_oneHere 1 = .ok (.istore_n 1, 1) := by decide +kernel
theorem dX12_oneHere_2 : decode cX12_oneHere 2 = .ok (.aload_n 0, 1) := by decide +kernel
theorem dX12_oneHere_3 : decode cX12_oneHere 3 = .ok (.getfield 150, 3) := by decide +kernel
theorem dX12_oneHere_6 : decode cX12_oneHere 6 = .ok (.ifCond .ne 29, 3) := by decide +kernel
theorem dX12_oneHere_9 : decode cX12_oneHere 9 = .ok (.aload_n 0, 1) := by decide +kernel
theorem dX12_oneHere_10 : decode cX12_oneHere 10 = .ok (.iconst 3, 1) := by decide +kernel
theorem dX12_oneHere_11 : decode cX12_oneHere 11 = .ok (.bipush 110, 2) := by decide +kernel
theorem dX12_oneHere_13 : decode cX12_oneHere 13 = .ok (.bipush 111, 2) := by decide +kernel
theorem dX12_oneHere_15 : decode cX12_oneHere 15 = .ok (.bipush 116, 2) := by decide +kernel
theorem dX12_oneHere_17 : decode cX12_oneHere 17 = .ok (.bipush 116, 2) := by decide +kernel
theorem dX12_oneHere_19 : decode cX12_oneHere 19 = .ok (.invokevirtual 157, 3) := by decide +kernel
theorem dX12_oneHere_22 : decode cX12_oneHere 22 = .ok (.ifCond .eq 13, 3) := by decide +kernel
theorem dX12_oneHere_25 : decode cX12_oneHere 25 = .ok (.iinc 1 1, 3) := by decide +kernel
theorem dX12_oneHere_28 : decode cX12_oneHere 28 = .ok (.aload_n 0, 1) := by decide +kernel
theorem dX12_oneHere_29 : decode cX12_oneHere 29 = .ok (.invokevirtual 154, 3) := by decide +kernel
theorem dX12_oneHere_32 : decode cX12_oneHere 32 = .ok (.goto (-30), 3) := by decide +kernel
theorem dX12_oneHere_35 : decode cX12_oneHere 35 = .ok (.aload_n 0, 1) := by decide +kernel
theorem dX12_oneHere_36 : decode cX12_oneHere 36 = .ok (.getfield 150, 3) := by decide +kernel
theorem dX12_oneHere_39 : decode cX12_oneHere 39 = .ok (.ifCond .ne 66, 3) := by decide +kernel
theorem dX12_oneHere_42 : decode cX12_oneHere 42 = .ok (.aload_n 0, 1) := by decide +kernel
theorem dX12_oneHere_43 : decode cX12_oneHere 43 = .ok (.bipush 40, 2) := by decide +kernel
theorem dX12_oneHere_45 : decode cX12_oneHere 45 = .ok (.invokevirtual 175, 3) := by decide +kernel
theorem dX12_oneHere_48 : decode cX12_oneHere 48 = .ok (.ifCond .eq 57, 3) := by decide +kernel
theorem dX12_oneHere_51 : decode cX12_oneHere 51 = .ok (.aload_n 0, 1) := by decide +kernel
theorem dX12_oneHere_52 : decode cX12_oneHere 52 = .ok (.aload_n 0, 1) := by decide +kernel
theorem dX12_oneHere_53 : decode cX12_oneHere 53 = .ok (.getfield 182, 3) := by decide +kernel
theorem dX12_oneHere_56 : decode cX12_oneHere 56 = .ok (.iconst 3, 1) := by decide +kernel
theorem dX12_oneHere_57 : decode cX12_oneHere 57 = .ok (.if_icmp .ge 7, 3) := by decide +kernel
theorem dX12_oneHere_60 : decode cX12_oneHere 60 = .ok (.iconst 1, 1) := by decide +kernel
theorem dX12_oneHere_61 : decode cX12_oneHere 61 = .ok (.goto 4, 3) := by decide +kernel
theorem dX12_oneHere_64 : decode cX12_oneHere 64 = .ok (.iconst 0, 1) := by decide +kernel
theorem dX12_oneHere_65 : decode cX12_oneHere 65 = .ok (.invokevirtual 168, 3) := by decide +kernel
theorem dX12_oneHere_68 : decode cX12_oneHere 68 = .ok (.aload_n 0, 1) := by decide +kernel
theorem dX12_oneHere_69 : decode cX12_oneHere 69 = .ok (.dup, 1) := by decide +kernel
theorem dX12_oneHere_70 : decode cX12_oneHere 70 = .ok (.getfield 182, 3) := by decide +kernel
theorem dX12_oneHere_73 : decode cX12_oneHere 73 = .ok (.iconst 1, 1) := by decide +kernel
theorem dX12_oneHere_74 : decode cX12_oneHere 74 = .ok (.iadd, 1) := by decide +kernel
theorem dX12_oneHere_75 : decode cX12_oneHere 75 = .ok (.putfield 182, 3) := by decide +kernel
theorem dX12_oneHere_78 : decode cX12_oneHere 78 = .ok (.aload_n 0, 1) := by decide +kernel
theorem dX12_oneHere_79 : decode cX12_oneHere 79 = .ok (.invokevirtual 185, 3) := by decide +kernel
theorem dX12_oneHere_82 : decode cX12_oneHere 82 = .ok (.aload_n 0, 1) := by decide +kernel
theorem dX12_oneHere_83 : decode cX12_oneHere 83 = .ok (.aload_n 0, 1) := by decide +kernel
theorem dX12_oneHere_84 : decode cX12_oneHere 84 = .ok (.bipush 41, 2) := by decide +kernel
theorem dX12_oneHere_86 : decode cX12_oneHere 86 = .ok (.invokevirtual 175, 3) := by decide +kernel
theorem dX12_oneHere_89 : decode cX12_oneHere 89 = .ok (.invokevirtual 168, 3) := by decide +kernel
theorem dX12_oneHere_92 : decode cX12_oneHere 92 = .ok (.aload_n 0, 1) := by decide +kernel
theorem dX12_oneHere_93 : decode cX12_oneHere 93 = .ok (.dup, 1) := by decide +kernel
theorem dX12_oneHere_94 : decode cX12_oneHere 94 = .ok (.getfield 182, 3) := by decide +kernel
theorem dX12_oneHere_97 : decode cX12_oneHere 97 = .ok (.iconst 1, 1) := by decide +kernel
theorem dX12_oneHere_98 : decode cX12_oneHere 98 = .ok (.isub, 1) := by decide +kernel
theorem dX12_oneHere_99 : decode cX12_oneHere 99 = .ok (.putfield 182, 3) := by decide +kernel
theorem dX12_oneHere_102 : decode cX12_oneHere 102 = .ok (.goto 14, 3) := by decide +kernel
theorem dX12_oneHere_105 : decode cX12_oneHere 105 = .ok (.aload_n 0, 1) := by decide +kernel
theorem dX12_oneHere_106 : decode cX12_oneHere 106 = .ok (.getfield 150, 3) := by decide +kernel
theorem dX12_oneHere_109 : decode cX12_oneHere 109 = .ok (.ifCond .ne 7, 3) := by decide +kernel
theorem dX12_oneHere_112 : decode cX12_oneHere 112 = .ok (.aload_n 0, 1) := by decide +kernel
theorem dX12_oneHere_113 : decode cX12_oneHere 113 = .ok (.invokevirtual 188, 3) := by decide +kernel
theorem dX12_oneHere_116 : decode cX12_oneHere 116 = .ok (.iload_n 1, 1) := by decide +kernel
theorem dX12_oneHere_117 : decode cX12_oneHere 117 = .ok (.iconst 2, 1) := by decide +kernel
theorem dX12_oneHere_118 : decode cX12_oneHere 118 = .ok (.irem, 1) := by decide +kernel
theorem dX12_oneHere_119 : decode cX12_oneHere 119 = .ok (.iconst 1, 1) := by decide +kernel
theorem dX12_oneHere_120 : decode cX12_oneHere 120 = .ok (.if_icmp .ne 10, 3) := by decide +kernel
theorem dX12_oneHere_123 : decode cX12_oneHere 123 = .ok (.aload_n 0, 1) := by decide +kernel
theorem dX12_oneHere_124 : decode cX12_oneHere 124 = .ok (.iconst 3, 1) := by decide +kernel
theorem dX12_oneHere_125 : decode cX12_oneHere 125 = .ok (.iconst 0, 1) := by decide +kernel
theorem dX12_oneHere_126 : decode cX12_oneHere 126 = .ok (.iconst 0, 1) := by decide +kernel
theorem dX12_oneHere_127 : decode cX12_oneHere 127 = .ok (.invokevirtual 178, 3) := by decide +kernel
theorem dX12_oneHere_130 : decode cX12_oneHere 130 = .ok (.return_, 1) := by decide +kernel
theorem dX12_allHere_0 : decode cX12_allHere 0 = .ok (.aload_n 0, 1) := by decide +kernel
theorem dX12_allHere_1 : decode cX12_allHere 1 = .ok (.invokevirtual 191, 3) := by decide +kernel
theorem dX12_allHere_4 : decode cX12_allHere 4 = .ok (.aload_n 0, 1) := by decide +kernel
theorem dX12_allHere_5 : decode cX12_allHere 5 = .ok (.getfield 150, 3) := by decide +kernel
theorem dX12_allHere_8 : decode cX12_allHere 8 = .ok (.ifCond .ne 37, 3) := by decide +kernel
theorem dX12_allHere_11 : decode cX12_allHere 11 = .ok (.aload_n 0, 1) := by decide +kernel
theorem dX12_allHere_12 : decode cX12_allHere 12 = .ok (.iconst 3, 1) := by decide +kernel
theorem dX12_allHere_13 : decode cX12_allHere 13 = .ok (.bipush 97, 2) := by decide +kernel
theorem dX12_allHere_15 : decode cX12_allHere 15 = .ok (.bipush 110, 2) := by decide +kernel
theorem dX12_allHere_17 : decode cX12_allHere 17 = .ok (.bipush 100, 2) := by decide +kernel
theorem dX12_allHere_19 : decode cX12_allHere 19 = .ok (.bipush 100, 2) := by decide +kernel
theorem dX12_allHere_21 : decode cX12_allHere 21 = .ok (.invokevirtual 157, 3) := by decide +kernel
theorem dX12_allHere_24 : decode cX12_allHere 24 = .ok (.ifCond .eq 21, 3) := by decide +kernel
theorem dX12_allHere_27 : decode cX12_allHere 27 = .ok (.aload_n 0, 1) := by decide +kernel
theorem dX12_allHere_28 : decode cX12_allHere 28 = .ok (.invokevirtual 154, 3) := by decide +kernel
theorem dX12_allHere_31 : decode cX12_allHere 31 = .ok (.aload_n 0, 1) := by decide +kernel
theorem dX12_allHere_32 : decode cX12_allHere 32 = .ok (.invokevirtual 191, 3) := by decide +kernel
theorem dX12_allHere_35 : decode cX12_allHere 35 = .ok (.aload_n 0, 1) := by decide +kernel
theorem dX12_allHere_36 : decode cX12_allHere 36 = .ok (.iconst 4, 1) := by decide +kernel
theorem dX12_allHere_37 : decode cX12_allHere 37 = .ok (.iconst 0, 1) := by decide +kernel
theorem dX12_allHere_38 : decode cX12_allHere 38 = .ok (.iconst 0, 1) := by decide +kernel
theorem dX12_allHere_39 : decode cX12_allHere 39 = .ok (.invokevirtual 178, 3) := by decide +kernel
theorem dX12_allHere_42 : decode cX12_allHere 42 = .ok (.goto (-38), 3) := by decide +kernel
theorem dX12_allHere_45 : decode cX12_allHere 45 = .ok (.return_, 1) := by decide +kernel
theorem dX12_condHere_0 : decode cX12_condHere 0 = .ok (.aload_n 0, 1) := by decide +kernel
theorem dX12_condHere_1 : decode cX12_condHere 1 = .ok (.invokevirtual 194, 3) := by decide +kernel
theorem dX12_condHere_4 : decode cX12_condHere 4 = .ok (.aload_n 0, 1) := by decide +kernel
theorem dX12_condHere_5 : decode cX12_condHere 5 = .ok (.getfield 150, 3) := by decide +kernel
theorem dX12_condHere_8 : decode cX12_condHere 8 = .ok (.ifCond .ne 32, 3) := by decide +kernel
theorem dX12_condHere_11 : decode cX12_condHere 11 = .ok (.aload_n 0, 1) := by decide +kernel
theorem dX12_condHere_12 : decode cX12_condHere 12 = .ok (.bipush 111, 2) := by decide +kernel
theorem dX12_condHere_14 : decode cX12_condHere 14 = .ok (.bipush 114, 2) := by decide +kernel
theorem dX12_condHere_16 : decode cX12_condHere 16 = .ok (.invokevirtual 197, 3) := by decide +kernel
theorem dX12_condHere_19 : decode cX12_condHere 19 = .ok (.ifCond .eq 21, 3) := by decide +kernel
theorem dX12_condHere_22 : decode cX12_condHere 22 = .ok (.aload_n 0, 1) := by decide +kernel
theorem dX12_condHere_23 : decode cX12_condHere 23 = .ok (.invokevirtual 154, 3) := by decide +kernel
theorem dX12_condHere_26 : decode cX12_condHere 26 = .ok (.aload_n 0, 1) := by decide +kernel
theorem dX12_condHere_27 : decode cX12_condHere 27 = .ok (.invokevirtual 194, 3) := by decide +kernel
theorem dX12_condHere_30 : decode cX12_condHere 30 = .ok (.aload_n 0, 1) := by decide +kernel
theorem dX12_condHere_31 : decode cX12_condHere 31 = .ok (.iconst 5, 1) := by decide +kernel
theorem dX12_condHere_32 : decode cX12_condHere 32 = .ok (.iconst 0, 1) := by decide +kernel
theorem dX12_condHere_33 : decode cX12_condHere 33 = .ok (.iconst 0, 1) := by decide +kernel
theorem dX12_condHere_34 : decode cX12_condHere 34 = .ok (.invokevirtual 178, 3) := by decide +kernel
theorem dX12_condHere_37 : decode cX12_condHere 37 = .ok (.goto (-33), 3) := by decide +kernel
theorem dX12_condHere_40 : decode cX12_condHere 40 = .ok (.return_, 1) := by decide +kernel
theorem dX12_ruleHere_0 : decode cX12_ruleHere 0 = .ok (.bipush 53, 2) := by decide +kernel
theorem dX12_ruleHere_2 : decode cX12_ruleHere 2 = .ok (.iconst 4, 1) := by decide +kernel
theorem dX12_ruleHere_3 : decode cX12_ruleHere 3 = .ok (.aload_n 0, 1) := by decide +kernel
theorem dX12_ruleHere_4 : decode cX12_ruleHere 4 = .ok (.getfield 7, 3) := by decide +kernel
theorem dX12_ruleHere_7 : decode cX12_ruleHere 7 = .ok (.iconst 5, 1) := by decide +kernel
theorem dX12_ruleHere_8 : decode cX12_ruleHere 8 = .ok (.iaload, 1) := by decide +kernel
theorem dX12_ruleHere_9 : decode cX12_ruleHere 9 = .ok (.imul, 1) := by decide +kernel
theorem dX12_ruleHere_10 : decode cX12_ruleHere 10 = .ok (.iadd, 1) := by decide +kernel
theorem dX12_ruleHere_11 : decode cX12_ruleHere 11 = .ok (.istore_n 1, 1) := by decide +kernel
theorem dX12_ruleHere_12 : decode cX12_ruleHere 12 = .ok (.aload_n 0, 1) := by decide +kernel
theorem dX12_ruleHere_13 : decode cX12_ruleHere 13 = .ok (.invokevirtual 200, 3) := by decide +kernel
theorem dX12_ruleHere_16 : decode cX12_ruleHere 16 = .ok (.istore_n 2, 1) := by decide +kernel
theorem dX12_ruleHere_17 : decode cX12_ruleHere 17 = .ok (.aload_n 0, 1) := by decide +kernel
theorem dX12_ruleHere_18 : decode cX12_ruleHere 18 = .ok (.iload_n 2, 1) := by decide +kernel
theorem dX12_ruleHere_19 : decode cX12_ruleHere 19 = .ok (.ifCond .lt 18, 3) := by decide +kernel
theorem dX12_ruleHere_22 : decode cX12_ruleHere 22 = .ok (.aload_n 0, 1) := by decide +kernel
theorem dX12_ruleHere_23 : decode cX12_ruleHere 23 = .ok (.getfield 7, 3) := by decide +kernel
theorem dX12_ruleHere_26 : decode cX12_ruleHere 26 = .ok (.iconst 5, 1) := by decide +kernel
theorem dX12_ruleHere_27 : decode cX12_ruleHere 27 = .ok (.iaload, 1) := by decide +kernel
theorem dX12_ruleHere_28 : decode cX12_ruleHere 28 = .ok (.bipush 8, 2) := by decide +kernel
theorem dX12_ruleHere_30 : decode cX12_ruleHere 30 = .ok (.if_icmp .ge 7, 3) := by decide +kernel
theorem dX12_ruleHere_33 : decode cX12_ruleHere 33 = .ok (.iconst 1, 1) := by decide +kernel
theorem dX12_ruleHere_34 : decode cX12_ruleHere 34 = .ok (.goto 4, 3) := by decide +kernel
theorem dX12_ruleHere_37 : decode cX12_ruleHere 37 = .ok (.iconst 0, 1) := by decide +kernel
theorem dX12_ruleHere_38 : decode cX12_ruleHere 38 = .ok (.invokevirtual 168, 3) := by decide +kernel
theorem dX12_ruleHere_41 : decode cX12_ruleHere 41 = .ok (.aload_n 0, 1) := by decide +kernel
theorem dX12_ruleHere_42 : decode cX12_ruleHere 42 = .ok (.getfield 7, 3) := by decide +kernel
theorem dX12_ruleHere_45 : decode cX12_ruleHere 45 = .ok (.bipush 7, 2) := by decide +kernel
theorem dX12_ruleHere_47 : decode cX12_ruleHere 47 = .ok (.iaload, 1) := by decide +kernel
theorem dX12_ruleHere_48 : decode cX12_ruleHere 48 = .ok (.istore_n 3, 1) := by decide +kernel
theorem dX12_ruleHere_49 : decode cX12_ruleHere 49 = .ok (.aload_n 0, 1) := by decide +kernel
theorem dX12_ruleHere_50 : decode cX12_ruleHere 50 = .ok (.getfield 150, 3) := by decide +kernel
theorem dX12_ruleHere_53 : decode cX12_ruleHere 53 = .ok (.ifCond .ne 27, 3) := by decide +kernel
theorem dX12_ruleHere_56 : decode cX12_ruleHere 56 = .ok (.aload_n 0, 1) := by decide +kernel
theorem dX12_ruleHere_57 : decode cX12_ruleHere 57 = .ok (.bipush 105, 2) := by decide +kernel
theorem dX12_ruleHere_59 : decode cX12_ruleHere 59 = .ok (.bipush 102, 2) := by decide +kernel
theorem dX12_ruleHere_61 : decode cX12_ruleHere 61 = .ok (.invokevirtual 197, 3) := by decide +kernel
theorem dX12_ruleHere_64 : decode cX12_ruleHere 64 = .ok (.ifCond .eq 16, 3) := by decide +kernel
theorem dX12_ruleHere_67 : decode cX12_ruleHere 67 = .ok (.aload_n 0, 1) := by decide +kernel
theorem dX12_ruleHere_68 : decode cX12_ruleHere 68 = .ok (.invokevirtual 154, 3) := by decide +kernel
theorem dX12_ruleHere_71 : decode cX12_ruleHere 71 = .ok (.aload_n 0, 1) := by decide +kernel
theorem dX12_ruleHere_72 : decode cX12_ruleHere 72 = .ok (.iconst 0, 1) := by decide +kernel
theorem dX12_ruleHere_73 : decode cX12_ruleHere 73 = .ok (.putfield 182, 3) := by decide +kernel
theorem dX12_ruleHere_76 : decode cX12_ruleHere 76 = .ok (.aload_n 0, 1) := by decide +kernel
theorem dX12_ruleHere_77 : decode cX12_ruleHere 77 = .ok (.invokevirtual 185, 3) := by decide +kernel
theorem dX12_ruleHere_80 : decode cX12_ruleHere 80 = .ok (.aload_n 0, 1) := by decide +kernel
theorem dX12_ruleHere_81 : decode cX12_ruleHere 81 = .ok (.invokevirtual 203, 3) := by decide +kernel
theorem dX12_ruleHere_84 : decode cX12_ruleHere 84 = .ok (.istore 4, 2) := by decide +kernel
theorem dX12_ruleHere_86 : decode cX12_ruleHere 86 = .ok (.aload_n 0, 1) := by decide +kernel
theorem dX12_ruleHere_87 : decode cX12_ruleHere 87 = .ok (.iload 4, 2) := by decide +kernel
theorem dX12_ruleHere_89 : decode cX12_ruleHere 89 = .ok (.ifCond .lt 7, 3) := by decide +kernel
theorem dX12_ruleHere_92 : decode cX12_ruleHere 92 = .ok (.iconst 1, 1) := by decide +kernel
theorem dX12_ruleHere_93 : decode cX12_ruleHere 93 = .ok (.goto 4, 3) := by decide +kernel
theorem dX12_ruleHere_96 : decode cX12_ruleHere 96 = .ok (.iconst 0, 1) := by decide +kernel
theorem dX12_ruleHere_97 : decode cX12_ruleHere 97 = .ok (.invokevirtual 168, 3) := by decide +kernel
theorem dX12_ruleHere_100 : decode cX12_ruleHere 100 = .ok (.aload_n 0, 1) := by decide +kernel
theorem dX12_ruleHere_101 : decode cX12_ruleHere 101 = .ok (.aload_n 0, 1) := by decide +kernel
theorem dX12_ruleHere_102 : decode cX12_ruleHere 102 = .ok (.bipush 59, 2) := by decide +kernel
theorem dX12_ruleHere_104 : decode cX12_ruleHere 104 = .ok (.invokevirtual 175, 3) := by decide +kernel
theorem dX12_ruleHere_107 : decode cX12_ruleHere 107 = .ok (.invokevirtual 168, 3) := by decide +kernel
theorem dX12_ruleHere_110 : decode cX12_ruleHere 110 = .ok (.aload_n 0, 1) := by decide +kernel
theorem dX12_ruleHere_111 : decode cX12_ruleHere 111 = .ok (.getfield 150, 3) := by decide +kernel
theorem dX12_ruleHere_114 : decode cX12_ruleHere 114 = .ok (.ifCond .ne 54, 3) := by decide +kernel
theorem dX12_ruleHere_117 : decode cX12_ruleHere 117 = .ok (.aload_n 0, 1) := by decide +kernel
theorem dX12_ruleHere_118 : decode cX12_ruleHere 118 = .ok (.getfield 7, 3) := by decide +kernel
theorem dX12_ruleHere_121 : decode cX12_ruleHere 121 = .ok (.iload_n 1, 1) := by decide +kernel
theorem dX12_ruleHere_122 : decode cX12_ruleHere 122 = .ok (.iload_n 2, 1) := by decide +kernel
theorem dX12_ruleHere_123 : decode cX12_ruleHere 123 = .ok (.iastore, 1) := by decide +kernel
theorem dX12_ruleHere_124 : decode cX12_ruleHere 124 = .ok (.aload_n 0, 1) := by decide +kernel
theorem dX12_ruleHere_125 : decode cX12_ruleHere 125 = .ok (.getfield 7, 3) := by decide +kernel
theorem dX12_ruleHere_128 : decode cX12_ruleHere 128 = .ok (.iload_n 1, 1) := by decide +kernel
theorem dX12_ruleHere_129 : decode cX12_ruleHere 129 = .ok (.iconst 1, 1) := by decide +kernel
theorem dX12_ruleHere_130 : decode cX12_ruleHere 130 = .ok (.iadd, 1) := by decide +kernel
theorem dX12_ruleHere_131 : decode cX12_ruleHere 131 = .ok (.iload 4, 2) := by decide +kernel
theorem dX12_ruleHere_133 : decode cX12_ruleHere 133 = .ok (.iastore, 1) := by decide +kernel
theorem dX12_ruleHere_134 : decode cX12_ruleHere 134 = .ok (.aload_n 0, 1) := by decide +kernel
theorem dX12_ruleHere_135 : decode cX12_ruleHere 135 = .ok (.getfield 7, 3) := by decide +kernel
theorem dX12_ruleHere_138 : decode cX12_ruleHere 138 = .ok (.iload_n 1, 1) := by decide +kernel
theorem dX12_ruleHere_139 : decode cX12_ruleHere 139 = .ok (.iconst 2, 1) := by decide +kernel
theorem dX12_ruleHere_140 : decode cX12_ruleHere 140 = .ok (.iadd, 1) := by decide +kernel
theorem dX12_ruleHere_141 : decode cX12_ruleHere 141 = .ok (.iload_n 3, 1) := by decide +kernel
theorem dX12_ruleHere_142 : decode cX12_ruleHere 142 = .ok (.iastore, 1) := by decide +kernel
theorem dX12_ruleHere_143 : decode cX12_ruleHere 143 = .ok (.aload_n 0, 1) := by decide +kernel
theorem dX12_ruleHere_144 : decode cX12_ruleHere 144 = .ok (.getfield 7, 3) := by decide +kernel
theorem dX12_ruleHere_147 : decode cX12_ruleHere 147 = .ok (.iload_n 1, 1) := by decide +kernel
theorem dX12_ruleHere_148 : decode cX12_ruleHere 148 = .ok (.iconst 3, 1) := by decide +kernel
theorem dX12_ruleHere_149 : decode cX12_ruleHere 149 = .ok (.iadd, 1) := by decide +kernel
theorem dX12_ruleHere_150 : decode cX12_ruleHere 150 = .ok (.aload_n 0, 1) := by decide +kernel
theorem dX12_ruleHere_151 : decode cX12_ruleHere 151 = .ok (.getfield 7, 3) := by decide +kernel
theorem dX12_ruleHere_154 : decode cX12_ruleHere 154 = .ok (.bipush 7, 2) := by decide +kernel
theorem dX12_ruleHere_156 : decode cX12_ruleHere 156 = .ok (.iaload, 1) := by decide +kernel
theorem dX12_ruleHere_157 : decode cX12_ruleHere 157 = .ok (.iastore, 1) := by decide +kernel
theorem dX12_ruleHere_158 : decode cX12_ruleHere 158 = .ok (.aload_n 0, 1) := by decide +kernel
theorem dX12_ruleHere_159 : decode cX12_ruleHere 159 = .ok (.getfield 7, 3) := by decide +kernel
theorem dX12_ruleHere_162 : decode cX12_ruleHere 162 = .ok (.iconst 5, 1) := by decide +kernel
theorem dX12_ruleHere_163 : decode cX12_ruleHere 163 = .ok (.dup2, 1) := by decide +kernel
theorem dX12_ruleHere_164 : decode cX12_ruleHere 164 = .ok (.iaload, 1) := by decide +kernel
theorem dX12_ruleHere_165 : decode cX12_ruleHere 165 = .ok (.iconst 1, 1) := by decide +kernel
theorem dX12_ruleHere_166 : decode cX12_ruleHere 166 = .ok (.iadd, 1) := by decide +kernel
theorem dX12_ruleHere_167 : decode cX12_ruleHere 167 = .ok (.iastore, 1) := by decide +kernel
theorem dX12_ruleHere_168 : decode cX12_ruleHere 168 = .ok (.return_, 1) := by decide +kernel
theorem dX12_rules_0 : decode cX12_rules 0 = .ok (.iconst 0, 1) := by decide +kernel
theorem dX12_rules_1 : decode cX12_rules 1 = .ok (.istore_n 1, 1) := by decide +kernel
theorem dX12_rules_2 : decode cX12_rules 2 = .ok (.iload_n 1, 1) := by decide +kernel
theorem dX12_rules_3 : decode cX12_rules 3 = .ok (.sipush 553, 3) := by decide +kernel
theorem dX12_rules_6 : decode cX12_rules 6 = .ok (.if_icmp .ge 21, 3) := by decide +kernel
theorem dX12_rules_9 : decode cX12_rules 9 = .ok (.aload_n 0, 1) := by decide +kernel
theorem dX12_rules_10 : decode cX12_rules 10 = .ok (.getfield 22, 3) := by decide +kernel
theorem dX12_rules_13 : decode cX12_rules 13 = .ok (.iload_n 1, 1) := by decide +kernel
theorem dX12_rules_14 : decode cX12_rules 14 = .ok (.aload_n 0, 1) := by decide +kernel
theorem dX12_rules_15 : decode cX12_rules 15 = .ok (.getfield 7, 3) := by decide +kernel
theorem dX12_rules_18 : decode cX12_rules 18 = .ok (.iload_n 1, 1) := by decide +kernel
theorem dX12_rules_19 : decode cX12_rules 19 = .ok (.iaload, 1) := by decide +kernel
theorem dX12_rules_20 : decode cX12_rules 20 = .ok (.iastore, 1) := by decide +kernel
theorem dX12_rules_21 : decode cX12_rules 21 = .ok (.iinc 1 1, 3) := by decide +kernel
theorem dX12_rules_24 : decode cX12_rules 24 = .ok (.goto (-22), 3) := by decide +kernel
theorem dX12_rules_27 : decode cX12_rules 27 = .ok (.aload_n 0, 1) := by decide +kernel
theorem dX12_rules_28 : decode cX12_rules 28 = .ok (.getfield 7, 3) := by decide +kernel
theorem dX12_rules_31 : decode cX12_rules 31 = .ok (.iconst 5, 1) := by decide +kernel
theorem dX12_rules_32 : decode cX12_rules 32 = .ok (.iconst 0, 1) := by decide +kernel
theorem dX12_rules_33 : decode cX12_rules 33 = .ok (.iastore, 1) := by decide +kernel
theorem dX12_rules_34 : decode cX12_rules 34 = .ok (.aload_n 0, 1) := by decide +kernel
theorem dX12_rules_35 : decode cX12_rules 35 = .ok (.getfield 7, 3) := by decide +kernel
theorem dX12_rules_38 : decode cX12_rules 38 = .ok (.bipush 7, 2) := by decide +kernel
theorem dX12_rules_40 : decode cX12_rules 40 = .ok (.iconst 0, 1) := by decide +kernel
theorem dX12_rules_41 : decode cX12_rules 41 = .ok (.iastore, 1) := by decide +kernel
theorem dX12_rules_42 : decode cX12_rules 42 = .ok (.aload_n 0, 1) := by decide +kernel
theorem dX12_rules_43 : decode cX12_rules 43 = .ok (.iconst 0, 1) := by decide +kernel
theorem dX12_rules_44 : decode cX12_rules 44 = .ok (.putfield 129, 3) := by decide +kernel
theorem dX12_rules_47 : decode cX12_rules 47 = .ok (.aload_n 0, 1) := by decide +kernel
theorem dX12_rules_48 : decode cX12_rules 48 = .ok (.iconst 0, 1) := by decide +kernel
theorem dX12_rules_49 : decode cX12_rules 49 = .ok (.putfield 150, 3) := by decide +kernel
theorem dX12_rules_52 : decode cX12_rules 52 = .ok (.aload_n 0, 1) := by decide +kernel
theorem dX12_rules_53 : decode cX12_rules 53 = .ok (.invokevirtual 154, 3) := by decide +kernel
theorem dX12_rules_56 : decode cX12_rules 56 = .ok (.aload_n 0, 1) := by decide +kernel
theorem dX12_rules_57 : decode cX12_rules 57 = .ok (.getfield 150, 3) := by decide +kernel
theorem dX12_rules_60 : decode cX12_rules 60 = .ok (.ifCond .ne 17, 3) := by decide +kernel
theorem dX12_rules_63 : decode cX12_rules 63 = .ok (.aload_n 0, 1) := by decide +kernel
theorem dX12_rules_64 : decode cX12_rules 64 = .ok (.getfield 144, 3) := by decide +kernel
theorem dX12_rules_67 : decode cX12_rules 67 = .ok (.ifCond .eq 10, 3) := by decide +kernel
theorem dX12_rules_70 : decode cX12_rules 70 = .ok (.aload_n 0, 1) := by decide +kernel
theorem dX12_rules_71 : decode cX12_rules 71 = .ok (.invokevirtual 206, 3) := by decide +kernel
theorem dX12_rules_74 : decode cX12_rules 74 = .ok (.goto (-18), 3) := by decide +kernel
theorem dX12_rules_77 : decode cX12_rules 77 = .ok (.aload_n 0, 1) := by decide +kernel
theorem dX12_rules_78 : decode cX12_rules 78 = .ok (.iconst 0, 1) := by decide +kernel
theorem dX12_rules_79 : decode cX12_rules 79 = .ok (.putfield 123, 3) := by decide +kernel
theorem dX12_rules_82 : decode cX12_rules 82 = .ok (.iconst 0, 1) := by decide +kernel
theorem dX12_rules_83 : decode cX12_rules 83 = .ok (.istore_n 1, 1) := by decide +kernel
theorem dX12_rules_84 : decode cX12_rules 84 = .ok (.iload_n 1, 1) := by decide +kernel
theorem dX12_rules_85 : decode cX12_rules 85 = .ok (.sipush 553, 3) := by decide +kernel
theorem dX12_rules_88 : decode cX12_rules 88 = .ok (.if_icmp .ge 28, 3) := by decide +kernel
theorem dX12_rules_91 : decode cX12_rules 91 = .ok (.aload_n 0, 1) := by decide +kernel
theorem dX12_rules_92 : decode cX12_rules 92 = .ok (.getfield 150, 3) := by decide +kernel
theorem dX12_rules_95 : decode cX12_rules 95 = .ok (.ifCond .eq 21, 3) := by decide +kernel
theorem dX12_rules_98 : decode cX12_rules 98 = .ok (.aload_n 0, 1) := by decide +kernel
theorem dX12_rules_99 : decode cX12_rules 99 = .ok (.getfield 7, 3) := by decide +kernel
theorem dX12_rules_102 : decode cX12_rules 102 = .ok (.iload_n 1, 1) := by decide +kernel
theorem dX12_rules_103 : decode cX12_rules 103 = .ok (.aload_n 0, 1) := by decide +kernel
theorem dX12_rules_104 : decode cX12_rules 104 = .ok (.getfield 22, 3) := by decide +kernel
theorem dX12_rules_107 : decode cX12_rules 107 = .ok (.iload_n 1, 1) := by decide +kernel
theorem dX12_rules_108 : decode cX12_rules 108 = .ok (.iaload, 1) := by decide +kernel
theorem dX12_rules_109 : decode cX12_rules 109 = .ok (.iastore, 1) := by decide +kernel
theorem dX12_rules_110 : decode cX12_rules 110 = .ok (.iinc 1 1, 3) := by decide +kernel
theorem dX12_rules_113 : decode cX12_rules 113 = .ok (.goto (-29), 3) := by decide +kernel
theorem dX12_rules_116 : decode cX12_rules 116 = .ok (.aload_n 0, 1) := by decide +kernel
theorem dX12_rules_117 : decode cX12_rules 117 = .ok (.getfield 150, 3) := by decide +kernel
theorem dX12_rules_120 : decode cX12_rules 120 = .ok (.ifCond .eq 13, 3) := by decide +kernel
theorem dX12_rules_123 : decode cX12_rules 123 = .ok (.bipush (-100), 2) := by decide +kernel
theorem dX12_rules_125 : decode cX12_rules 125 = .ok (.aload_n 0, 1) := by decide +kernel
theorem dX12_rules_126 : decode cX12_rules 126 = .ok (.getfield 132, 3) := by decide +kernel
theorem dX12_rules_129 : decode cX12_rules 129 = .ok (.isub, 1) := by decide +kernel
theorem dX12_rules_130 : decode cX12_rules 130 = .ok (.goto 9, 3) := by decide +kernel
theorem dX12_rules_133 : decode cX12_rules 133 = .ok (.aload_n 0, 1) := by decide +kernel
theorem dX12_rules_134 : decode cX12_rules 134 = .ok (.getfield 7, 3) := by decide +kernel
theorem dX12_rules_137 : decode cX12_rules 137 = .ok (.iconst 5, 1) := by decide +kernel
theorem dX12_rules_138 : decode cX12_rules 138 = .ok (.iaload, 1) := by decide +kernel
theorem dX12_rules_139 : decode cX12_rules 139 = .ok (.ireturn, 1) := by decide +kernel
theorem dX12_doesBy_0 : decode cX12_doesBy 0 = .ok (.bipush 41, 2) := by decide +kernel
theorem dX12_doesBy_2 : decode cX12_doesBy 2 = .ok (.aload_n 0, 1) := by decide +kernel
theorem dX12_doesBy_3 : decode cX12_doesBy 3 = .ok (.iload_n 1, 1) := by decide +kernel
theorem dX12_doesBy_4 : decode cX12_doesBy 4 = .ok (.iconst 1, 1) := by decide +kernel
theorem dX12_doesBy_5 : decode cX12_doesBy 5 = .ok (.invokevirtual 69, 3) := by decide +kernel
theorem dX12_doesBy_8 : decode cX12_doesBy 8 = .ok (.iadd, 1) := by decide +kernel
theorem dX12_doesBy_9 : decode cX12_doesBy 9 = .ok (.istore_n 3, 1) := by decide +kernel
theorem dX12_doesBy_10 : decode cX12_doesBy 10 = .ok (.bipush 38, 2) := by decide +kernel
theorem dX12_doesBy_12 : decode cX12_doesBy 12 = .ok (.aload_n 0, 1) := by decide +kernel
theorem dX12_doesBy_13 : decode cX12_doesBy 13 = .ok (.iload_n 1, 1) := by decide +kernel
theorem dX12_doesBy_14 : decode cX12_doesBy 14 = .ok (.iconst 3, 1) := by decide +kernel
theorem dX12_doesBy_15 : decode cX12_doesBy 15 = .ok (.invokevirtual 69, 3) := by decide +kernel
theorem dX12_doesBy_18 : decode cX12_doesBy 18 = .ok (.iadd, 1) := by decide +kernel
theorem dX12_doesBy_19 : decode cX12_doesBy 19 = .ok (.istore 4, 2) := by decide +kernel
theorem dX12_doesBy_21 : decode cX12_doesBy 21 = .ok (.aload_n 0, 1) := by decide +kernel
theorem dX12_doesBy_22 : decode cX12_doesBy 22 = .ok (.iload_n 1, 1) := by decide +kernel
theorem dX12_doesBy_23 : decode cX12_doesBy 23 = .ok (.invokevirtual 96, 3) := by decide +kernel
theorem dX12_doesBy_26 : decode cX12_doesBy 26 = .ok (.aload_n 0, 1) := by decide +kernel
theorem dX12_doesBy_27 : decode cX12_doesBy 27 = .ok (.getfield 7, 3) := by decide +kernel
theorem dX12_doesBy_30 : decode cX12_doesBy 30 = .ok (.iload 4, 2) := by decide +kernel
theorem dX12_doesBy_32 : decode cX12_doesBy 32 = .ok (.iaload, 1) := by decide +kernel
theorem dX12_doesBy_33 : decode cX12_doesBy 33 = .ok (.isub, 1) := by decide +kernel
theorem dX12_doesBy_34 : decode cX12_doesBy 34 = .ok (.aload_n 0, 1) := by decide +kernel
theorem dX12_doesBy_35 : decode cX12_doesBy 35 = .ok (.getfield 7, 3) := by decide +kernel
theorem dX12_doesBy_38 : decode cX12_doesBy 38 = .ok (.iload_n 3, 1) := by decide +kernel
theorem dX12_doesBy_39 : decode cX12_doesBy 39 = .ok (.iaload, 1) := by decide +kernel
theorem dX12_doesBy_40 : decode cX12_doesBy 40 = .ok (.aload_n 0, 1) := by decide +kernel
theorem dX12_doesBy_41 : decode cX12_doesBy 41 = .ok (.iload_n 1, 1) := by decide +kernel
theorem dX12_doesBy_42 : decode cX12_doesBy 42 = .ok (.iconst 2, 1) := by decide +kernel
theorem dX12_doesBy_43 : decode cX12_doesBy 43 = .ok (.invokevirtual 69, 3) := by decide +kernel
theorem dX12_doesBy_46 : decode cX12_doesBy 46 = .ok (.invokestatic 209, 3) := by decide +kernel
theorem dX12_doesBy_49 : decode cX12_doesBy 49 = .ok (.iconst 3, 1) := by decide +kernel
theorem dX12_doesBy_50 : decode cX12_doesBy 50 = .ok (.idiv, 1) := by decide +kernel
theorem dX12_doesBy_51 : decode cX12_doesBy 51 = .ok (.isub, 1) := by decide +kernel
theorem dX12_doesBy_52 : decode cX12_doesBy 52 = .ok (.istore 5, 2) := by decide +kernel
theorem dX12_doesBy_54 : decode cX12_doesBy 54 = .ok (.iload 5, 2) := by decide +kernel
theorem dX12_doesBy_56 : decode cX12_doesBy 56 = .ok (.ifCond .ge 7, 3) := by decide +kernel
theorem dX12_doesBy_59 : decode cX12_doesBy 59 = .ok (.iconst 0, 1) := by decide +kernel
theorem dX12_doesBy_60 : decode cX12_doesBy 60 = .ok (.goto 5, 3) := by decide +kernel
theorem dX12_doesBy_63 : decode cX12_doesBy 63 = .ok (.iload 5, 2) := by decide +kernel
theorem dX12_doesBy_65 : decode cX12_doesBy 65 = .ok (.istore 5, 2) := by decide +kernel
theorem dX12_doesBy_67 : decode cX12_doesBy 67 = .ok (.aload_n 0, 1) := by decide +kernel
theorem dX12_doesBy_68 : decode cX12_doesBy 68 = .ok (.getfield 7, 3) := by decide +kernel
theorem dX12_doesBy_71 : decode cX12_doesBy 71 = .ok (.iload 4, 2) := by decide +kernel
theorem dX12_doesBy_73 : decode cX12_doesBy 73 = .ok (.bipush 9, 2) := by decide +kernel
theorem dX12_doesBy_75 : decode cX12_doesBy 75 = .ok (.aload_n 0, 1) := by decide +kernel
theorem dX12_doesBy_76 : decode cX12_doesBy 76 = .ok (.getfield 7, 3) := by decide +kernel
theorem dX12_doesBy_79 : decode cX12_doesBy 79 = .ok (.iload 4, 2) := by decide +kernel
theorem dX12_doesBy_81 : decode cX12_doesBy 81 = .ok (.iaload, 1) := by decide +kernel
theorem dX12_doesBy_82 : decode cX12_doesBy 82 = .ok (.iload_n 2, 1) := by decide +kernel
theorem dX12_doesBy_83 : decode cX12_doesBy 83 = .ok (.ifCond .ne 11, 3) := by decide +kernel
theorem dX12_doesBy_86 : decode cX12_doesBy 86 = .ok (.aload_n 0, 1) := by decide +kernel
theorem dX12_doesBy_87 : decode cX12_doesBy 87 = .ok (.iload_n 1, 1) := by decide +kernel
theorem dX12_doesBy_88 : decode cX12_doesBy 88 = .ok (.invokevirtual 100, 3) := by decide +kernel
theorem dX12_doesBy_91 : decode cX12_doesBy 91 = .ok (.goto 4, 3) := by decide +kernel
theorem dX12_doesBy_94 : decode cX12_doesBy 94 = .ok (.iconst 1, 1) := by decide +kernel
theorem dX12_doesBy_95 : decode cX12_doesBy 95 = .ok (.iadd, 1) := by decide +kernel
theorem dX12_doesBy_96 : decode cX12_doesBy 96 = .ok (.invokestatic 212, 3) := by decide +kernel
theorem dX12_doesBy_99 : decode cX12_doesBy 99 = .ok (.iastore, 1) := by decide +kernel
theorem dX12_doesBy_100 : decode cX12_doesBy 100 = .ok (.aload_n 0, 1) := by decide +kernel
theorem dX12_doesBy_101 : decode cX12_doesBy 101 = .ok (.getfield 7, 3) := by decide +kernel
theorem dX12_doesBy_104 : decode cX12_doesBy 104 = .ok (.bipush 8, 2) := by decide +kernel
theorem dX12_doesBy_106 : decode cX12_doesBy 106 = .ok (.iconst 5, 1) := by decide +kernel
theorem dX12_doesBy_107 : decode cX12_doesBy 107 = .ok (.iload_n 1, 1) := by decide +kernel
theorem dX12_doesBy_108 : decode cX12_doesBy 108 = .ok (.imul, 1) := by decide +kernel
theorem dX12_doesBy_109 : decode cX12_doesBy 109 = .ok (.iadd, 1) := by decide +kernel
theorem dX12_doesBy_110 : decode cX12_doesBy 110 = .ok (.iconst 4, 1) := by decide +kernel
theorem dX12_doesBy_111 : decode cX12_doesBy 111 = .ok (.iadd, 1) := by decide +kernel
theorem dX12_doesBy_112 : decode cX12_doesBy 112 = .ok (.dup2, 1) := by decide +kernel
theorem dX12_doesBy_113 : decode cX12_doesBy 113 = .ok (.iaload, 1) := by decide +kernel
theorem dX12_doesBy_114 : decode cX12_doesBy 114 = .ok (.iconst 1, 1) := by decide +kernel
theorem dX12_doesBy_115 : decode cX12_doesBy 115 = .ok (.isub, 1) := by decide +kernel
theorem dX12_doesBy_116 : decode cX12_doesBy 116 = .ok (.iastore, 1) := by decide +kernel
theorem dX12_doesBy_117 : decode cX12_doesBy 117 = .ok (.aload_n 0, 1) := by decide +kernel
theorem dX12_doesBy_118 : decode cX12_doesBy 118 = .ok (.getfield 7, 3) := by decide +kernel
theorem dX12_doesBy_121 : decode cX12_doesBy 121 = .ok (.iload_n 3, 1) := by decide +kernel
theorem dX12_doesBy_122 : decode cX12_doesBy 122 = .ok (.aload_n 0, 1) := by decide +kernel
theorem dX12_doesBy_123 : decode cX12_doesBy 123 = .ok (.iload_n 1, 1) := by decide +kernel
theorem dX12_doesBy_124 : decode cX12_doesBy 124 = .ok (.iconst 2, 1) := by decide +kernel
theorem dX12_doesBy_125 : decode cX12_doesBy 125 = .ok (.invokevirtual 69, 3) := by decide +kernel
theorem dX12_doesBy_128 : decode cX12_doesBy 128 = .ok (.iastore, 1) := by decide +kernel
theorem dX12_doesBy_129 : decode cX12_doesBy 129 = .ok (.aload_n 0, 1) := by decide +kernel
theorem dX12_doesBy_130 : decode cX12_doesBy 130 = .ok (.iload_n 1, 1) := by decide +kernel
theorem dX12_doesBy_131 : decode cX12_doesBy 131 = .ok (.putfield 215, 3) := by decide +kernel
theorem dX12_doesBy_134 : decode cX12_doesBy 134 = .ok (.iload_n 2, 1) := by decide +kernel
theorem dX12_doesBy_135 : decode cX12_doesBy 135 = .ok (.ifCond .ne 8, 3) := by decide +kernel
theorem dX12_doesBy_138 : decode cX12_doesBy 138 = .ok (.iload 5, 2) := by decide +kernel
theorem dX12_doesBy_140 : decode cX12_doesBy 140 = .ok (.goto 7, 3) := by decide +kernel
theorem dX12_doesBy_143 : decode cX12_doesBy 143 = .ok (.iload 5, 2) := by decide +kernel
theorem dX12_doesBy_145 : decode cX12_doesBy 145 = .ok (.iconst 2, 1) := by decide +kernel
theorem dX12_doesBy_146 : decode cX12_doesBy 146 = .ok (.idiv, 1) := by decide +kernel
theorem dX12_doesBy_147 : decode cX12_doesBy 147 = .ok (.ireturn, 1) := by decide +kernel
theorem dX12_goesWith_0 : decode cX12_goesWith 0 = .ok (.iload_n 1, 1) := by decide +kernel
theorem dX12_goesWith_1 : decode cX12_goesWith 1 = .ok (.iconst 1, 1) := by decide +kernel
theorem dX12_goesWith_2 : decode cX12_goesWith 2 = .ok (.isub, 1) := by decide +kernel
theorem dX12_goesWith_3 : decode cX12_goesWith 3 = .ok (.istore_n 2, 1) := by decide +kernel
theorem dX12_goesWith_4 : decode cX12_goesWith 4 = .ok (.aload_n 0, 1) := by decide +kernel
theorem dX12_goesWith_5 : decode cX12_goesWith 5 = .ok (.iconst (-1), 1) := by decide +kernel
theorem dX12_goesWith_6 : decode cX12_goesWith 6 = .ok (.putfield 215, 3) := by decide +kernel
theorem dX12_goesWith_9 : decode cX12_goesWith 9 = .ok (.iconst 0, 1) := by decide +kernel
theorem dX12_goesWith_10 : decode cX12_goesWith 10 = .ok (.istore_n 3, 1) := by decide +kernel
theorem dX12_goesWith_11 : decode cX12_goesWith 11 = .ok (.iload_n 2, 1) := by decide +kernel
theorem dX12_goesWith_12 : decode cX12_goesWith 12 = .ok (.ifCond .lt 46, 3) := by decide +kernel
theorem dX12_goesWith_15 : decode cX12_goesWith 15 = .ok (.aload_n 0, 1) := by decide +kernel
theorem dX12_goesWith_16 : decode cX12_goesWith 16 = .ok (.iload_n 2, 1) := by decide +kernel
theorem dX12_goesWith_17 : decode cX12_goesWith 17 = .ok (.iconst 4, 1) := by decide +kernel
theorem dX12_goesWith_18 : decode cX12_goesWith 18 = .ok (.invokevirtual 69, 3) := by decide +kernel
theorem dX12_goesWith_21 : decode cX12_goesWith 21 = .ok (.ifCond .le 37, 3) := by decide +kernel
theorem dX12_goesWith_24 : decode cX12_goesWith 24 = .ok (.aload_n 0, 1) := by decide +kernel
theorem dX12_goesWith_25 : decode cX12_goesWith 25 = .ok (.iload_n 2, 1) := by decide +kernel
theorem dX12_goesWith_26 : decode cX12_goesWith 26 = .ok (.aload_n 0, 1) := by decide +kernel
theorem dX12_goesWith_27 : decode cX12_goesWith 27 = .ok (.getfield 7, 3) := by decide +kernel
theorem dX12_goesWith_30 : decode cX12_goesWith 30 = .ok (.iconst 1, 1) := by decide +kernel
theorem dX12_goesWith_31 : decode cX12_goesWith 31 = .ok (.iaload, 1) := by decide +kernel
theorem dX12_goesWith_32 : decode cX12_goesWith 32 = .ok (.invokevirtual 93, 3) := by decide +kernel
theorem dX12_goesWith_35 : decode cX12_goesWith 35 = .ok (.ifCond .eq 23, 3) := by decide +kernel
theorem dX12_goesWith_38 : decode cX12_goesWith 38 = .ok (.aload_n 0, 1) := by decide +kernel
theorem dX12_goesWith_39 : decode cX12_goesWith 39 = .ok (.iload_n 2, 1) := by decide +kernel
theorem dX12_goesWith_40 : decode cX12_goesWith 40 = .ok (.invokevirtual 103, 3) := by decide +kernel
theorem dX12_goesWith_43 : decode cX12_goesWith 43 = .ok (.iconst 2, 1) := by decide +kernel
theorem dX12_goesWith_44 : decode cX12_goesWith 44 = .ok (.if_icmp .eq 14, 3) := by decide +kernel
theorem dX12_goesWith_47 : decode cX12_goesWith 47 = .ok (.aload_n 0, 1) := by decide +kernel
theorem dX12_goesWith_48 : decode cX12_goesWith 48 = .ok (.iload_n 2, 1) := by decide +kernel
theorem dX12_goesWith_49 : decode cX12_goesWith 49 = .ok (.aload_n 0, 1) := by decide +kernel
theorem dX12_goesWith_50 : decode cX12_goesWith 50 = .ok (.iload_n 2, 1) := by decide +kernel
theorem dX12_goesWith_51 : decode cX12_goesWith 51 = .ok (.invokevirtual 103, 3) := by decide +kernel
theorem dX12_goesWith_54 : decode cX12_goesWith 54 = .ok (.invokevirtual 218, 3) := by decide +kernel
theorem dX12_goesWith_57 : decode cX12_goesWith 57 = .ok (.istore_n 3, 1) := by decide +kernel
theorem dX12_goesWith_58 : decode cX12_goesWith 58 = .ok (.iconst 0, 1) := by decide +kernel
theorem dX12_goesWith_59 : decode cX12_goesWith 59 = .ok (.istore 4, 2) := by decide +kernel
theorem dX12_goesWith_61 : decode cX12_goesWith 61 = .ok (.iload 4, 2) := by decide +kernel
theorem dX12_goesWith_63 : decode cX12_goesWith 63 = .ok (.iconst 3, 1) := by decide +kernel
theorem dX12_goesWith_64 : decode cX12_goesWith 64 = .ok (.if_icmp .ge 73, 3) := by decide +kernel
theorem dX12_goesWith_67 : decode cX12_goesWith 67 = .ok (.aload_n 0, 1) := by decide +kernel
theorem dX12_goesWith_68 : decode cX12_goesWith 68 = .ok (.getfield 215, 3) := by decide +kernel
theorem dX12_goesWith_71 : decode cX12_goesWith 71 = .ok (.ifCond .lt 17, 3) := by decide +kernel
theorem dX12_goesWith_74 : decode cX12_goesWith 74 = .ok (.aload_n 0, 1) := by decide +kernel
theorem dX12_goesWith_75 : decode cX12_goesWith 75 = .ok (.aload_n 0, 1) := by decide +kernel
theorem dX12_goesWith_76 : decode cX12_goesWith 76 = .ok (.getfield 215, 3) := by decide +kernel
theorem dX12_goesWith_79 : decode cX12_goesWith 79 = .ok (.iconst 3, 1) := by decide +kernel
theorem dX12_goesWith_80 : decode cX12_goesWith 80 = .ok (.invokevirtual 69, 3) := by decide +kernel
theorem dX12_goesWith_83 : decode cX12_goesWith 83 = .ok (.iload 4, 2) := by decide +kernel
theorem dX12_goesWith_85 : decode cX12_goesWith 85 = .ok (.if_icmp .eq 7, 3) := by decide +kernel
theorem dX12_goesWith_88 : decode cX12_goesWith 88 = .ok (.iconst 1, 1) := by decide +kernel
theorem dX12_goesWith_89 : decode cX12_goesWith 89 = .ok (.goto 4, 3) := by decide +kernel
theorem dX12_goesWith_92 : decode cX12_goesWith 92 = .ok (.iconst 0, 1) := by decide +kernel
theorem dX12_goesWith_93 : decode cX12_goesWith 93 = .ok (.istore 5, 2) := by decide +kernel
theorem dX12_goesWith_95 : decode cX12_goesWith 95 = .ok (.aload_n 0, 1) := by decide +kernel
theorem dX12_goesWith_96 : decode cX12_goesWith 96 = .ok (.getfield 7, 3) := by decide +kernel
theorem dX12_goesWith_99 : decode cX12_goesWith 99 = .ok (.bipush 38, 2) := by decide +kernel
theorem dX12_goesWith_101 : decode cX12_goesWith 101 = .ok (.iload 4, 2) := by decide +kernel
theorem dX12_goesWith_103 : decode cX12_goesWith 103 = .ok (.iadd, 1) := by decide +kernel
theorem dX12_goesWith_104 : decode cX12_goesWith 104 = .ok (.dup2, 1) := by decide +kernel
theorem dX12_goesWith_105 : decode cX12_goesWith 105 = .ok (.iaload, 1) := by decide +kernel
theorem dX12_goesWith_106 : decode cX12_goesWith 106 = .ok (.iload 5, 2) := by decide +kernel
theorem dX12_goesWith_108 : decode cX12_goesWith 108 = .ok (.ifCond .eq 20, 3) := by decide +kernel
theorem dX12_goesWith_111 : decode cX12_goesWith 111 = .ok (.aload_n 0, 1) := by decide +kernel
theorem dX12_goesWith_112 : decode cX12_goesWith 112 = .ok (.getfield 7, 3) := by decide +kernel
theorem dX12_goesWith_115 : decode cX12_goesWith 115 = .ok (.bipush 38, 2) := by decide +kernel
theorem dX12_goesWith_117 : decode cX12_goesWith 117 = .ok (.iload 4, 2) := by decide +kernel
theorem dX12_goesWith_119 : decode cX12_goesWith 119 = .ok (.iadd, 1) := by decide +kernel
theorem dX12_goesWith_120 : decode cX12_goesWith 120 = .ok (.iaload, 1) := by decide +kernel
theorem dX12_goesWith_121 : decode cX12_goesWith 121 = .ok (.ifCond .le 7, 3) := by decide +kernel
theorem dX12_goesWith_124 : decode cX12_goesWith 124 = .ok (.iconst 1, 1) := by decide +kernel
theorem dX12_goesWith_125 : decode cX12_goesWith 125 = .ok (.goto 4, 3) := by decide +kernel
theorem dX12_goesWith_128 : decode cX12_goesWith 128 = .ok (.iconst 0, 1) := by decide +kernel
theorem dX12_goesWith_129 : decode cX12_goesWith 129 = .ok (.isub, 1) := by decide +kernel
theorem dX12_goesWith_130 : decode cX12_goesWith 130 = .ok (.iastore, 1) := by decide +kernel
theorem dX12_goesWith_131 : decode cX12_goesWith 131 = .ok (.iinc 4 1, 3) := by decide +kernel
theorem dX12_goesWith_134 : decode cX12_goesWith 134 = .ok (.goto (-73), 3) := by decide +kernel
theorem dX12_goesWith_137 : decode cX12_goesWith 137 = .ok (.aload_n 0, 1) := by decide +kernel
theorem dX12_goesWith_138 : decode cX12_goesWith 138 = .ok (.getfield 7, 3) := by decide +kernel
theorem dX12_goesWith_141 : decode cX12_goesWith 141 = .ok (.iconst 1, 1) := by decide +kernel
theorem dX12_goesWith_142 : decode cX12_goesWith 142 = .ok (.dup2, 1) := by decide +kernel
theorem dX12_goesWith_143 : decode cX12_goesWith 143 = .ok (.iaload, 1) := by decide +kernel
theorem dX12_goesWith_144 : decode cX12_goesWith 144 = .ok (.iconst 1, 1) := by decide +kernel
theorem dX12_goesWith_145 : decode cX12_goesWith 145 = .ok (.iadd, 1) := by decide +kernel
theorem dX12_goesWith_146 : decode cX12_goesWith 146 = .ok (.iastore, 1) := by decide +kernel
theorem dX12_goesWith_147 : decode cX12_goesWith 147 = .ok (.aload_n 0, 1) := by decide +kernel
theorem dX12_goesWith_148 : decode cX12_goesWith 148 = .ok (.getfield 7, 3) := by decide +kernel
theorem dX12_goesWith_151 : decode cX12_goesWith 151 = .ok (.iconst 3, 1) := by decide +kernel
theorem dX12_goesWith_152 : decode cX12_goesWith 152 = .ok (.dup2, 1) := by decide +kernel
theorem dX12_goesWith_153 : decode cX12_goesWith 153 = .ok (.iaload, 1) := by decide +kernel
theorem dX12_goesWith_154 : decode cX12_goesWith 154 = .ok (.iload_n 3, 1) := by decide +kernel
theorem dX12_goesWith_155 : decode cX12_goesWith 155 = .ok (.iadd, 1) := by decide +kernel
theorem dX12_goesWith_156 : decode cX12_goesWith 156 = .ok (.iastore, 1) := by decide +kernel
theorem dX12_goesWith_157 : decode cX12_goesWith 157 = .ok (.iload_n 3, 1) := by decide +kernel
theorem dX12_goesWith_158 : decode cX12_goesWith 158 = .ok (.ireturn, 1) := by decide +kernel
theorem dX12_restAct_0 : decode cX12_restAct 0 = .ok (.iconst 0, 1) := by decide +kernel
theorem dX12_restAct_1 : decode cX12_restAct 1 = .ok (.istore_n 1, 1) := by decide +kernel
theorem dX12_restAct_2 : decode cX12_restAct 2 = .ok (.iload_n 1, 1) := by decide +kernel
theorem dX12_restAct_3 : decode cX12_restAct 3 = .ok (.aload_n 0, 1) := by decide +kernel
theorem dX12_restAct_4 : decode cX12_restAct 4 = .ok (.getfield 7, 3) := by decide +kernel
theorem dX12_restAct_7 : decode cX12_restAct 7 = .ok (.iconst 0, 1) := by decide +kernel
theorem dX12_restAct_8 : decode cX12_restAct 8 = .ok (.iaload, 1) := by decide +kernel
theorem dX12_restAct_9 : decode cX12_restAct 9 = .ok (.if_icmp .ge 36, 3) := by decide +kernel
theorem dX12_restAct_12 : decode cX12_restAct 12 = .ok (.aload_n 0, 1) := by decide +kernel
theorem dX12_restAct_13 : decode cX12_restAct 13 = .ok (.iload_n 1, 1) := by decide +kernel
theorem dX12_restAct_14 : decode cX12_restAct 14 = .ok (.iconst 4, 1) := by decide +kernel
theorem dX12_restAct_15 : decode cX12_restAct 15 = .ok (.invokevirtual 69, 3) := by decide +kernel
theorem dX12_restAct_18 : decode cX12_restAct 18 = .ok (.ifCond .le 21, 3) := by decide +kernel
theorem dX12_restAct_21 : decode cX12_restAct 21 = .ok (.aload_n 0, 1) := by decide +kernel
theorem dX12_restAct_22 : decode cX12_restAct 22 = .ok (.iload_n 1, 1) := by decide +kernel
theorem dX12_restAct_23 : decode cX12_restAct 23 = .ok (.aload_n 0, 1) := by decide +kernel
theorem dX12_restAct_24 : decode cX12_restAct 24 = .ok (.getfield 7, 3) := by decide +kernel
theorem dX12_restAct_27 : decode cX12_restAct 27 = .ok (.iconst 1, 1) := by decide +kernel
theorem dX12_restAct_28 : decode cX12_restAct 28 = .ok (.iaload, 1) := by decide +kernel
theorem dX12_restAct_29 : decode cX12_restAct 29 = .ok (.invokevirtual 93, 3) := by decide +kernel
theorem dX12_restAct_32 : decode cX12_restAct 32 = .ok (.ifCond .eq 7, 3) := by decide +kernel
theorem dX12_restAct_35 : decode cX12_restAct 35 = .ok (.iload_n 1, 1) := by decide +kernel
theorem dX12_restAct_36 : decode cX12_restAct 36 = .ok (.iconst 1, 1) := by decide +kernel
theorem dX12_restAct_37 : decode cX12_restAct 37 = .ok (.iadd, 1) := by decide +kernel
theorem dX12_restAct_38 : decode cX12_restAct 38 = .ok (.ireturn, 1) := by decide +kernel
theorem dX12_restAct_39 : decode cX12_restAct 39 = .ok (.iinc 1 1, 3) := by decide +kernel
theorem dX12_restAct_42 : decode cX12_restAct 42 = .ok (.goto (-40), 3) := by decide +kernel
theorem dX12_restAct_45 : decode cX12_restAct 45 = .ok (.iconst 0, 1) := by decide +kernel
theorem dX12_restAct_46 : decode cX12_restAct 46 = .ok (.ireturn, 1) := by decide +kernel
theorem dX12_minute_0 : decode cX12_minute 0 = .ok (.aload_n 0, 1) := by decide +kernel
theorem dX12_minute_1 : decode cX12_minute 1 = .ok (.invokevirtual 115, 3) := by decide +kernel
theorem dX12_minute_4 : decode cX12_minute 4 = .ok (.ifCond .eq 8, 3) := by decide +kernel
theorem dX12_minute_7 : decode cX12_minute 7 = .ok (.bipush (-4), 2) := by decide +kernel
theorem dX12_minute_9 : decode cX12_minute 9 = .ok (.goto 11, 3) := by decide +kernel
theorem dX12_minute_12 : decode cX12_minute 12 = .ok (.aload_n 0, 1) := by decide +kernel
theorem dX12_minute_13 : decode cX12_minute 13 = .ok (.aload_n 0, 1) := by decide +kernel
theorem dX12_minute_14 : decode cX12_minute 14 = .ok (.invokevirtual 221, 3) := by decide +kernel
theorem dX12_minute_17 : decode cX12_minute 17 = .ok (.invokevirtual 224, 3) := by decide +kernel
theorem dX12_minute_20 : decode cX12_minute 20 = .ok (.ireturn, 1) := by decide +kernel
theorem dX12_onBy_0 : decode cX12_onBy 0 = .ok (.aload_n 0, 1) := by decide +kernel
theorem dX12_onBy_1 : decode cX12_onBy 1 = .ok (.iconst 0, 1) := by decide +kernel
theorem dX12_onBy_2 : decode cX12_onBy 2 = .ok (.invokevirtual 227, 3) := by decide +kernel
theorem dX12_onBy_5 : decode cX12_onBy 5 = .ok (.iconst 0, 1) := by decide +kernel
theorem dX12_onBy_6 : decode cX12_onBy 6 = .ok (.istore_n 2, 1) := by decide +kernel
theorem dX12_onBy_7 : decode cX12_onBy 7 = .ok (.iconst 0, 1) := by decide +kernel
theorem dX12_onBy_8 : decode cX12_onBy 8 = .ok (.istore_n 3, 1) := by decide +kernel
theorem dX12_onBy_9 : decode cX12_onBy 9 = .ok (.iload_n 3, 1) := by decide +kernel
theorem dX12_onBy_10 : decode cX12_onBy 10 = .ok (.iload_n 1, 1) := by decide +kernel
theorem dX12_onBy_11 : decode cX12_onBy 11 = .ok (.if_icmp .ge 27, 3) := by decide +kernel
theorem dX12_onBy_14 : decode cX12_onBy 14 = .ok (.aload_n 0, 1) := by decide +kernel
theorem dX12_onBy_15 : decode cX12_onBy 15 = .ok (.invokevirtual 115, 3) := by decide +kernel
theorem dX12_onBy_18 : decode cX12_onBy 18 = .ok (.ifCond .ne 20, 3) := by decide +kernel
theorem dX12_onBy_21 : decode cX12_onBy 21 = .ok (.iload_n 2, 1) := by decide +kernel
theorem dX12_onBy_22 : decode cX12_onBy 22 = .ok (.aload_n 0, 1) := by decide +kernel
theorem dX12_onBy_23 : decode cX12_onBy 23 = .ok (.aload_n 0, 1) := by decide +kernel
theorem dX12_onBy_24 : decode cX12_onBy 24 = .ok (.invokevirtual 221, 3) := by decide +kernel
theorem dX12_onBy_27 : decode cX12_onBy 27 = .ok (.invokevirtual 224, 3) := by decide +kernel
theorem dX12_onBy_30 : decode cX12_onBy 30 = .ok (.iadd, 1) := by decide +kernel
theorem dX12_onBy_31 : decode cX12_onBy 31 = .ok (.istore_n 2, 1) := by decide +kernel
theorem dX12_onBy_32 : decode cX12_onBy 32 = .ok (.iinc 3 1, 3) := by decide +kernel
theorem dX12_onBy_35 : decode cX12_onBy 35 = .ok (.goto (-26), 3) := by decide +kernel
theorem dX12_onBy_38 : decode cX12_onBy 38 = .ok (.aload_n 0, 1) := by decide +kernel
theorem dX12_onBy_39 : decode cX12_onBy 39 = .ok (.iconst 0, 1) := by decide +kernel
theorem dX12_onBy_40 : decode cX12_onBy 40 = .ok (.invokevirtual 231, 3) := by decide +kernel
theorem dX12_onBy_43 : decode cX12_onBy 43 = .ok (.iload_n 2, 1) := by decide +kernel
theorem dX12_onBy_44 : decode cX12_onBy 44 = .ok (.ireturn, 1) := by decide +kernel
theorem dX12_on_0 : decode cX12_on 0 = .ok (.iload_n 1, 1) := by decide +kernel
theorem dX12_on_1 : decode cX12_on 1 = .ok (.i2l, 1) := by decide +kernel
theorem dX12_on_2 : decode cX12_on 2 = .ok (.lconst 0, 1) := by decide +kernel
theorem dX12_on_3 : decode cX12_on 3 = .ok (.ldc2_w 113, 3) := by decide +kernel
theorem dX12_on_6 : decode cX12_on 6 = .ok (.invokestatic 57, 3) := by decide +kernel
theorem dX12_on_9 : decode cX12_on 9 = .ok (.ifCond .eq 11, 3) := by decide +kernel
theorem dX12_on_12 : decode cX12_on 12 = .ok (.aload_n 0, 1) := by decide +kernel
theorem dX12_on_13 : decode cX12_on 13 = .ok (.iload_n 1, 1) := by decide +kernel
theorem dX12_on_14 : decode cX12_on 14 = .ok (.invokevirtual 234, 3) := by decide +kernel
theorem dX12_on_17 : decode cX12_on 17 = .ok (.goto 4, 3) := by decide +kernel
theorem dX12_on_20 : decode cX12_on 20 = .ok (.iconst (-1), 1) := by decide +kernel
theorem dX12_on_21 : decode cX12_on 21 = .ok (.ireturn, 1) := by decide +kernel
theorem dX12_when_0 : decode cX12_when 0 = .ok (.aload_n 0, 1) := by decide +kernel
theorem dX12_when_1 : decode cX12_when 1 = .ok (.iload_n 1, 1) := by decide +kernel
theorem dX12_when_2 : decode cX12_when 2 = .ok (.invokevirtual 88, 3) := by decide +kernel
theorem dX12_when_5 : decode cX12_when 5 = .ok (.ifCond .ne 5, 3) := by decide +kernel
theorem dX12_when_8 : decode cX12_when 8 = .ok (.iconst (-1), 1) := by decide +kernel
theorem dX12_when_9 : decode cX12_when 9 = .ok (.ireturn, 1) := by decide +kernel
theorem dX12_when_10 : decode cX12_when 10 = .ok (.aload_n 0, 1) := by decide +kernel
theorem dX12_when_11 : decode cX12_when 11 = .ok (.iconst 0, 1) := by decide +kernel
theorem dX12_when_12 : decode cX12_when 12 = .ok (.invokevirtual 227, 3) := by decide +kernel
theorem dX12_when_15 : decode cX12_when 15 = .ok (.bipush (-3), 2) := by decide +kernel
theorem dX12_when_17 : decode cX12_when 17 = .ok (.istore_n 2, 1) := by decide +kernel
theorem dX12_when_18 : decode cX12_when 18 = .ok (.aload_n 0, 1) := by decide +kernel
theorem dX12_when_19 : decode cX12_when 19 = .ok (.invokevirtual 115, 3) := by decide +kernel
theorem dX12_when_22 : decode cX12_when 22 = .ok (.ifCond .ne 42, 3) := by decide +kernel
theorem dX12_when_25 : decode cX12_when 25 = .ok (.iload_n 2, 1) := by decide +kernel
theorem dX12_when_26 : decode cX12_when 26 = .ok (.ifCond .ge 38, 3) := by decide +kernel
theorem dX12_when_29 : decode cX12_when 29 = .ok (.aload_n 0, 1) := by decide +kernel
theorem dX12_when_30 : decode cX12_when 30 = .ok (.getfield 7, 3) := by decide +kernel
theorem dX12_when_33 : decode cX12_when 33 = .ok (.iconst 1, 1) := by decide +kernel
theorem dX12_when_34 : decode cX12_when 34 = .ok (.iaload, 1) := by decide +kernel
theorem dX12_when_35 : decode cX12_when 35 = .ok (.istore_n 3, 1) := by decide +kernel
theorem dX12_when_36 : decode cX12_when 36 = .ok (.aload_n 0, 1) := by decide +kernel
theorem dX12_when_37 : decode cX12_when 37 = .ok (.aload_n 0, 1) := by decide +kernel
theorem dX12_when_38 : decode cX12_when 38 = .ok (.invokevirtual 221, 3) := by decide +kernel
theorem dX12_when_41 : decode cX12_when 41 = .ok (.invokevirtual 224, 3) := by decide +kernel
theorem dX12_when_44 : decode cX12_when 44 = .ok (.istore 4, 2) := by decide +kernel
theorem dX12_when_46 : decode cX12_when 46 = .ok (.aload_n 0, 1) := by decide +kernel
theorem dX12_when_47 : decode cX12_when 47 = .ok (.getfield 215, 3) := by decide +kernel
theorem dX12_when_50 : decode cX12_when 50 = .ok (.iload_n 1, 1) := by decide +kernel
theorem dX12_when_51 : decode cX12_when 51 = .ok (.if_icmp .ne 7, 3) := by decide +kernel
theorem dX12_when_54 : decode cX12_when 54 = .ok (.iload_n 3, 1) := by decide +kernel
theorem dX12_when_55 : decode cX12_when 55 = .ok (.goto 5, 3) := by decide +kernel
theorem dX12_when_58 : decode cX12_when 58 = .ok (.bipush (-3), 2) := by decide +kernel
theorem dX12_when_60 : decode cX12_when 60 = .ok (.istore_n 2, 1) := by decide +kernel
theorem dX12_when_61 : decode cX12_when 61 = .ok (.goto (-43), 3) := by decide +kernel
theorem dX12_when_64 : decode cX12_when 64 = .ok (.aload_n 0, 1) := by decide +kernel
theorem dX12_when_65 : decode cX12_when 65 = .ok (.iconst 0, 1) := by decide +kernel
theorem dX12_when_66 : decode cX12_when 66 = .ok (.invokevirtual 231, 3) := by decide +kernel
theorem dX12_when_69 : decode cX12_when 69 = .ok (.iload_n 2, 1) := by decide +kernel
theorem dX12_when_70 : decode cX12_when 70 = .ok (.ireturn, 1) := by decide +kernel
theorem dX12_valueFor_0 : decode cX12_valueFor 0 = .ok (.bipush 8, 2) := by decide +kernel
theorem dX12_valueFor_2 : decode cX12_valueFor 2 = .ok (.iconst 5, 1) := by decide +kernel
theorem dX12_valueFor_3 : decode cX12_valueFor 3 = .ok (.iload_n 1, 1) := by decide +kernel
theorem dX12_valueFor_4 : decode cX12_valueFor 4 = .ok (.imul, 1) := by decide +kernel
theorem dX12_valueFor_5 : decode cX12_valueFor 5 = .ok (.iadd, 1) := by decide +kernel
theorem dX12_valueFor_6 : decode cX12_valueFor 6 = .ok (.iload_n 2, 1) := by decide +kernel
theorem dX12_valueFor_7 : decode cX12_valueFor 7 = .ok (.iadd, 1) := by decide +kernel
theorem dX12_valueFor_8 : decode cX12_valueFor 8 = .ok (.istore 5, 2) := by decide +kernel
theorem dX12_valueFor_10 : decode cX12_valueFor 10 = .ok (.aload_n 0, 1) := by decide +kernel
theorem dX12_valueFor_11 : decode cX12_valueFor 11 = .ok (.getfield 7, 3) := by decide +kernel
theorem dX12_valueFor_14 : decode cX12_valueFor 14 = .ok (.iload 5, 2) := by decide +kernel
theorem dX12_valueFor_16 : decode cX12_valueFor 16 = .ok (.iaload, 1) := by decide +kernel
theorem dX12_valueFor_17 : decode cX12_valueFor 17 = .ok (.istore 6, 2) := by decide +kernel
theorem dX12_valueFor_19 : decode cX12_valueFor 19 = .ok (.iload_n 3, 1) := by decide +kernel
theorem dX12_valueFor_20 : decode cX12_valueFor 20 = .ok (.istore 7, 2) := by decide +kernel
theorem dX12_valueFor_22 : decode cX12_valueFor 22 = .ok (.iconst (-1), 1) := by decide +kernel
theorem dX12_valueFor_23 : decode cX12_valueFor 23 = .ok (.istore 8, 2) := by decide +kernel
theorem dX12_valueFor_25 : decode cX12_valueFor 25 = .ok (.iload_n 3, 1) := by decide +kernel
theorem dX12_valueFor_26 : decode cX12_valueFor 26 = .ok (.istore 9, 2) := by decide +kernel
theorem dX12_valueFor_28 : decode cX12_valueFor 28 = .ok (.iload 9, 2) := by decide +kernel
theorem dX12_valueFor_30 : decode cX12_valueFor 30 = .ok (.iload 4, 2) := by decide +kernel
theorem dX12_valueFor_32 : decode cX12_valueFor 32 = .ok (.if_icmp .gt 58, 3) := by decide +kernel
theorem dX12_valueFor_35 : decode cX12_valueFor 35 = .ok (.aload_n 0, 1) := by decide +kernel
theorem dX12_valueFor_36 : decode cX12_valueFor 36 = .ok (.getfield 7, 3) := by decide +kernel
theorem dX12_valueFor_39 : decode cX12_valueFor 39 = .ok (.iload 5, 2) := by decide +kernel
theorem dX12_valueFor_41 : decode cX12_valueFor 41 = .ok (.iload 9, 2) := by decide +kernel
theorem dX12_valueFor_43 : decode cX12_valueFor 43 = .ok (.iastore, 1) := by decide +kernel
theorem dX12_valueFor_44 : decode cX12_valueFor 44 = .ok (.aload_n 0, 1) := by decide +kernel
theorem dX12_valueFor_45 : decode cX12_valueFor 45 = .ok (.bipush 16, 2) := by decide +kernel
theorem dX12_valueFor_47 : decode cX12_valueFor 47 = .ok (.invokevirtual 234, 3) := by decide +kernel
theorem dX12_valueFor_50 : decode cX12_valueFor 50 = .ok (.istore 10, 2) := by decide +kernel
theorem dX12_valueFor_52 : decode cX12_valueFor 52 = .ok (.iload 10, 2) := by decide +kernel
theorem dX12_valueFor_54 : decode cX12_valueFor 54 = .ok (.iload 8, 2) := by decide +kernel
theorem dX12_valueFor_56 : decode cX12_valueFor 56 = .ok (.if_icmp .le 8, 3) := by decide +kernel
theorem dX12_valueFor_59 : decode cX12_valueFor 59 = .ok (.iload 9, 2) := by decide +kernel
theorem dX12_valueFor_61 : decode cX12_valueFor 61 = .ok (.goto 5, 3) := by decide +kernel
theorem dX12_valueFor_64 : decode cX12_valueFor 64 = .ok (.iload 7, 2) := by decide +kernel
theorem dX12_valueFor_66 : decode cX12_valueFor 66 = .ok (.istore 7, 2) := by decide +kernel
theorem dX12_valueFor_68 : decode cX12_valueFor 68 = .ok (.iload 10, 2) := by decide +kernel
theorem dX12_valueFor_70 : decode cX12_valueFor 70 = .ok (.iload 8, 2) := by decide +kernel
theorem dX12_valueFor_72 : decode cX12_valueFor 72 = .ok (.if_icmp .le 8, 3) := by decide +kernel
theorem dX12_valueFor_75 : decode cX12_valueFor 75 = .ok (.iload 10, 2) := by decide +kernel
theorem dX12_valueFor_77 : decode cX12_valueFor 77 = .ok (.goto 5, 3) := by decide +kernel
theorem dX12_valueFor_80 : decode cX12_valueFor 80 = .ok (.iload 8, 2) := by decide +kernel
theorem dX12_valueFor_82 : decode cX12_valueFor 82 = .ok (.istore 8, 2) := by decide +kernel
theorem dX12_valueFor_84 : decode cX12_valueFor 84 = .ok (.iinc 9 1, 3) := by decide +kernel
theorem dX12_valueFor_87 : decode cX12_valueFor 87 = .ok (.goto (-59), 3) := by decide +kernel
theorem dX12_valueFor_90 : decode cX12_valueFor 90 = .ok (.aload_n 0, 1) := by decide +kernel
theorem dX12_valueFor_91 : decode cX12_valueFor 91 = .ok (.getfield 7, 3) := by decide +kernel
theorem dX12_valueFor_94 : decode cX12_valueFor 94 = .ok (.iload 5, 2) := by decide +kernel
theorem dX12_valueFor_96 : decode cX12_valueFor 96 = .ok (.iload 6, 2) := by decide +kernel
theorem dX12_valueFor_98 : decode cX12_valueFor 98 = .ok (.iastore, 1) := by decide +kernel
theorem dX12_valueFor_99 : decode cX12_valueFor 99 = .ok (.iload 7, 2) := by decide +kernel
theorem dX12_valueFor_101 : decode cX12_valueFor 101 = .ok (.ireturn, 1) := by decide +kernel
theorem dX12_weightFor_0 : decode cX12_weightFor 0 = .ok (.aload_n 0, 1) := by decide +kernel
theorem dX12_weightFor_1 : decode cX12_weightFor 1 = .ok (.iload_n 1, 1) := by decide +kernel
theorem dX12_weightFor_2 : decode cX12_weightFor 2 = .ok (.invokevirtual 88, 3) := by decide +kernel
theorem dX12_weightFor_5 : decode cX12_weightFor 5 = .ok (.ifCond .eq 15, 3) := by decide +kernel
theorem dX12_weightFor_8 : decode cX12_weightFor 8 = .ok (.aload_n 0, 1) := by decide +kernel
theorem dX12_weightFor_9 : decode cX12_weightFor 9 = .ok (.iload_n 1, 1) := by decide +kernel
theorem dX12_weightFor_10 : decode cX12_weightFor 10 = .ok (.iconst 2, 1) := by decide +kernel
theorem dX12_weightFor_11 : decode cX12_weightFor 11 = .ok (.iconst 1, 1) := by decide +kernel
theorem dX12_weightFor_12 : decode cX12_weightFor 12 = .ok (.bipush 9, 2) := by decide +kernel
theorem dX12_weightFor_14 : decode cX12_weightFor 14 = .ok (.invokevirtual 237, 3) := by decide +kernel
theorem dX12_weightFor_17 : decode cX12_weightFor 17 = .ok (.goto 4, 3) := by decide +kernel
theorem dX12_weightFor_20 : decode cX12_weightFor 20 = .ok (.iconst (-1), 1) := by decide +kernel
theorem dX12_weightFor_21 : decode cX12_weightFor 21 = .ok (.ireturn, 1) := by decide +kernel
theorem dX12_machineFor_0 : decode cX12_machineFor 0 = .ok (.aload_n 0, 1) := by decide +kernel
theorem dX12_machineFor_1 : decode cX12_machineFor 1 = .ok (.iload_n 1, 1) := by decide +kernel
theorem dX12_machineFor_2 : decode cX12_machineFor 2 = .ok (.invokevirtual 88, 3) := by decide +kernel
theorem dX12_machineFor_5 : decode cX12_machineFor 5 = .ok (.ifCond .eq 14, 3) := by decide +kernel
theorem dX12_machineFor_8 : decode cX12_machineFor 8 = .ok (.aload_n 0, 1) := by decide +kernel
theorem dX12_machineFor_9 : decode cX12_machineFor 9 = .ok (.iload_n 1, 1) := by decide +kernel
theorem dX12_machineFor_10 : decode cX12_machineFor 10 = .ok (.iconst 1, 1) := by decide +kernel
theorem dX12_machineFor_11 : decode cX12_machineFor 11 = .ok (.iconst 0, 1) := by decide +kernel
theorem dX12_machineFor_12 : decode cX12_machineFor 12 = .ok (.iconst 5, 1) := by decide +kernel
theorem dX12_machineFor_13 : decode cX12_machineFor 13 = .ok (.invokevirtual 237, 3) := by decide +kernel
theorem dX12_machineFor_16 : decode cX12_machineFor 16 = .ok (.goto 4, 3) := by decide +kernel
theorem dX12_machineFor_19 : decode cX12_machineFor 19 = .ok (.iconst (-1), 1) := by decide +kernel
theorem dX12_machineFor_20 : decode cX12_machineFor 20 = .ok (.ireturn, 1) := by decide +kernel
theorem dX12_isSet_0 : decode cX12_isSet 0 = .ok (.iload_n 1, 1) := by decide +kernel
theorem dX12_isSet_1 : decode cX12_isSet 1 = .ok (.i2l, 1) := by decide +kernel
theorem dX12_isSet_2 : decode cX12_isSet 2 = .ok (.lconst 0, 1) := by decide +kernel
theorem dX12_isSet_3 : decode cX12_isSet 3 = .ok (.iconst 1, 1) := by decide +kernel
theorem dX12_isSet_4 : decode cX12_isSet 4 = .ok (.aload_n 0, 1) := by decide +kernel
theorem dX12_isSet_5 : decode cX12_isSet 5 = .ok (.getfield 7, 3) := by decide +kernel
theorem dX12_isSet_8 : decode cX12_isSet 8 = .ok (.iconst 0, 1) := by decide +kernel
theorem dX12_isSet_9 : decode cX12_isSet 9 = .ok (.iaload, 1) := by decide +kernel
theorem dX12_isSet_10 : decode cX12_isSet 10 = .ok (.ishl, 1) := by decide +kernel
theorem dX12_isSet_11 : decode cX12_isSet 11 = .ok (.iconst 1, 1) := by decide +kernel
theorem dX12_isSet_12 : decode cX12_isSet 12 = .ok (.isub, 1) := by decide +kernel
theorem dX12_isSet_13 : decode cX12_isSet 13 = .ok (.i2l, 1) := by decide +kernel
theorem dX12_isSet_14 : decode cX12_isSet 14 = .ok (.invokestatic 57, 3) := by decide +kernel
theorem dX12_isSet_17 : decode cX12_isSet 17 = .ok (.ireturn, 1) := by decide +kernel
theorem dX12_canAll_0 : decode cX12_canAll 0 = .ok (.lconst 1, 1) := by decide +kernel
theorem dX12_canAll_1 : decode cX12_canAll 1 = .ok (.lstore 4, 2) := by decide +kernel
theorem dX12_canAll_3 : decode cX12_canAll 3 = .ok (.aload_n 0, 1) := by decide +kernel
theorem dX12_canAll_4 : decode cX12_canAll 4 = .ok (.getfield 7, 3) := by decide +kernel
theorem dX12_canAll_7 : decode cX12_canAll 7 = .ok (.iconst 1, 1) := by decide +kernel
theorem dX12_canAll_8 : decode cX12_canAll 8 = .ok (.iaload, 1) := by decide +kernel
theorem dX12_canAll_9 : decode cX12_canAll 9 = .ok (.istore 6, 2) := by decide +kernel
theorem dX12_canAll_11 : decode cX12_canAll 11 = .ok (.iload 6, 2) := by decide +kernel
theorem dX12_canAll_13 : decode cX12_canAll 13 = .ok (.iload_n 2, 1) := by decide +kernel
theorem dX12_canAll_14 : decode cX12_canAll 14 = .ok (.if_icmp .gt 123, 3) := by decide +kernel
theorem dX12_canAll_17 : decode cX12_canAll 17 = .ok (.lload 4, 2) := by decide +kernel
theorem dX12_canAll_19 : decode cX12_canAll 19 = .ok (.lstore 7, 2) := by decide +kernel
theorem dX12_canAll_21 : decode cX12_canAll 21 = .ok (.iconst 0, 1) := by decide +kernel
theorem dX12_canAll_22 : decode cX12_canAll 22 = .ok (.istore 9, 2) := by decide +kernel
theorem dX12_canAll_24 : decode cX12_canAll 24 = .ok (.iload 9, 2) := by decide +kernel
theorem dX12_canAll_26 : decode cX12_canAll 26 = .ok (.aload_n 0, 1) := by decide +kernel
theorem dX12_canAll_27 : decode cX12_canAll 27 = .ok (.getfield 7, 3) := by decide +kernel
theorem dX12_canAll_30 : decode cX12_canAll 30 = .ok (.iconst 0, 1) := by decide +kernel
theorem dX12_canAll_31 : decode cX12_canAll 31 = .ok (.iaload, 1) := by decide +kernel
theorem dX12_canAll_32 : decode cX12_canAll 32 = .ok (.if_icmp .ge 95, 3) := by decide +kernel
theorem dX12_canAll_35 : decode cX12_canAll 35 = .ok (.iload_n 3, 1) := by decide +kernel
theorem dX12_canAll_36 : decode cX12_canAll 36 = .ok (.iload 6, 2) := by decide +kernel
theorem dX12_canAll_38 : decode cX12_canAll 38 = .ok (.ishr, 1) := by decide +kernel
theorem dX12_canAll_39 : decode cX12_canAll 39 = .ok (.iconst 1, 1) := by decide +kernel
theorem dX12_canAll_40 : decode cX12_canAll 40 = .ok (.iand, 1) := by decide +kernel
theorem dX12_canAll_41 : decode cX12_canAll 41 = .ok (.ifCond .ne 86, 3) := by decide +kernel
theorem dX12_canAll_44 : decode cX12_canAll 44 = .ok (.iconst 0, 1) := by decide +kernel
theorem dX12_canAll_45 : decode cX12_canAll 45 = .ok (.istore 10, 2) := by decide +kernel
theorem dX12_canAll_47 : decode cX12_canAll 47 = .ok (.iload 10, 2) := by decide +kernel
theorem dX12_canAll_49 : decode cX12_canAll 49 = .ok (.bipush 64, 2) := by decide +kernel
theorem dX12_canAll_51 : decode cX12_canAll 51 = .ok (.if_icmp .ge 70, 3) := by decide +kernel
theorem dX12_canAll_54 : decode cX12_canAll 54 = .ok (.iload_n 1, 1) := by decide +kernel
