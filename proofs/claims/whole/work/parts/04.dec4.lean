-- decode rows, by program
theorem dX12_canAll_55 : decode cX12_canAll 55 = .ok (.iload 9, 2) := by decide +kernel
theorem dX12_canAll_57 : decode cX12_canAll 57 = .ok (.ishr, 1) := by decide +kernel
theorem dX12_canAll_58 : decode cX12_canAll 58 = .ok (.iconst 1, 1) := by decide +kernel
theorem dX12_canAll_59 : decode cX12_canAll 59 = .ok (.iand, 1) := by decide +kernel
theorem dX12_canAll_60 : decode cX12_canAll 60 = .ok (.iconst 1, 1) := by decide +kernel
theorem dX12_canAll_61 : decode cX12_canAll 61 = .ok (.if_icmp .ne 60, 3) := by decide +kernel
theorem dX12_canAll_64 : decode cX12_canAll 64 = .ok (.aload_n 0, 1) := by decide +kernel
theorem dX12_canAll_65 : decode cX12_canAll 65 = .ok (.iload 9, 2) := by decide +kernel
theorem dX12_canAll_67 : decode cX12_canAll 67 = .ok (.iload 6, 2) := by decide +kernel
theorem dX12_canAll_69 : decode cX12_canAll 69 = .ok (.invokevirtual 93, 3) := by decide +kernel
theorem dX12_canAll_72 : decode cX12_canAll 72 = .ok (.ifCond .eq 49, 3) := by decide +kernel
theorem dX12_canAll_75 : decode cX12_canAll 75 = .ok (.lload 7, 2) := by decide +kernel
theorem dX12_canAll_77 : decode cX12_canAll 77 = .ok (.lload 4, 2) := by decide +kernel
theorem dX12_canAll_79 : decode cX12_canAll 79 = .ok (.iload 10, 2) := by decide +kernel
theorem dX12_canAll_81 : decode cX12_canAll 81 = .ok (.lshr, 1) := by decide +kernel
theorem dX12_canAll_82 : decode cX12_canAll 82 = .ok (.lconst 1, 1) := by decide +kernel
theorem dX12_canAll_83 : decode cX12_canAll 83 = .ok (.land, 1) := by decide +kernel
theorem dX12_canAll_84 : decode cX12_canAll 84 = .ok (.lconst 1, 1) := by decide +kernel
theorem dX12_canAll_85 : decode cX12_canAll 85 = .ok (.lcmp, 1) := by decide +kernel
theorem dX12_canAll_86 : decode cX12_canAll 86 = .ok (.ifCond .ne 25, 3) := by decide +kernel
theorem dX12_canAll_89 : decode cX12_canAll 89 = .ok (.iload 10, 2) := by decide +kernel
theorem dX12_canAll_91 : decode cX12_canAll 91 = .ok (.iload 9, 2) := by decide +kernel
theorem dX12_canAll_93 : decode cX12_canAll 93 = .ok (.ishr, 1) := by decide +kernel
theorem dX12_canAll_94 : decode cX12_canAll 94 = .ok (.iconst 1, 1) := by decide +kernel
theorem dX12_canAll_95 : decode cX12_canAll 95 = .ok (.iand, 1) := by decide +kernel
theorem dX12_canAll_96 : decode cX12_canAll 96 = .ok (.ifCond .ne 15, 3) := by decide +kernel
theorem dX12_canAll_99 : decode cX12_canAll 99 = .ok (.lconst 1, 1) := by decide +kernel
theorem dX12_canAll_100 : decode cX12_canAll 100 = .ok (.iload 10, 2) := by decide +kernel
theorem dX12_canAll_102 : decode cX12_canAll 102 = .ok (.iconst 1, 1) := by decide +kernel
theorem dX12_canAll_103 : decode cX12_canAll 103 = .ok (.iload 9, 2) := by decide +kernel
theorem dX12_canAll_105 : decode cX12_canAll 105 = .ok (.ishl, 1) := by decide +kernel
theorem dX12_canAll_106 : decode cX12_canAll 106 = .ok (.ior, 1) := by decide +kernel
theorem dX12_canAll_107 : decode cX12_canAll 107 = .ok (.lshl, 1) := by decide +kernel
theorem dX12_canAll_108 : decode cX12_canAll 108 = .ok (.goto 4, 3) := by decide +kernel
theorem dX12_canAll_111 : decode cX12_canAll 111 = .ok (.lconst 0, 1) := by decide +kernel
theorem dX12_canAll_112 : decode cX12_canAll 112 = .ok (.lor, 1) := by decide +kernel
theorem dX12_canAll_113 : decode cX12_canAll 113 = .ok (.lstore 7, 2) := by decide +kernel
theorem dX12_canAll_115 : decode cX12_canAll 115 = .ok (.iinc 10 1, 3) := by decide +kernel
theorem dX12_canAll_118 : decode cX12_canAll 118 = .ok (.goto (-71), 3) := by decide +kernel
theorem dX12_canAll_121 : decode cX12_canAll 121 = .ok (.iinc 9 1, 3) := by decide +kernel
theorem dX12_canAll_124 : decode cX12_canAll 124 = .ok (.goto (-100), 3) := by decide +kernel
theorem dX12_canAll_127 : decode cX12_canAll 127 = .ok (.lload 7, 2) := by decide +kernel
theorem dX12_canAll_129 : decode cX12_canAll 129 = .ok (.lstore 4, 2) := by decide +kernel
theorem dX12_canAll_131 : decode cX12_canAll 131 = .ok (.iinc 6 1, 3) := by decide +kernel
theorem dX12_canAll_134 : decode cX12_canAll 134 = .ok (.goto (-123), 3) := by decide +kernel
theorem dX12_canAll_137 : decode cX12_canAll 137 = .ok (.lload 4, 2) := by decide +kernel
theorem dX12_canAll_139 : decode cX12_canAll 139 = .ok (.iload_n 1, 1) := by decide +kernel
theorem dX12_canAll_140 : decode cX12_canAll 140 = .ok (.lshr, 1) := by decide +kernel
theorem dX12_canAll_141 : decode cX12_canAll 141 = .ok (.lconst 1, 1) := by decide +kernel
theorem dX12_canAll_142 : decode cX12_canAll 142 = .ok (.land, 1) := by decide +kernel
theorem dX12_canAll_143 : decode cX12_canAll 143 = .ok (.lconst 1, 1) := by decide +kernel
theorem dX12_canAll_144 : decode cX12_canAll 144 = .ok (.lcmp, 1) := by decide +kernel
theorem dX12_canAll_145 : decode cX12_canAll 145 = .ok (.ifCond .ne 7, 3) := by decide +kernel
theorem dX12_canAll_148 : decode cX12_canAll 148 = .ok (.iconst 1, 1) := by decide +kernel
theorem dX12_canAll_149 : decode cX12_canAll 149 = .ok (.goto 4, 3) := by decide +kernel
theorem dX12_canAll_152 : decode cX12_canAll 152 = .ok (.iconst 0, 1) := by decide +kernel
theorem dX12_canAll_153 : decode cX12_canAll 153 = .ok (.ireturn, 1) := by decide +kernel
theorem dX12_gathersBy_0 : decode cX12_gathersBy 0 = .ok (.iload_n 1, 1) := by decide +kernel
theorem dX12_gathersBy_1 : decode cX12_gathersBy 1 = .ok (.ifCond .ne 10, 3) := by decide +kernel
theorem dX12_gathersBy_4 : decode cX12_gathersBy 4 = .ok (.aload_n 0, 1) := by decide +kernel
theorem dX12_gathersBy_5 : decode cX12_gathersBy 5 = .ok (.getfield 7, 3) := by decide +kernel
theorem dX12_gathersBy_8 : decode cX12_gathersBy 8 = .ok (.iconst 1, 1) := by decide +kernel
theorem dX12_gathersBy_9 : decode cX12_gathersBy 9 = .ok (.iaload, 1) := by decide +kernel
theorem dX12_gathersBy_10 : decode cX12_gathersBy 10 = .ok (.ireturn, 1) := by decide +kernel
theorem dX12_gathersBy_11 : decode cX12_gathersBy 11 = .ok (.aload_n 0, 1) := by decide +kernel
theorem dX12_gathersBy_12 : decode cX12_gathersBy 12 = .ok (.getfield 7, 3) := by decide +kernel
theorem dX12_gathersBy_15 : decode cX12_gathersBy 15 = .ok (.iconst 1, 1) := by decide +kernel
theorem dX12_gathersBy_16 : decode cX12_gathersBy 16 = .ok (.iaload, 1) := by decide +kernel
theorem dX12_gathersBy_17 : decode cX12_gathersBy 17 = .ok (.istore_n 2, 1) := by decide +kernel
theorem dX12_gathersBy_18 : decode cX12_gathersBy 18 = .ok (.iload_n 2, 1) := by decide +kernel
theorem dX12_gathersBy_19 : decode cX12_gathersBy 19 = .ok (.aload_n 0, 1) := by decide +kernel
theorem dX12_gathersBy_20 : decode cX12_gathersBy 20 = .ok (.getfield 7, 3) := by decide +kernel
theorem dX12_gathersBy_23 : decode cX12_gathersBy 23 = .ok (.iconst 2, 1) := by decide +kernel
theorem dX12_gathersBy_24 : decode cX12_gathersBy 24 = .ok (.iaload, 1) := by decide +kernel
theorem dX12_gathersBy_25 : decode cX12_gathersBy 25 = .ok (.if_icmp .ge 19, 3) := by decide +kernel
theorem dX12_gathersBy_28 : decode cX12_gathersBy 28 = .ok (.aload_n 0, 1) := by decide +kernel
theorem dX12_gathersBy_29 : decode cX12_gathersBy 29 = .ok (.iload_n 1, 1) := by decide +kernel
theorem dX12_gathersBy_30 : decode cX12_gathersBy 30 = .ok (.iload_n 2, 1) := by decide +kernel
theorem dX12_gathersBy_31 : decode cX12_gathersBy 31 = .ok (.iconst 0, 1) := by decide +kernel
theorem dX12_gathersBy_32 : decode cX12_gathersBy 32 = .ok (.invokevirtual 241, 3) := by decide +kernel
theorem dX12_gathersBy_35 : decode cX12_gathersBy 35 = .ok (.ifCond .ne 9, 3) := by decide +kernel
theorem dX12_gathersBy_38 : decode cX12_gathersBy 38 = .ok (.iinc 2 1, 3) := by decide +kernel
theorem dX12_gathersBy_41 : decode cX12_gathersBy 41 = .ok (.goto (-23), 3) := by decide +kernel
theorem dX12_gathersBy_44 : decode cX12_gathersBy 44 = .ok (.iload_n 2, 1) := by decide +kernel
theorem dX12_gathersBy_45 : decode cX12_gathersBy 45 = .ok (.aload_n 0, 1) := by decide +kernel
theorem dX12_gathersBy_46 : decode cX12_gathersBy 46 = .ok (.getfield 7, 3) := by decide +kernel
theorem dX12_gathersBy_49 : decode cX12_gathersBy 49 = .ok (.iconst 2, 1) := by decide +kernel
theorem dX12_gathersBy_50 : decode cX12_gathersBy 50 = .ok (.iaload, 1) := by decide +kernel
theorem dX12_gathersBy_51 : decode cX12_gathersBy 51 = .ok (.if_icmp .ge 7, 3) := by decide +kernel
theorem dX12_gathersBy_54 : decode cX12_gathersBy 54 = .ok (.iload_n 2, 1) := by decide +kernel
theorem dX12_gathersBy_55 : decode cX12_gathersBy 55 = .ok (.goto 4, 3) := by decide +kernel
theorem dX12_gathersBy_58 : decode cX12_gathersBy 58 = .ok (.iconst (-1), 1) := by decide +kernel
theorem dX12_gathersBy_59 : decode cX12_gathersBy 59 = .ok (.ireturn, 1) := by decide +kernel
theorem dX12_gather_0 : decode cX12_gather 0 = .ok (.aload_n 0, 1) := by decide +kernel
theorem dX12_gather_1 : decode cX12_gather 1 = .ok (.iload_n 1, 1) := by decide +kernel
theorem dX12_gather_2 : decode cX12_gather 2 = .ok (.invokevirtual 245, 3) := by decide +kernel
theorem dX12_gather_5 : decode cX12_gather 5 = .ok (.ifCond .ne 5, 3) := by decide +kernel
theorem dX12_gather_8 : decode cX12_gather 8 = .ok (.iconst (-1), 1) := by decide +kernel
theorem dX12_gather_9 : decode cX12_gather 9 = .ok (.ireturn, 1) := by decide +kernel
theorem dX12_gather_10 : decode cX12_gather 10 = .ok (.aload_n 0, 1) := by decide +kernel
theorem dX12_gather_11 : decode cX12_gather 11 = .ok (.iload_n 1, 1) := by decide +kernel
theorem dX12_gather_12 : decode cX12_gather 12 = .ok (.invokevirtual 248, 3) := by decide +kernel
theorem dX12_gather_15 : decode cX12_gather 15 = .ok (.istore_n 2, 1) := by decide +kernel
theorem dX12_gather_16 : decode cX12_gather 16 = .ok (.iload_n 2, 1) := by decide +kernel
theorem dX12_gather_17 : decode cX12_gather 17 = .ok (.ifCond .ge 8, 3) := by decide +kernel
theorem dX12_gather_20 : decode cX12_gather 20 = .ok (.bipush (-3), 2) := by decide +kernel
theorem dX12_gather_22 : decode cX12_gather 22 = .ok (.goto 4, 3) := by decide +kernel
theorem dX12_gather_25 : decode cX12_gather 25 = .ok (.iload_n 2, 1) := by decide +kernel
theorem dX12_gather_26 : decode cX12_gather 26 = .ok (.ireturn, 1) := by decide +kernel
theorem dX12_gathered_0 : decode cX12_gathered 0 = .ok (.aload_n 0, 1) := by decide +kernel
theorem dX12_gathered_1 : decode cX12_gathered 1 = .ok (.iload_n 1, 1) := by decide +kernel
theorem dX12_gathered_2 : decode cX12_gathered 2 = .ok (.invokevirtual 245, 3) := by decide +kernel
theorem dX12_gathered_5 : decode cX12_gathered 5 = .ok (.ifCond .eq 11, 3) := by decide +kernel
theorem dX12_gathered_8 : decode cX12_gathered 8 = .ok (.aload_n 0, 1) := by decide +kernel
theorem dX12_gathered_9 : decode cX12_gathered 9 = .ok (.iload_n 2, 1) := by decide +kernel
theorem dX12_gathered_10 : decode cX12_gathered 10 = .ok (.invokevirtual 88, 3) := by decide +kernel
theorem dX12_gathered_13 : decode cX12_gathered 13 = .ok (.ifCond .ne 5, 3) := by decide +kernel
theorem dX12_gathered_16 : decode cX12_gathered 16 = .ok (.iconst (-1), 1) := by decide +kernel
theorem dX12_gathered_17 : decode cX12_gathered 17 = .ok (.ireturn, 1) := by decide +kernel
theorem dX12_gathered_18 : decode cX12_gathered 18 = .ok (.aload_n 0, 1) := by decide +kernel
theorem dX12_gathered_19 : decode cX12_gathered 19 = .ok (.iload_n 1, 1) := by decide +kernel
theorem dX12_gathered_20 : decode cX12_gathered 20 = .ok (.invokevirtual 248, 3) := by decide +kernel
theorem dX12_gathered_23 : decode cX12_gathered 23 = .ok (.istore_n 3, 1) := by decide +kernel
theorem dX12_gathered_24 : decode cX12_gathered 24 = .ok (.iload_n 3, 1) := by decide +kernel
theorem dX12_gathered_25 : decode cX12_gathered 25 = .ok (.ifCond .lt 11, 3) := by decide +kernel
theorem dX12_gathered_28 : decode cX12_gathered 28 = .ok (.iload_n 1, 1) := by decide +kernel
theorem dX12_gathered_29 : decode cX12_gathered 29 = .ok (.iload_n 2, 1) := by decide +kernel
theorem dX12_gathered_30 : decode cX12_gathered 30 = .ok (.ishr, 1) := by decide +kernel
theorem dX12_gathered_31 : decode cX12_gathered 31 = .ok (.iconst 1, 1) := by decide +kernel
theorem dX12_gathered_32 : decode cX12_gathered 32 = .ok (.iand, 1) := by decide +kernel
theorem dX12_gathered_33 : decode cX12_gathered 33 = .ok (.ifCond .ne 6, 3) := by decide +kernel
theorem dX12_gathered_36 : decode cX12_gathered 36 = .ok (.bipush (-3), 2) := by decide +kernel
theorem dX12_gathered_38 : decode cX12_gathered 38 = .ok (.ireturn, 1) := by decide +kernel
theorem dX12_gathered_39 : decode cX12_gathered 39 = .ok (.iconst 0, 1) := by decide +kernel
theorem dX12_gathered_40 : decode cX12_gathered 40 = .ok (.istore 4, 2) := by decide +kernel
theorem dX12_gathered_42 : decode cX12_gathered 42 = .ok (.iload_n 1, 1) := by decide +kernel
theorem dX12_gathered_43 : decode cX12_gathered 43 = .ok (.istore 5, 2) := by decide +kernel
theorem dX12_gathered_45 : decode cX12_gathered 45 = .ok (.aload_n 0, 1) := by decide +kernel
theorem dX12_gathered_46 : decode cX12_gathered 46 = .ok (.getfield 7, 3) := by decide +kernel
theorem dX12_gathered_49 : decode cX12_gathered 49 = .ok (.iconst 1, 1) := by decide +kernel
theorem dX12_gathered_50 : decode cX12_gathered 50 = .ok (.iaload, 1) := by decide +kernel
theorem dX12_gathered_51 : decode cX12_gathered 51 = .ok (.istore 6, 2) := by decide +kernel
theorem dX12_gathered_53 : decode cX12_gathered 53 = .ok (.iconst 0, 1) := by decide +kernel
theorem dX12_gathered_54 : decode cX12_gathered 54 = .ok (.istore 7, 2) := by decide +kernel
theorem dX12_gathered_56 : decode cX12_gathered 56 = .ok (.iload 7, 2) := by decide +kernel
theorem dX12_gathered_58 : decode cX12_gathered 58 = .ok (.iload_n 2, 1) := by decide +kernel
theorem dX12_gathered_59 : decode cX12_gathered 59 = .ok (.if_icmp .gt 92, 3) := by decide +kernel
theorem dX12_gathered_62 : decode cX12_gathered 62 = .ok (.iload_n 1, 1) := by decide +kernel
theorem dX12_gathered_63 : decode cX12_gathered 63 = .ok (.iload 7, 2) := by decide +kernel
theorem dX12_gathered_65 : decode cX12_gathered 65 = .ok (.ishr, 1) := by decide +kernel
theorem dX12_gathered_66 : decode cX12_gathered 66 = .ok (.iconst 1, 1) := by decide +kernel
theorem dX12_gathered_67 : decode cX12_gathered 67 = .ok (.iand, 1) := by decide +kernel
theorem dX12_gathered_68 : decode cX12_gathered 68 = .ok (.iconst 1, 1) := by decide +kernel
theorem dX12_gathered_69 : decode cX12_gathered 69 = .ok (.if_icmp .ne 76, 3) := by decide +kernel
theorem dX12_gathered_72 : decode cX12_gathered 72 = .ok (.iload 5, 2) := by decide +kernel
theorem dX12_gathered_74 : decode cX12_gathered 74 = .ok (.iconst 1, 1) := by decide +kernel
theorem dX12_gathered_75 : decode cX12_gathered 75 = .ok (.iload 7, 2) := by decide +kernel
theorem dX12_gathered_77 : decode cX12_gathered 77 = .ok (.ishl, 1) := by decide +kernel
theorem dX12_gathered_78 : decode cX12_gathered 78 = .ok (.iconst (-1), 1) := by decide +kernel
theorem dX12_gathered_79 : decode cX12_gathered 79 = .ok (.ixor, 1) := by decide +kernel
theorem dX12_gathered_80 : decode cX12_gathered 80 = .ok (.iand, 1) := by decide +kernel
theorem dX12_gathered_81 : decode cX12_gathered 81 = .ok (.istore 5, 2) := by decide +kernel
theorem dX12_gathered_83 : decode cX12_gathered 83 = .ok (.aload_n 0, 1) := by decide +kernel
theorem dX12_gathered_84 : decode cX12_gathered 84 = .ok (.getfield 7, 3) := by decide +kernel
theorem dX12_gathered_87 : decode cX12_gathered 87 = .ok (.iconst 1, 1) := by decide +kernel
theorem dX12_gathered_88 : decode cX12_gathered 88 = .ok (.iaload, 1) := by decide +kernel
theorem dX12_gathered_89 : decode cX12_gathered 89 = .ok (.istore 6, 2) := by decide +kernel
theorem dX12_gathered_91 : decode cX12_gathered 91 = .ok (.iload 4, 2) := by decide +kernel
theorem dX12_gathered_93 : decode cX12_gathered 93 = .ok (.iload 6, 2) := by decide +kernel
theorem dX12_gathered_95 : decode cX12_gathered 95 = .ok (.ishr, 1) := by decide +kernel
theorem dX12_gathered_96 : decode cX12_gathered 96 = .ok (.iconst 1, 1) := by decide +kernel
theorem dX12_gathered_97 : decode cX12_gathered 97 = .ok (.iand, 1) := by decide +kernel
theorem dX12_gathered_98 : decode cX12_gathered 98 = .ok (.iconst 1, 1) := by decide +kernel
theorem dX12_gathered_99 : decode cX12_gathered 99 = .ok (.if_icmp .eq 31, 3) := by decide +kernel
theorem dX12_gathered_102 : decode cX12_gathered 102 = .ok (.aload_n 0, 1) := by decide +kernel
theorem dX12_gathered_103 : decode cX12_gathered 103 = .ok (.iload 7, 2) := by decide +kernel
theorem dX12_gathered_105 : decode cX12_gathered 105 = .ok (.iload 6, 2) := by decide +kernel
theorem dX12_gathered_107 : decode cX12_gathered 107 = .ok (.invokevirtual 93, 3) := by decide +kernel
theorem dX12_gathered_110 : decode cX12_gathered 110 = .ok (.ifCond .eq 20, 3) := by decide +kernel
theorem dX12_gathered_113 : decode cX12_gathered 113 = .ok (.aload_n 0, 1) := by decide +kernel
theorem dX12_gathered_114 : decode cX12_gathered 114 = .ok (.iload 5, 2) := by decide +kernel
theorem dX12_gathered_116 : decode cX12_gathered 116 = .ok (.iload_n 3, 1) := by decide +kernel
theorem dX12_gathered_117 : decode cX12_gathered 117 = .ok (.iload 4, 2) := by decide +kernel
theorem dX12_gathered_119 : decode cX12_gathered 119 = .ok (.iconst 1, 1) := by decide +kernel
theorem dX12_gathered_120 : decode cX12_gathered 120 = .ok (.iload 6, 2) := by decide +kernel
theorem dX12_gathered_122 : decode cX12_gathered 122 = .ok (.ishl, 1) := by decide +kernel
theorem dX12_gathered_123 : decode cX12_gathered 123 = .ok (.ior, 1) := by decide +kernel
theorem dX12_gathered_124 : decode cX12_gathered 124 = .ok (.invokevirtual 241, 3) := by decide +kernel
theorem dX12_gathered_127 : decode cX12_gathered 127 = .ok (.ifCond .ne 9, 3) := by decide +kernel
theorem dX12_gathered_130 : decode cX12_gathered 130 = .ok (.iinc 6 1, 3) := by decide +kernel
theorem dX12_gathered_133 : decode cX12_gathered 133 = .ok (.goto (-42), 3) := by decide +kernel
theorem dX12_gathered_136 : decode cX12_gathered 136 = .ok (.iload 4, 2) := by decide +kernel
theorem dX12_gathered_138 : decode cX12_gathered 138 = .ok (.iconst 1, 1) := by decide +kernel
theorem dX12_gathered_139 : decode cX12_gathered 139 = .ok (.iload 6, 2) := by decide +kernel
theorem dX12_gathered_141 : decode cX12_gathered 141 = .ok (.ishl, 1) := by decide +kernel
theorem dX12_gathered_142 : decode cX12_gathered 142 = .ok (.ior, 1) := by decide +kernel
theorem dX12_gathered_143 : decode cX12_gathered 143 = .ok (.istore 4, 2) := by decide +kernel
theorem dX12_gathered_145 : decode cX12_gathered 145 = .ok (.iinc 7 1, 3) := by decide +kernel
theorem dX12_gathered_148 : decode cX12_gathered 148 = .ok (.goto (-92), 3) := by decide +kernel
theorem dX12_gathered_151 : decode cX12_gathered 151 = .ok (.iload 6, 2) := by decide +kernel
theorem dX12_gathered_153 : decode cX12_gathered 153 = .ok (.ireturn, 1) := by decide +kernel
theorem dX12_free_0 : decode cX12_free 0 = .ok (.iload_n 1, 1) := by decide +kernel
theorem dX12_free_1 : decode cX12_free 1 = .ok (.invokestatic 61, 3) := by decide +kernel
theorem dX12_free_4 : decode cX12_free 4 = .ok (.ifCond .eq 15, 3) := by decide +kernel
theorem dX12_free_7 : decode cX12_free 7 = .ok (.iload_n 2, 1) := by decide +kernel
theorem dX12_free_8 : decode cX12_free 8 = .ok (.i2l, 1) := by decide +kernel
theorem dX12_free_9 : decode cX12_free 9 = .ok (.lconst 1, 1) := by decide +kernel
theorem dX12_free_10 : decode cX12_free 10 = .ok (.ldc2_w 113, 3) := by decide +kernel
theorem dX12_free_13 : decode cX12_free 13 = .ok (.invokestatic 57, 3) := by decide +kernel
theorem dX12_free_16 : decode cX12_free 16 = .ok (.ifCond .ne 5, 3) := by decide +kernel
theorem dX12_free_19 : decode cX12_free 19 = .ok (.iconst (-1), 1) := by decide +kernel
theorem dX12_free_20 : decode cX12_free 20 = .ok (.ireturn, 1) := by decide +kernel
theorem dX12_free_21 : decode cX12_free 21 = .ok (.iconst 1, 1) := by decide +kernel
theorem dX12_free_22 : decode cX12_free 22 = .ok (.iload_n 2, 1) := by decide +kernel
theorem dX12_free_23 : decode cX12_free 23 = .ok (.ishl, 1) := by decide +kernel
theorem dX12_free_24 : decode cX12_free 24 = .ok (.iconst 1, 1) := by decide +kernel
theorem dX12_free_25 : decode cX12_free 25 = .ok (.isub, 1) := by decide +kernel
theorem dX12_free_26 : decode cX12_free 26 = .ok (.istore_n 3, 1) := by decide +kernel
theorem dX12_free_27 : decode cX12_free 27 = .ok (.aload_n 0, 1) := by decide +kernel
theorem dX12_free_28 : decode cX12_free 28 = .ok (.getfield 7, 3) := by decide +kernel
theorem dX12_free_31 : decode cX12_free 31 = .ok (.iconst 1, 1) := by decide +kernel
theorem dX12_free_32 : decode cX12_free 32 = .ok (.iaload, 1) := by decide +kernel
theorem dX12_free_33 : decode cX12_free 33 = .ok (.istore 4, 2) := by decide +kernel
theorem dX12_free_35 : decode cX12_free 35 = .ok (.iload 4, 2) := by decide +kernel
theorem dX12_free_37 : decode cX12_free 37 = .ok (.iload_n 2, 1) := by decide +kernel
theorem dX12_free_38 : decode cX12_free 38 = .ok (.iadd, 1) := by decide +kernel
theorem dX12_free_39 : decode cX12_free 39 = .ok (.bipush 16, 2) := by decide +kernel
theorem dX12_free_41 : decode cX12_free 41 = .ok (.if_icmp .gt 26, 3) := by decide +kernel
theorem dX12_free_44 : decode cX12_free 44 = .ok (.aload_n 0, 1) := by decide +kernel
theorem dX12_free_45 : decode cX12_free 45 = .ok (.getfield 7, 3) := by decide +kernel
theorem dX12_free_48 : decode cX12_free 48 = .ok (.bipush 47, 2) := by decide +kernel
theorem dX12_free_50 : decode cX12_free 50 = .ok (.iload_n 1, 1) := by decide +kernel
theorem dX12_free_51 : decode cX12_free 51 = .ok (.iadd, 1) := by decide +kernel
theorem dX12_free_52 : decode cX12_free 52 = .ok (.iaload, 1) := by decide +kernel
theorem dX12_free_53 : decode cX12_free 53 = .ok (.iload 4, 2) := by decide +kernel
theorem dX12_free_55 : decode cX12_free 55 = .ok (.ishr, 1) := by decide +kernel
theorem dX12_free_56 : decode cX12_free 56 = .ok (.iload_n 3, 1) := by decide +kernel
theorem dX12_free_57 : decode cX12_free 57 = .ok (.iand, 1) := by decide +kernel
theorem dX12_free_58 : decode cX12_free 58 = .ok (.ifCond .eq 9, 3) := by decide +kernel
theorem dX12_free_61 : decode cX12_free 61 = .ok (.iinc 4 1, 3) := by decide +kernel
theorem dX12_free_64 : decode cX12_free 64 = .ok (.goto (-29), 3) := by decide +kernel
theorem dX12_free_67 : decode cX12_free 67 = .ok (.iload 4, 2) := by decide +kernel
theorem dX12_free_69 : decode cX12_free 69 = .ok (.iload_n 2, 1) := by decide +kernel
theorem dX12_free_70 : decode cX12_free 70 = .ok (.iadd, 1) := by decide +kernel
theorem dX12_free_71 : decode cX12_free 71 = .ok (.bipush 16, 2) := by decide +kernel
theorem dX12_free_73 : decode cX12_free 73 = .ok (.if_icmp .gt 8, 3) := by decide +kernel
theorem dX12_free_76 : decode cX12_free 76 = .ok (.iload 4, 2) := by decide +kernel
theorem dX12_free_78 : decode cX12_free 78 = .ok (.goto 5, 3) := by decide +kernel
theorem dX12_free_81 : decode cX12_free 81 = .ok (.bipush (-3), 2) := by decide +kernel
theorem dX12_free_83 : decode cX12_free 83 = .ok (.ireturn, 1) := by decide +kernel
theorem dX12_takenIn_0 : decode cX12_takenIn 0 = .ok (.iconst 0, 1) := by decide +kernel
theorem dX12_takenIn_1 : decode cX12_takenIn 1 = .ok (.istore_n 2, 1) := by decide +kernel
theorem dX12_takenIn_2 : decode cX12_takenIn 2 = .ok (.iconst 0, 1) := by decide +kernel
theorem dX12_takenIn_3 : decode cX12_takenIn 3 = .ok (.istore_n 3, 1) := by decide +kernel
theorem dX12_takenIn_4 : decode cX12_takenIn 4 = .ok (.iload_n 3, 1) := by decide +kernel
theorem dX12_takenIn_5 : decode cX12_takenIn 5 = .ok (.bipush 6, 2) := by decide +kernel
theorem dX12_takenIn_7 : decode cX12_takenIn 7 = .ok (.if_icmp .ge 25, 3) := by decide +kernel
theorem dX12_takenIn_10 : decode cX12_takenIn 10 = .ok (.iload_n 2, 1) := by decide +kernel
theorem dX12_takenIn_11 : decode cX12_takenIn 11 = .ok (.aload_n 0, 1) := by decide +kernel
theorem dX12_takenIn_12 : decode cX12_takenIn 12 = .ok (.getfield 7, 3) := by decide +kernel
theorem dX12_takenIn_15 : decode cX12_takenIn 15 = .ok (.bipush 47, 2) := by decide +kernel
theorem dX12_takenIn_17 : decode cX12_takenIn 17 = .ok (.iload_n 3, 1) := by decide +kernel
theorem dX12_takenIn_18 : decode cX12_takenIn 18 = .ok (.iadd, 1) := by decide +kernel
theorem dX12_takenIn_19 : decode cX12_takenIn 19 = .ok (.iaload, 1) := by decide +kernel
theorem dX12_takenIn_20 : decode cX12_takenIn 20 = .ok (.iload_n 1, 1) := by decide +kernel
theorem dX12_takenIn_21 : decode cX12_takenIn 21 = .ok (.ishr, 1) := by decide +kernel
theorem dX12_takenIn_22 : decode cX12_takenIn 22 = .ok (.iconst 1, 1) := by decide +kernel
theorem dX12_takenIn_23 : decode cX12_takenIn 23 = .ok (.iand, 1) := by decide +kernel
theorem dX12_takenIn_24 : decode cX12_takenIn 24 = .ok (.iadd, 1) := by decide +kernel
theorem dX12_takenIn_25 : decode cX12_takenIn 25 = .ok (.istore_n 2, 1) := by decide +kernel
theorem dX12_takenIn_26 : decode cX12_takenIn 26 = .ok (.iinc 3 1, 3) := by decide +kernel
theorem dX12_takenIn_29 : decode cX12_takenIn 29 = .ok (.goto (-25), 3) := by decide +kernel
theorem dX12_takenIn_32 : decode cX12_takenIn 32 = .ok (.iload_n 2, 1) := by decide +kernel
theorem dX12_takenIn_33 : decode cX12_takenIn 33 = .ok (.ireturn, 1) := by decide +kernel
theorem dX12_busiest_0 : decode cX12_busiest 0 = .ok (.iload_n 1, 1) := by decide +kernel
theorem dX12_busiest_1 : decode cX12_busiest 1 = .ok (.i2l, 1) := by decide +kernel
theorem dX12_busiest_2 : decode cX12_busiest 2 = .ok (.lconst 0, 1) := by decide +kernel
theorem dX12_busiest_3 : decode cX12_busiest 3 = .ok (.lconst 1, 1) := by decide +kernel
theorem dX12_busiest_4 : decode cX12_busiest 4 = .ok (.invokestatic 57, 3) := by decide +kernel
theorem dX12_busiest_7 : decode cX12_busiest 7 = .ok (.ifCond .ne 5, 3) := by decide +kernel
theorem dX12_busiest_10 : decode cX12_busiest 10 = .ok (.iconst (-1), 1) := by decide +kernel
theorem dX12_busiest_11 : decode cX12_busiest 11 = .ok (.ireturn, 1) := by decide +kernel
theorem dX12_busiest_12 : decode cX12_busiest 12 = .ok (.iconst 0, 1) := by decide +kernel
theorem dX12_busiest_13 : decode cX12_busiest 13 = .ok (.istore_n 2, 1) := by decide +kernel
theorem dX12_busiest_14 : decode cX12_busiest 14 = .ok (.iconst 1, 1) := by decide +kernel
theorem dX12_busiest_15 : decode cX12_busiest 15 = .ok (.istore_n 3, 1) := by decide +kernel
theorem dX12_busiest_16 : decode cX12_busiest 16 = .ok (.iload_n 3, 1) := by decide +kernel
theorem dX12_busiest_17 : decode cX12_busiest 17 = .ok (.bipush 16, 2) := by decide +kernel
theorem dX12_busiest_19 : decode cX12_busiest 19 = .ok (.if_icmp .ge 28, 3) := by decide +kernel
theorem dX12_busiest_22 : decode cX12_busiest 22 = .ok (.aload_n 0, 1) := by decide +kernel
theorem dX12_busiest_23 : decode cX12_busiest 23 = .ok (.iload_n 3, 1) := by decide +kernel
theorem dX12_busiest_24 : decode cX12_busiest 24 = .ok (.invokevirtual 251, 3) := by decide +kernel
theorem dX12_busiest_27 : decode cX12_busiest 27 = .ok (.aload_n 0, 1) := by decide +kernel
theorem dX12_busiest_28 : decode cX12_busiest 28 = .ok (.iload_n 2, 1) := by decide +kernel
theorem dX12_busiest_29 : decode cX12_busiest 29 = .ok (.invokevirtual 251, 3) := by decide +kernel
theorem dX12_busiest_32 : decode cX12_busiest 32 = .ok (.if_icmp .le 7, 3) := by decide +kernel
theorem dX12_busiest_35 : decode cX12_busiest 35 = .ok (.iload_n 3, 1) := by decide +kernel
theorem dX12_busiest_36 : decode cX12_busiest 36 = .ok (.goto 4, 3) := by decide +kernel
theorem dX12_busiest_39 : decode cX12_busiest 39 = .ok (.iload_n 2, 1) := by decide +kernel
theorem dX12_busiest_40 : decode cX12_busiest 40 = .ok (.istore_n 2, 1) := by decide +kernel
theorem dX12_busiest_41 : decode cX12_busiest 41 = .ok (.iinc 3 1, 3) := by decide +kernel
theorem dX12_busiest_44 : decode cX12_busiest 44 = .ok (.goto (-28), 3) := by decide +kernel
theorem dX12_busiest_47 : decode cX12_busiest 47 = .ok (.iload_n 1, 1) := by decide +kernel
theorem dX12_busiest_48 : decode cX12_busiest 48 = .ok (.ifCond .ne 7, 3) := by decide +kernel
theorem dX12_busiest_51 : decode cX12_busiest 51 = .ok (.iload_n 2, 1) := by decide +kernel
theorem dX12_busiest_52 : decode cX12_busiest 52 = .ok (.goto 8, 3) := by decide +kernel
theorem dX12_busiest_55 : decode cX12_busiest 55 = .ok (.aload_n 0, 1) := by decide +kernel
theorem dX12_busiest_56 : decode cX12_busiest 56 = .ok (.iload_n 2, 1) := by decide +kernel
theorem dX12_busiest_57 : decode cX12_busiest 57 = .ok (.invokevirtual 251, 3) := by decide +kernel
theorem dX12_busiest_60 : decode cX12_busiest 60 = .ok (.ireturn, 1) := by decide +kernel
theorem dX12_plans_0 : decode cX12_plans 0 = .ok (.iload_n 1, 1) := by decide +kernel
theorem dX12_plans_1 : decode cX12_plans 1 = .ok (.iload_n 2, 1) := by decide +kernel
theorem dX12_plans_2 : decode cX12_plans 2 = .ok (.if_icmp .eq 10, 3) := by decide +kernel
theorem dX12_plans_5 : decode cX12_plans 5 = .ok (.aload_n 0, 1) := by decide +kernel
theorem dX12_plans_6 : decode cX12_plans 6 = .ok (.invokevirtual 115, 3) := by decide +kernel
theorem dX12_plans_9 : decode cX12_plans 9 = .ok (.ifCond .eq 123, 3) := by decide +kernel
theorem dX12_plans_12 : decode cX12_plans 12 = .ok (.iload_n 3, 1) := by decide +kernel
theorem dX12_plans_13 : decode cX12_plans 13 = .ok (.aload_n 0, 1) := by decide +kernel
theorem dX12_plans_14 : decode cX12_plans 14 = .ok (.getfield 254, 3) := by decide +kernel
theorem dX12_plans_17 : decode cX12_plans 17 = .ok (.if_icmp .le 47, 3) := by decide +kernel
theorem dX12_plans_20 : decode cX12_plans 20 = .ok (.aload_n 0, 1) := by decide +kernel
theorem dX12_plans_21 : decode cX12_plans 21 = .ok (.iload_n 3, 1) := by decide +kernel
theorem dX12_plans_22 : decode cX12_plans 22 = .ok (.putfield 254, 3) := by decide +kernel
theorem dX12_plans_25 : decode cX12_plans 25 = .ok (.aload_n 0, 1) := by decide +kernel
theorem dX12_plans_26 : decode cX12_plans 26 = .ok (.iconst 0, 1) := by decide +kernel
theorem dX12_plans_27 : decode cX12_plans 27 = .ok (.putfield 257, 3) := by decide +kernel
theorem dX12_plans_30 : decode cX12_plans 30 = .ok (.aload_n 0, 1) := by decide +kernel
theorem dX12_plans_31 : decode cX12_plans 31 = .ok (.iload_n 1, 1) := by decide +kernel
theorem dX12_plans_32 : decode cX12_plans 32 = .ok (.putfield 260, 3) := by decide +kernel
theorem dX12_plans_35 : decode cX12_plans 35 = .ok (.iconst 0, 1) := by decide +kernel
theorem dX12_plans_36 : decode cX12_plans 36 = .ok (.istore 6, 2) := by decide +kernel
theorem dX12_plans_38 : decode cX12_plans 38 = .ok (.iload 6, 2) := by decide +kernel
theorem dX12_plans_40 : decode cX12_plans 40 = .ok (.iconst 4, 1) := by decide +kernel
theorem dX12_plans_41 : decode cX12_plans 41 = .ok (.if_icmp .ge 23, 3) := by decide +kernel
theorem dX12_plans_44 : decode cX12_plans 44 = .ok (.aload_n 0, 1) := by decide +kernel
theorem dX12_plans_45 : decode cX12_plans 45 = .ok (.getfield 28, 3) := by decide +kernel
theorem dX12_plans_48 : decode cX12_plans 48 = .ok (.iload 6, 2) := by decide +kernel
theorem dX12_plans_50 : decode cX12_plans 50 = .ok (.aload_n 0, 1) := by decide +kernel
theorem dX12_plans_51 : decode cX12_plans 51 = .ok (.getfield 25, 3) := by decide +kernel
theorem dX12_plans_54 : decode cX12_plans 54 = .ok (.iload 6, 2) := by decide +kernel
theorem dX12_plans_56 : decode cX12_plans 56 = .ok (.iaload, 1) := by decide +kernel
theorem dX12_plans_57 : decode cX12_plans 57 = .ok (.iastore, 1) := by decide +kernel
theorem dX12_plans_58 : decode cX12_plans 58 = .ok (.iinc 6 1, 3) := by decide +kernel
theorem dX12_plans_61 : decode cX12_plans 61 = .ok (.goto (-23), 3) := by decide +kernel
theorem dX12_plans_64 : decode cX12_plans 64 = .ok (.aload_n 0, 1) := by decide +kernel
theorem dX12_plans_65 : decode cX12_plans 65 = .ok (.dup, 1) := by decide +kernel
theorem dX12_plans_66 : decode cX12_plans 66 = .ok (.getfield 257, 3) := by decide +kernel
theorem dX12_plans_69 : decode cX12_plans 69 = .ok (.iload_n 3, 1) := by decide +kernel
theorem dX12_plans_70 : decode cX12_plans 70 = .ok (.aload_n 0, 1) := by decide +kernel
theorem dX12_plans_71 : decode cX12_plans 71 = .ok (.getfield 254, 3) := by decide +kernel
theorem dX12_plans_74 : decode cX12_plans 74 = .ok (.if_icmp .ne 7, 3) := by decide +kernel
theorem dX12_plans_77 : decode cX12_plans 77 = .ok (.iconst 1, 1) := by decide +kernel
theorem dX12_plans_78 : decode cX12_plans 78 = .ok (.goto 4, 3) := by decide +kernel
theorem dX12_plans_81 : decode cX12_plans 81 = .ok (.iconst 0, 1) := by decide +kernel
theorem dX12_plans_82 : decode cX12_plans 82 = .ok (.iadd, 1) := by decide +kernel
theorem dX12_plans_83 : decode cX12_plans 83 = .ok (.putfield 257, 3) := by decide +kernel
theorem dX12_plans_86 : decode cX12_plans 86 = .ok (.aload_n 0, 1) := by decide +kernel
theorem dX12_plans_87 : decode cX12_plans 87 = .ok (.dup, 1) := by decide +kernel
theorem dX12_plans_88 : decode cX12_plans 88 = .ok (.getfield 263, 3) := by decide +kernel
theorem dX12_plans_91 : decode cX12_plans 91 = .ok (.iload 5, 2) := by decide +kernel
theorem dX12_plans_93 : decode cX12_plans 93 = .ok (.ior, 1) := by decide +kernel
theorem dX12_plans_94 : decode cX12_plans 94 = .ok (.putfield 263, 3) := by decide +kernel
theorem dX12_plans_97 : decode cX12_plans 97 = .ok (.aload_n 0, 1) := by decide +kernel
theorem dX12_plans_98 : decode cX12_plans 98 = .ok (.aload_n 0, 1) := by decide +kernel
theorem dX12_plans_99 : decode cX12_plans 99 = .ok (.getfield 266, 3) := by decide +kernel
theorem dX12_plans_102 : decode cX12_plans 102 = .ok (.iload 5, 2) := by decide +kernel
theorem dX12_plans_104 : decode cX12_plans 104 = .ok (.iconst (-1), 1) := by decide +kernel
theorem dX12_plans_105 : decode cX12_plans 105 = .ok (.ixor, 1) := by decide +kernel
theorem dX12_plans_106 : decode cX12_plans 106 = .ok (.iand, 1) := by decide +kernel
theorem dX12_plans_107 : decode cX12_plans 107 = .ok (.ifCond .ne 17, 3) := by decide +kernel
theorem dX12_plans_110 : decode cX12_plans 110 = .ok (.iload 4, 2) := by decide +kernel
theorem dX12_plans_112 : decode cX12_plans 112 = .ok (.aload_n 0, 1) := by decide +kernel
theorem dX12_plans_113 : decode cX12_plans 113 = .ok (.getfield 269, 3) := by decide +kernel
theorem dX12_plans_116 : decode cX12_plans 116 = .ok (.if_icmp .ge 8, 3) := by decide +kernel
theorem dX12_plans_119 : decode cX12_plans 119 = .ok (.iload 4, 2) := by decide +kernel
theorem dX12_plans_121 : decode cX12_plans 121 = .ok (.goto 7, 3) := by decide +kernel
theorem dX12_plans_124 : decode cX12_plans 124 = .ok (.aload_n 0, 1) := by decide +kernel
theorem dX12_plans_125 : decode cX12_plans 125 = .ok (.getfield 269, 3) := by decide +kernel
theorem dX12_plans_128 : decode cX12_plans 128 = .ok (.putfield 269, 3) := by decide +kernel
theorem dX12_plans_131 : decode cX12_plans 131 = .ok (.return_, 1) := by decide +kernel
theorem dX12_plans_132 : decode cX12_plans 132 = .ok (.aload_n 0, 1) := by decide +kernel
theorem dX12_plans_133 : decode cX12_plans 133 = .ok (.iload_n 1, 1) := by decide +kernel
theorem dX12_plans_134 : decode cX12_plans 134 = .ok (.invokevirtual 227, 3) := by decide +kernel
theorem dX12_plans_137 : decode cX12_plans 137 = .ok (.iconst 0, 1) := by decide +kernel
theorem dX12_plans_138 : decode cX12_plans 138 = .ok (.istore 6, 2) := by decide +kernel
theorem dX12_plans_140 : decode cX12_plans 140 = .ok (.iload 6, 2) := by decide +kernel
theorem dX12_plans_142 : decode cX12_plans 142 = .ok (.aload_n 0, 1) := by decide +kernel
theorem dX12_plans_143 : decode cX12_plans 143 = .ok (.getfield 7, 3) := by decide +kernel
theorem dX12_plans_146 : decode cX12_plans 146 = .ok (.iconst 0, 1) := by decide +kernel
theorem dX12_plans_147 : decode cX12_plans 147 = .ok (.iaload, 1) := by decide +kernel
theorem dX12_plans_148 : decode cX12_plans 148 = .ok (.if_icmp .gt 77, 3) := by decide +kernel
theorem dX12_plans_151 : decode cX12_plans 151 = .ok (.aload_n 0, 1) := by decide +kernel
theorem dX12_plans_152 : decode cX12_plans 152 = .ok (.getfield 25, 3) := by decide +kernel
theorem dX12_plans_155 : decode cX12_plans 155 = .ok (.iload_n 1, 1) := by decide +kernel
theorem dX12_plans_156 : decode cX12_plans 156 = .ok (.iload 6, 2) := by decide +kernel
theorem dX12_plans_158 : decode cX12_plans 158 = .ok (.iastore, 1) := by decide +kernel
theorem dX12_plans_159 : decode cX12_plans 159 = .ok (.aload_n 0, 1) := by decide +kernel
theorem dX12_plans_160 : decode cX12_plans 160 = .ok (.iload 6, 2) := by decide +kernel
theorem dX12_plans_162 : decode cX12_plans 162 = .ok (.invokevirtual 224, 3) := by decide +kernel
theorem dX12_plans_165 : decode cX12_plans 165 = .ok (.istore 7, 2) := by decide +kernel
theorem dX12_plans_167 : decode cX12_plans 167 = .ok (.aload_n 0, 1) := by decide +kernel
theorem dX12_plans_168 : decode cX12_plans 168 = .ok (.iload_n 1, 1) := by decide +kernel
theorem dX12_plans_169 : decode cX12_plans 169 = .ok (.iconst 1, 1) := by decide +kernel
theorem dX12_plans_170 : decode cX12_plans 170 = .ok (.iadd, 1) := by decide +kernel
theorem dX12_plans_171 : decode cX12_plans 171 = .ok (.iload_n 2, 1) := by decide +kernel
theorem dX12_plans_172 : decode cX12_plans 172 = .ok (.iload_n 3, 1) := by decide +kernel
theorem dX12_plans_173 : decode cX12_plans 173 = .ok (.iload 7, 2) := by decide +kernel
theorem dX12_plans_175 : decode cX12_plans 175 = .ok (.iadd, 1) := by decide +kernel
theorem dX12_plans_176 : decode cX12_plans 176 = .ok (.iload 6, 2) := by decide +kernel
theorem dX12_plans_178 : decode cX12_plans 178 = .ok (.ifCond .ne 8, 3) := by decide +kernel
theorem dX12_plans_181 : decode cX12_plans 181 = .ok (.iload 4, 2) := by decide +kernel
theorem dX12_plans_183 : decode cX12_plans 183 = .ok (.goto 7, 3) := by decide +kernel
theorem dX12_plans_186 : decode cX12_plans 186 = .ok (.iload 4, 2) := by decide +kernel
theorem dX12_plans_188 : decode cX12_plans 188 = .ok (.iconst 1, 1) := by decide +kernel
theorem dX12_plans_189 : decode cX12_plans 189 = .ok (.iadd, 1) := by decide +kernel
theorem dX12_plans_190 : decode cX12_plans 190 = .ok (.aload_n 0, 1) := by decide +kernel
theorem dX12_plans_191 : decode cX12_plans 191 = .ok (.getfield 215, 3) := by decide +kernel
theorem dX12_plans_194 : decode cX12_plans 194 = .ok (.ifCond .ge 8, 3) := by decide +kernel
theorem dX12_plans_197 : decode cX12_plans 197 = .ok (.iload 5, 2) := by decide +kernel
theorem dX12_plans_199 : decode cX12_plans 199 = .ok (.goto 12, 3) := by decide +kernel
theorem dX12_plans_202 : decode cX12_plans 202 = .ok (.iload 5, 2) := by decide +kernel
theorem dX12_plans_204 : decode cX12_plans 204 = .ok (.iconst 1, 1) := by decide +kernel
theorem dX12_plans_205 : decode cX12_plans 205 = .ok (.aload_n 0, 1) := by decide +kernel
theorem dX12_plans_206 : decode cX12_plans 206 = .ok (.getfield 215, 3) := by decide +kernel
theorem dX12_plans_209 : decode cX12_plans 209 = .ok (.ishl, 1) := by decide +kernel
theorem dX12_plans_210 : decode cX12_plans 210 = .ok (.ior, 1) := by decide +kernel
theorem dX12_plans_211 : decode cX12_plans 211 = .ok (.invokevirtual 272, 3) := by decide +kernel
theorem dX12_plans_214 : decode cX12_plans 214 = .ok (.aload_n 0, 1) := by decide +kernel
theorem dX12_plans_215 : decode cX12_plans 215 = .ok (.iload_n 1, 1) := by decide +kernel
theorem dX12_plans_216 : decode cX12_plans 216 = .ok (.invokevirtual 231, 3) := by decide +kernel
theorem dX12_plans_219 : decode cX12_plans 219 = .ok (.iinc 6 1, 3) := by decide +kernel
theorem dX12_plans_222 : decode cX12_plans 222 = .ok (.goto (-82), 3) := by decide +kernel
theorem dX12_plans_225 : decode cX12_plans 225 = .ok (.return_, 1) := by decide +kernel
theorem dX12_findsPlans_0 : decode cX12_findsPlans 0 = .ok (.aload_n 0, 1) := by decide +kernel
theorem dX12_findsPlans_1 : decode cX12_findsPlans 1 = .ok (.iconst (-1), 1) := by decide +kernel
theorem dX12_findsPlans_2 : decode cX12_findsPlans 2 = .ok (.putfield 254, 3) := by decide +kernel
theorem dX12_findsPlans_5 : decode cX12_findsPlans 5 = .ok (.aload_n 0, 1) := by decide +kernel
theorem dX12_findsPlans_6 : decode cX12_findsPlans 6 = .ok (.iconst 0, 1) := by decide +kernel
theorem dX12_findsPlans_7 : decode cX12_findsPlans 7 = .ok (.putfield 257, 3) := by decide +kernel
theorem dX12_findsPlans_10 : decode cX12_findsPlans 10 = .ok (.aload_n 0, 1) := by decide +kernel
theorem dX12_findsPlans_11 : decode cX12_findsPlans 11 = .ok (.iconst 0, 1) := by decide +kernel
theorem dX12_findsPlans_12 : decode cX12_findsPlans 12 = .ok (.putfield 260, 3) := by decide +kernel
theorem dX12_findsPlans_15 : decode cX12_findsPlans 15 = .ok (.aload_n 0, 1) := by decide +kernel
theorem dX12_findsPlans_16 : decode cX12_findsPlans 16 = .ok (.iload_n 2, 1) := by decide +kernel
theorem dX12_findsPlans_17 : decode cX12_findsPlans 17 = .ok (.putfield 266, 3) := by decide +kernel
theorem dX12_findsPlans_20 : decode cX12_findsPlans 20 = .ok (.aload_n 0, 1) := by decide +kernel
theorem dX12_findsPlans_21 : decode cX12_findsPlans 21 = .ok (.bipush 9, 2) := by decide +kernel
theorem dX12_findsPlans_23 : decode cX12_findsPlans 23 = .ok (.putfield 269, 3) := by decide +kernel
theorem dX12_findsPlans_26 : decode cX12_findsPlans 26 = .ok (.aload_n 0, 1) := by decide +kernel
theorem dX12_findsPlans_27 : decode cX12_findsPlans 27 = .ok (.iconst 0, 1) := by decide +kernel
theorem dX12_findsPlans_28 : decode cX12_findsPlans 28 = .ok (.putfield 263, 3) := by decide +kernel
theorem dX12_findsPlans_31 : decode cX12_findsPlans 31 = .ok (.aload_n 0, 1) := by decide +kernel
theorem dX12_findsPlans_32 : decode cX12_findsPlans 32 = .ok (.iconst 0, 1) := by decide +kernel
theorem dX12_findsPlans_33 : decode cX12_findsPlans 33 = .ok (.iload_n 1, 1) := by decide +kernel
theorem dX12_findsPlans_34 : decode cX12_findsPlans 34 = .ok (.iconst 0, 1) := by decide +kernel
theorem dX12_findsPlans_35 : decode cX12_findsPlans 35 = .ok (.iconst 0, 1) := by decide +kernel
theorem dX12_findsPlans_36 : decode cX12_findsPlans 36 = .ok (.iconst 0, 1) := by decide +kernel
theorem dX12_findsPlans_37 : decode cX12_findsPlans 37 = .ok (.invokevirtual 272, 3) := by decide +kernel
theorem dX12_findsPlans_40 : decode cX12_findsPlans 40 = .ok (.return_, 1) := by decide +kernel
theorem dX12_isLong_0 : decode cX12_isLong 0 = .ok (.iload_n 0, 1) := by decide +kernel
theorem dX12_isLong_1 : decode cX12_isLong 1 = .ok (.i2l, 1) := by decide +kernel
theorem dX12_isLong_2 : decode cX12_isLong 2 = .ok (.lconst 0, 1) := by decide +kernel
theorem dX12_isLong_3 : decode cX12_isLong 3 = .ok (.ldc2_w 106, 3) := by decide +kernel
theorem dX12_isLong_6 : decode cX12_isLong 6 = .ok (.invokestatic 57, 3) := by decide +kernel
theorem dX12_isLong_9 : decode cX12_isLong 9 = .ok (.ireturn, 1) := by decide +kernel
theorem dX12_best_0 : decode cX12_best 0 = .ok (.iload_n 1, 1) := by decide +kernel
theorem dX12_best_1 : decode cX12_best 1 = .ok (.invokestatic 276, 3) := by decide +kernel
theorem dX12_best_4 : decode cX12_best 4 = .ok (.ifCond .ne 5, 3) := by decide +kernel
theorem dX12_best_7 : decode cX12_best 7 = .ok (.iconst (-1), 1) := by decide +kernel
theorem dX12_best_8 : decode cX12_best 8 = .ok (.ireturn, 1) := by decide +kernel
theorem dX12_best_9 : decode cX12_best 9 = .ok (.aload_n 0, 1) := by decide +kernel
theorem dX12_best_10 : decode cX12_best 10 = .ok (.iload_n 1, 1) := by decide +kernel
theorem dX12_best_11 : decode cX12_best 11 = .ok (.iconst 0, 1) := by decide +kernel
theorem dX12_best_12 : decode cX12_best 12 = .ok (.invokevirtual 279, 3) := by decide +kernel
theorem dX12_best_15 : decode cX12_best 15 = .ok (.aload_n 0, 1) := by decide +kernel
theorem dX12_best_16 : decode cX12_best 16 = .ok (.getfield 254, 3) := by decide +kernel
theorem dX12_best_19 : decode cX12_best 19 = .ok (.ireturn, 1) := by decide +kernel
theorem dX12_ith_0 : decode cX12_ith 0 = .ok (.iload_n 1, 1) := by decide +kernel
theorem dX12_ith_1 : decode cX12_ith 1 = .ok (.invokestatic 276, 3) := by decide +kernel
theorem dX12_ith_4 : decode cX12_ith 4 = .ok (.ifCond .eq 15, 3) := by decide +kernel
theorem dX12_ith_7 : decode cX12_ith 7 = .ok (.iload_n 2, 1) := by decide +kernel
theorem dX12_ith_8 : decode cX12_ith 8 = .ok (.i2l, 1) := by decide +kernel
theorem dX12_ith_9 : decode cX12_ith 9 = .ok (.lconst 0, 1) := by decide +kernel
theorem dX12_ith_10 : decode cX12_ith 10 = .ok (.ldc2_w 283, 3) := by decide +kernel
theorem dX12_ith_13 : decode cX12_ith 13 = .ok (.invokestatic 57, 3) := by decide +kernel
theorem dX12_ith_16 : decode cX12_ith 16 = .ok (.ifCond .ne 5, 3) := by decide +kernel
theorem dX12_ith_19 : decode cX12_ith 19 = .ok (.iconst (-1), 1) := by decide +kernel
theorem dX12_ith_20 : decode cX12_ith 20 = .ok (.ireturn, 1) := by decide +kernel
theorem dX12_ith_21 : decode cX12_ith 21 = .ok (.aload_n 0, 1) := by decide +kernel
theorem dX12_ith_22 : decode cX12_ith 22 = .ok (.iload_n 1, 1) := by decide +kernel
theorem dX12_ith_23 : decode cX12_ith 23 = .ok (.iconst 0, 1) := by decide +kernel
theorem dX12_ith_24 : decode cX12_ith 24 = .ok (.invokevirtual 279, 3) := by decide +kernel
theorem dX12_ith_27 : decode cX12_ith 27 = .ok (.iload_n 2, 1) := by decide +kernel
theorem dX12_ith_28 : decode cX12_ith 28 = .ok (.aload_n 0, 1) := by decide +kernel
theorem dX12_ith_29 : decode cX12_ith 29 = .ok (.getfield 260, 3) := by decide +kernel
theorem dX12_ith_32 : decode cX12_ith 32 = .ok (.if_icmp .ge 12, 3) := by decide +kernel
theorem dX12_ith_35 : decode cX12_ith 35 = .ok (.aload_n 0, 1) := by decide +kernel
theorem dX12_ith_36 : decode cX12_ith 36 = .ok (.getfield 28, 3) := by decide +kernel
theorem dX12_ith_39 : decode cX12_ith 39 = .ok (.iload_n 2, 1) := by decide +kernel
theorem dX12_ith_40 : decode cX12_ith 40 = .ok (.iaload, 1) := by decide +kernel
theorem dX12_ith_41 : decode cX12_ith 41 = .ok (.goto 5, 3) := by decide +kernel
theorem dX12_ith_44 : decode cX12_ith 44 = .ok (.bipush (-3), 2) := by decide +kernel
theorem dX12_ith_46 : decode cX12_ith 46 = .ok (.ireturn, 1) := by decide +kernel
theorem dX12_ways_0 : decode cX12_ways 0 = .ok (.iload_n 1, 1) := by decide +kernel
theorem dX12_ways_1 : decode cX12_ways 1 = .ok (.invokestatic 276, 3) := by decide +kernel
theorem dX12_ways_4 : decode cX12_ways 4 = .ok (.ifCond .ne 5, 3) := by decide +kernel
theorem dX12_ways_7 : decode cX12_ways 7 = .ok (.iconst (-1), 1) := by decide +kernel
theorem dX12_ways_8 : decode cX12_ways 8 = .ok (.ireturn, 1) := by decide +kernel
theorem dX12_ways_9 : decode cX12_ways 9 = .ok (.aload_n 0, 1) := by decide +kernel
theorem dX12_ways_10 : decode cX12_ways 10 = .ok (.iload_n 1, 1) := by decide +kernel
theorem dX12_ways_11 : decode cX12_ways 11 = .ok (.iconst 0, 1) := by decide +kernel
theorem dX12_ways_12 : decode cX12_ways 12 = .ok (.invokevirtual 279, 3) := by decide +kernel
theorem dX12_ways_15 : decode cX12_ways 15 = .ok (.aload_n 0, 1) := by decide +kernel
theorem dX12_ways_16 : decode cX12_ways 16 = .ok (.getfield 257, 3) := by decide +kernel
theorem dX12_ways_19 : decode cX12_ways 19 = .ok (.ireturn, 1) := by decide +kernel
theorem dX12_train_0 : decode cX12_train 0 = .ok (.iload_n 1, 1) := by decide +kernel
theorem dX12_train_1 : decode cX12_train 1 = .ok (.invokestatic 276, 3) := by decide +kernel
theorem dX12_train_4 : decode cX12_train 4 = .ok (.ifCond .eq 11, 3) := by decide +kernel
theorem dX12_train_7 : decode cX12_train 7 = .ok (.aload_n 0, 1) := by decide +kernel
theorem dX12_train_8 : decode cX12_train 8 = .ok (.iload_n 2, 1) := by decide +kernel
theorem dX12_train_9 : decode cX12_train 9 = .ok (.invokevirtual 245, 3) := by decide +kernel
theorem dX12_train_12 : decode cX12_train 12 = .ok (.ifCond .ne 5, 3) := by decide +kernel
theorem dX12_train_15 : decode cX12_train 15 = .ok (.iconst (-1), 1) := by decide +kernel
theorem dX12_train_16 : decode cX12_train 16 = .ok (.ireturn, 1) := by decide +kernel
theorem dX12_train_17 : decode cX12_train 17 = .ok (.aload_n 0, 1) := by decide +kernel
theorem dX12_train_18 : decode cX12_train 18 = .ok (.iload_n 1, 1) := by decide +kernel
theorem dX12_train_19 : decode cX12_train 19 = .ok (.iload_n 2, 1) := by decide +kernel
theorem dX12_train_20 : decode cX12_train 20 = .ok (.invokevirtual 279, 3) := by decide +kernel
theorem dX12_train_23 : decode cX12_train 23 = .ok (.aload_n 0, 1) := by decide +kernel
theorem dX12_train_24 : decode cX12_train 24 = .ok (.getfield 269, 3) := by decide +kernel
theorem dX12_train_27 : decode cX12_train 27 = .ok (.bipush 9, 2) := by decide +kernel
theorem dX12_train_29 : decode cX12_train 29 = .ok (.if_icmp .ge 10, 3) := by decide +kernel
theorem dX12_train_32 : decode cX12_train 32 = .ok (.aload_n 0, 1) := by decide +kernel
theorem dX12_train_33 : decode cX12_train 33 = .ok (.getfield 269, 3) := by decide +kernel
theorem dX12_train_36 : decode cX12_train 36 = .ok (.goto 5, 3) := by decide +kernel
theorem dX12_train_39 : decode cX12_train 39 = .ok (.bipush (-3), 2) := by decide +kernel
theorem dX12_train_41 : decode cX12_train 41 = .ok (.ireturn, 1) := by decide +kernel
theorem dX12_bars_0 : decode cX12_bars 0 = .ok (.iload_n 1, 1) := by decide +kernel
theorem dX12_bars_1 : decode cX12_bars 1 = .ok (.invokestatic 276, 3) := by decide +kernel
theorem dX12_bars_4 : decode cX12_bars 4 = .ok (.ifCond .eq 11, 3) := by decide +kernel
theorem dX12_bars_7 : decode cX12_bars 7 = .ok (.aload_n 0, 1) := by decide +kernel
theorem dX12_bars_8 : decode cX12_bars 8 = .ok (.iload_n 2, 1) := by decide +kernel
theorem dX12_bars_9 : decode cX12_bars 9 = .ok (.invokevirtual 245, 3) := by decide +kernel
theorem dX12_bars_12 : decode cX12_bars 12 = .ok (.ifCond .ne 5, 3) := by decide +kernel
theorem dX12_bars_15 : decode cX12_bars 15 = .ok (.iconst (-1), 1) := by decide +kernel
theorem dX12_bars_16 : decode cX12_bars 16 = .ok (.ireturn, 1) := by decide +kernel
theorem dX12_bars_17 : decode cX12_bars 17 = .ok (.aload_n 0, 1) := by decide +kernel
theorem dX12_bars_18 : decode cX12_bars 18 = .ok (.iload_n 1, 1) := by decide +kernel
theorem dX12_bars_19 : decode cX12_bars 19 = .ok (.iload_n 2, 1) := by decide +kernel
theorem dX12_bars_20 : decode cX12_bars 20 = .ok (.invokevirtual 279, 3) := by decide +kernel
theorem dX12_bars_23 : decode cX12_bars 23 = .ok (.iconst 0, 1) := by decide +kernel
theorem dX12_bars_24 : decode cX12_bars 24 = .ok (.istore_n 3, 1) := by decide +kernel
theorem dX12_bars_25 : decode cX12_bars 25 = .ok (.iload_n 3, 1) := by decide +kernel
theorem dX12_bars_26 : decode cX12_bars 26 = .ok (.aload_n 0, 1) := by decide +kernel
theorem dX12_bars_27 : decode cX12_bars 27 = .ok (.getfield 7, 3) := by decide +kernel
theorem dX12_bars_30 : decode cX12_bars 30 = .ok (.iconst 0, 1) := by decide +kernel
theorem dX12_bars_31 : decode cX12_bars 31 = .ok (.iaload, 1) := by decide +kernel
theorem dX12_bars_32 : decode cX12_bars 32 = .ok (.if_icmp .ge 27, 3) := by decide +kernel
theorem dX12_bars_35 : decode cX12_bars 35 = .ok (.iload_n 2, 1) := by decide +kernel
theorem dX12_bars_36 : decode cX12_bars 36 = .ok (.aload_n 0, 1) := by decide +kernel
theorem dX12_bars_37 : decode cX12_bars 37 = .ok (.getfield 263, 3) := by decide +kernel
theorem dX12_bars_40 : decode cX12_bars 40 = .ok (.iconst (-1), 1) := by decide +kernel
theorem dX12_bars_41 : decode cX12_bars 41 = .ok (.ixor, 1) := by decide +kernel
theorem dX12_bars_42 : decode cX12_bars 42 = .ok (.iand, 1) := by decide +kernel
theorem dX12_bars_43 : decode cX12_bars 43 = .ok (.iload_n 3, 1) := by decide +kernel
theorem dX12_bars_44 : decode cX12_bars 44 = .ok (.ishr, 1) := by decide +kernel
theorem dX12_bars_45 : decode cX12_bars 45 = .ok (.iconst 1, 1) := by decide +kernel
theorem dX12_bars_46 : decode cX12_bars 46 = .ok (.iand, 1) := by decide +kernel
theorem dX12_bars_47 : decode cX12_bars 47 = .ok (.iconst 1, 1) := by decide +kernel
theorem dX12_bars_48 : decode cX12_bars 48 = .ok (.if_icmp .ne 5, 3) := by decide +kernel
theorem dX12_bars_51 : decode cX12_bars 51 = .ok (.iload_n 3, 1) := by decide +kernel
theorem dX12_bars_52 : decode cX12_bars 52 = .ok (.ireturn, 1) := by decide +kernel
theorem dX12_bars_53 : decode cX12_bars 53 = .ok (.iinc 3 1, 3) := by decide +kernel
theorem dX12_bars_56 : decode cX12_bars 56 = .ok (.goto (-31), 3) := by decide +kernel
theorem dX12_bars_59 : decode cX12_bars 59 = .ok (.bipush (-3), 2) := by decide +kernel
theorem dX12_bars_61 : decode cX12_bars 61 = .ok (.ireturn, 1) := by decide +kernel
theorem dX12_valueFrom_0 : decode cX12_valueFrom 0 = .ok (.iload_n 1, 1) := by decide +kernel
theorem dX12_valueFrom_1 : decode cX12_valueFrom 1 = .ok (.iload_n 2, 1) := by decide +kernel
theorem dX12_valueFrom_2 : decode cX12_valueFrom 2 = .ok (.if_icmp .eq 10, 3) := by decide +kernel
theorem dX12_valueFrom_5 : decode cX12_valueFrom 5 = .ok (.aload_n 0, 1) := by decide +kernel
theorem dX12_valueFrom_6 : decode cX12_valueFrom 6 = .ok (.invokevirtual 115, 3) := by decide +kernel
theorem dX12_valueFrom_9 : decode cX12_valueFrom 9 = .ok (.ifCond .eq 5, 3) := by decide +kernel
theorem dX12_valueFrom_12 : decode cX12_valueFrom 12 = .ok (.iconst 0, 1) := by decide +kernel
theorem dX12_valueFrom_13 : decode cX12_valueFrom 13 = .ok (.ireturn, 1) := by decide +kernel
theorem dX12_valueFrom_14 : decode cX12_valueFrom 14 = .ok (.aload_n 0, 1) := by decide +kernel
theorem dX12_valueFrom_15 : decode cX12_valueFrom 15 = .ok (.iload_n 1, 1) := by decide +kernel
theorem dX12_valueFrom_16 : decode cX12_valueFrom 16 = .ok (.invokevirtual 227, 3) := by decide +kernel
theorem dX12_valueFrom_19 : decode cX12_valueFrom 19 = .ok (.iconst 0, 1) := by decide +kernel
theorem dX12_valueFrom_20 : decode cX12_valueFrom 20 = .ok (.istore_n 3, 1) := by decide +kernel
theorem dX12_valueFrom_21 : decode cX12_valueFrom 21 = .ok (.iconst (-1), 1) := by decide +kernel
theorem dX12_valueFrom_22 : decode cX12_valueFrom 22 = .ok (.istore 4, 2) := by decide +kernel
theorem dX12_valueFrom_24 : decode cX12_valueFrom 24 = .ok (.iconst 0, 1) := by decide +kernel
theorem dX12_valueFrom_25 : decode cX12_valueFrom 25 = .ok (.istore 5, 2) := by decide +kernel
theorem dX12_valueFrom_27 : decode cX12_valueFrom 27 = .ok (.iload 5, 2) := by decide +kernel
theorem dX12_valueFrom_29 : decode cX12_valueFrom 29 = .ok (.aload_n 0, 1) := by decide +kernel
theorem dX12_valueFrom_30 : decode cX12_valueFrom 30 = .ok (.getfield 7, 3) := by decide +kernel
theorem dX12_valueFrom_33 : decode cX12_valueFrom 33 = .ok (.iconst 0, 1) := by decide +kernel
theorem dX12_valueFrom_34 : decode cX12_valueFrom 34 = .ok (.iaload, 1) := by decide +kernel
theorem dX12_valueFrom_35 : decode cX12_valueFrom 35 = .ok (.if_icmp .gt 68, 3) := by decide +kernel
theorem dX12_valueFrom_38 : decode cX12_valueFrom 38 = .ok (.aload_n 0, 1) := by decide +kernel
theorem dX12_valueFrom_39 : decode cX12_valueFrom 39 = .ok (.iload 5, 2) := by decide +kernel
theorem dX12_valueFrom_41 : decode cX12_valueFrom 41 = .ok (.invokevirtual 224, 3) := by decide +kernel
theorem dX12_valueFrom_44 : decode cX12_valueFrom 44 = .ok (.istore 6, 2) := by decide +kernel
theorem dX12_valueFrom_46 : decode cX12_valueFrom 46 = .ok (.iload 6, 2) := by decide +kernel
theorem dX12_valueFrom_48 : decode cX12_valueFrom 48 = .ok (.aload_n 0, 1) := by decide +kernel
theorem dX12_valueFrom_49 : decode cX12_valueFrom 49 = .ok (.iload_n 1, 1) := by decide +kernel
theorem dX12_valueFrom_50 : decode cX12_valueFrom 50 = .ok (.iconst 1, 1) := by decide +kernel
theorem dX12_valueFrom_51 : decode cX12_valueFrom 51 = .ok (.iadd, 1) := by decide +kernel
theorem dX12_valueFrom_52 : decode cX12_valueFrom 52 = .ok (.iload_n 2, 1) := by decide +kernel
theorem dX12_valueFrom_53 : decode cX12_valueFrom 53 = .ok (.invokevirtual 285, 3) := by decide +kernel
theorem dX12_valueFrom_56 : decode cX12_valueFrom 56 = .ok (.iadd, 1) := by decide +kernel
theorem dX12_valueFrom_57 : decode cX12_valueFrom 57 = .ok (.istore 7, 2) := by decide +kernel
theorem dX12_valueFrom_59 : decode cX12_valueFrom 59 = .ok (.aload_n 0, 1) := by decide +kernel
theorem dX12_valueFrom_60 : decode cX12_valueFrom 60 = .ok (.iload_n 1, 1) := by decide +kernel
theorem dX12_valueFrom_61 : decode cX12_valueFrom 61 = .ok (.invokevirtual 231, 3) := by decide +kernel
theorem dX12_valueFrom_64 : decode cX12_valueFrom 64 = .ok (.iload 4, 2) := by decide +kernel
theorem dX12_valueFrom_66 : decode cX12_valueFrom 66 = .ok (.ifCond .lt 24, 3) := by decide +kernel
theorem dX12_valueFrom_69 : decode cX12_valueFrom 69 = .ok (.iload_n 1, 1) := by decide +kernel
theorem dX12_valueFrom_70 : decode cX12_valueFrom 70 = .ok (.iconst 2, 1) := by decide +kernel
theorem dX12_valueFrom_71 : decode cX12_valueFrom 71 = .ok (.irem, 1) := by decide +kernel
theorem dX12_valueFrom_72 : decode cX12_valueFrom 72 = .ok (.ifCond .ne 12, 3) := by decide +kernel
theorem dX12_valueFrom_75 : decode cX12_valueFrom 75 = .ok (.iload 7, 2) := by decide +kernel
theorem dX12_valueFrom_77 : decode cX12_valueFrom 77 = .ok (.iload_n 3, 1) := by decide +kernel
theorem dX12_valueFrom_78 : decode cX12_valueFrom 78 = .ok (.if_icmp .le 19, 3) := by decide +kernel
theorem dX12_valueFrom_81 : decode cX12_valueFrom 81 = .ok (.goto 9, 3) := by decide +kernel
theorem dX12_valueFrom_84 : decode cX12_valueFrom 84 = .ok (.iload 7, 2) := by decide +kernel
theorem dX12_valueFrom_86 : decode cX12_valueFrom 86 = .ok (.iload_n 3, 1) := by decide +kernel
theorem dX12_valueFrom_87 : decode cX12_valueFrom 87 = .ok (.if_icmp .ge 10, 3) := by decide +kernel
theorem dX12_valueFrom_90 : decode cX12_valueFrom 90 = .ok (.iload 7, 2) := by decide +kernel
theorem dX12_valueFrom_92 : decode cX12_valueFrom 92 = .ok (.istore_n 3, 1) := by decide +kernel
theorem dX12_valueFrom_93 : decode cX12_valueFrom 93 = .ok (.iload 5, 2) := by decide +kernel
theorem dX12_valueFrom_95 : decode cX12_valueFrom 95 = .ok (.istore 4, 2) := by decide +kernel
theorem dX12_valueFrom_97 : decode cX12_valueFrom 97 = .ok (.iinc 5 1, 3) := by decide +kernel
theorem dX12_valueFrom_100 : decode cX12_valueFrom 100 = .ok (.goto (-73), 3) := by decide +kernel
theorem dX12_valueFrom_103 : decode cX12_valueFrom 103 = .ok (.aload_n 0, 1) := by decide +kernel
theorem dX12_valueFrom_104 : decode cX12_valueFrom 104 = .ok (.iload 4, 2) := by decide +kernel
theorem dX12_valueFrom_106 : decode cX12_valueFrom 106 = .ok (.putfield 288, 3) := by decide +kernel
theorem dX12_valueFrom_109 : decode cX12_valueFrom 109 = .ok (.iload_n 3, 1) := by decide +kernel
theorem dX12_valueFrom_110 : decode cX12_valueFrom 110 = .ok (.ireturn, 1) := by decide +kernel
theorem dX12_game_0 : decode cX12_game 0 = .ok (.iload_n 1, 1) := by decide +kernel
theorem dX12_game_1 : decode cX12_game 1 = .ok (.i2l, 1) := by decide +kernel
theorem dX12_game_2 : decode cX12_game 2 = .ok (.lconst 1, 1) := by decide +kernel
theorem dX12_game_3 : decode cX12_game 3 = .ok (.ldc2_w 106, 3) := by decide +kernel
theorem dX12_game_6 : decode cX12_game 6 = .ok (.invokestatic 57, 3) := by decide +kernel
theorem dX12_game_9 : decode cX12_game 9 = .ok (.ifCond .eq 12, 3) := by decide +kernel
theorem dX12_game_12 : decode cX12_game 12 = .ok (.aload_n 0, 1) := by decide +kernel
theorem dX12_game_13 : decode cX12_game 13 = .ok (.iconst 0, 1) := by decide +kernel
theorem dX12_game_14 : decode cX12_game 14 = .ok (.iload_n 1, 1) := by decide +kernel
theorem dX12_game_15 : decode cX12_game 15 = .ok (.invokevirtual 285, 3) := by decide +kernel
theorem dX12_game_18 : decode cX12_game 18 = .ok (.goto 4, 3) := by decide +kernel
theorem dX12_game_21 : decode cX12_game 21 = .ok (.iconst (-1), 1) := by decide +kernel
theorem dX12_game_22 : decode cX12_game 22 = .ok (.ireturn, 1) := by decide +kernel
theorem dX12_play_0 : decode cX12_play 0 = .ok (.iload_n 1, 1) := by decide +kernel
theorem dX12_play_1 : decode cX12_play 1 = .ok (.i2l, 1) := by decide +kernel
theorem dX12_play_2 : decode cX12_play 2 = .ok (.lconst 1, 1) := by decide +kernel
theorem dX12_play_3 : decode cX12_play 3 = .ok (.ldc2_w 106, 3) := by decide +kernel
theorem dX12_play_6 : decode cX12_play 6 = .ok (.invokestatic 57, 3) := by decide +kernel
theorem dX12_play_9 : decode cX12_play 9 = .ok (.ifCond .ne 5, 3) := by decide +kernel
theorem dX12_play_12 : decode cX12_play 12 = .ok (.iconst (-1), 1) := by decide +kernel
theorem dX12_play_13 : decode cX12_play 13 = .ok (.ireturn, 1) := by decide +kernel
theorem dX12_play_14 : decode cX12_play 14 = .ok (.aload_n 0, 1) := by decide +kernel
theorem dX12_play_15 : decode cX12_play 15 = .ok (.invokevirtual 115, 3) := by decide +kernel
theorem dX12_play_18 : decode cX12_play 18 = .ok (.ifCond .eq 6, 3) := by decide +kernel
theorem dX12_play_21 : decode cX12_play 21 = .ok (.bipush (-3), 2) := by decide +kernel
theorem dX12_play_23 : decode cX12_play 23 = .ok (.ireturn, 1) := by decide +kernel
theorem dX12_play_24 : decode cX12_play 24 = .ok (.aload_n 0, 1) := by decide +kernel
theorem dX12_play_25 : decode cX12_play 25 = .ok (.iconst 0, 1) := by decide +kernel
theorem dX12_play_26 : decode cX12_play 26 = .ok (.iload_n 1, 1) := by decide +kernel
theorem dX12_play_27 : decode cX12_play 27 = .ok (.invokevirtual 285, 3) := by decide +kernel
theorem dX12_play_30 : decode cX12_play 30 = .ok (.istore_n 2, 1) := by decide +kernel
theorem dX12_play_31 : decode cX12_play 31 = .ok (.aload_n 0, 1) := by decide +kernel
theorem dX12_play_32 : decode cX12_play 32 = .ok (.getfield 288, 3) := by decide +kernel
theorem dX12_play_35 : decode cX12_play 35 = .ok (.ireturn, 1) := by decide +kernel
theorem dX12_report_0 : decode cX12_report 0 = .ok (.iload_n 1, 1) := by decide +kernel
theorem dX12_report_1 : decode cX12_report 1 = .ok (.i2l, 1) := by decide +kernel
theorem dX12_report_2 : decode cX12_report 2 = .ok (.lconst 0, 1) := by decide +kernel
theorem dX12_report_3 : decode cX12_report 3 = .ok (.ldc2_w 291, 3) := by decide +kernel
theorem dX12_report_6 : decode cX12_report 6 = .ok (.invokestatic 57, 3) := by decide +kernel
theorem dX12_report_9 : decode cX12_report 9 = .ok (.ifCond .eq 28, 3) := by decide +kernel
theorem dX12_report_12 : decode cX12_report 12 = .ok (.iload_n 2, 1) := by decide +kernel
theorem dX12_report_13 : decode cX12_report 13 = .ok (.i2l, 1) := by decide +kernel
theorem dX12_report_14 : decode cX12_report 14 = .ok (.lconst 0, 1) := by decide +kernel
theorem dX12_report_15 : decode cX12_report 15 = .ok (.ldc2_w 106, 3) := by decide +kernel
theorem dX12_report_18 : decode cX12_report 18 = .ok (.invokestatic 57, 3) := by decide +kernel
theorem dX12_report_21 : decode cX12_report 21 = .ok (.ifCond .eq 16, 3) := by decide +kernel
theorem dX12_report_24 : decode cX12_report 24 = .ok (.iload_n 3, 1) := by decide +kernel
theorem dX12_report_25 : decode cX12_report 25 = .ok (.i2l, 1) := by decide +kernel
theorem dX12_report_26 : decode cX12_report 26 = .ok (.iload_n 2, 1) := by decide +kernel
theorem dX12_report_27 : decode cX12_report 27 = .ok (.i2l, 1) := by decide +kernel
theorem dX12_report_28 : decode cX12_report 28 = .ok (.ldc2_w 106, 3) := by decide +kernel
theorem dX12_report_31 : decode cX12_report 31 = .ok (.invokestatic 57, 3) := by decide +kernel
theorem dX12_report_34 : decode cX12_report 34 = .ok (.ifCond .ne 5, 3) := by decide +kernel
theorem dX12_report_37 : decode cX12_report 37 = .ok (.iconst (-1), 1) := by decide +kernel
theorem dX12_report_38 : decode cX12_report 38 = .ok (.ireturn, 1) := by decide +kernel
theorem dX12_report_39 : decode cX12_report 39 = .ok (.aload_n 0, 1) := by decide +kernel
theorem dX12_report_40 : decode cX12_report 40 = .ok (.getfield 7, 3) := by decide +kernel
theorem dX12_report_43 : decode cX12_report 43 = .ok (.bipush 6, 2) := by decide +kernel
theorem dX12_report_45 : decode cX12_report 45 = .ok (.iaload, 1) := by decide +kernel
theorem dX12_report_46 : decode cX12_report 46 = .ok (.bipush 6, 2) := by decide +kernel
theorem dX12_report_48 : decode cX12_report 48 = .ok (.if_icmp .ne 6, 3) := by decide +kernel
theorem dX12_report_51 : decode cX12_report 51 = .ok (.bipush (-2), 2) := by decide +kernel
theorem dX12_report_53 : decode cX12_report 53 = .ok (.ireturn, 1) := by decide +kernel
theorem dX12_report_54 : decode cX12_report 54 = .ok (.bipush 85, 2) := by decide +kernel
theorem dX12_report_56 : decode cX12_report 56 = .ok (.iconst 3, 1) := by decide +kernel
theorem dX12_report_57 : decode cX12_report 57 = .ok (.aload_n 0, 1) := by decide +kernel
theorem dX12_report_58 : decode cX12_report 58 = .ok (.getfield 7, 3) := by decide +kernel
theorem dX12_report_61 : decode cX12_report 61 = .ok (.bipush 6, 2) := by decide +kernel
theorem dX12_report_63 : decode cX12_report 63 = .ok (.iaload, 1) := by decide +kernel
theorem dX12_report_64 : decode cX12_report 64 = .ok (.imul, 1) := by decide +kernel
theorem dX12_report_65 : decode cX12_report 65 = .ok (.iadd, 1) := by decide +kernel
theorem dX12_report_66 : decode cX12_report 66 = .ok (.istore 4, 2) := by decide +kernel
theorem dX12_report_68 : decode cX12_report 68 = .ok (.aload_n 0, 1) := by decide +kernel
theorem dX12_report_69 : decode cX12_report 69 = .ok (.getfield 7, 3) := by decide +kernel
theorem dX12_report_72 : decode cX12_report 72 = .ok (.iload 4, 2) := by decide +kernel
theorem dX12_report_74 : decode cX12_report 74 = .ok (.iload_n 1, 1) := by decide +kernel
theorem dX12_report_75 : decode cX12_report 75 = .ok (.iastore, 1) := by decide +kernel
theorem dX12_report_76 : decode cX12_report 76 = .ok (.aload_n 0, 1) := by decide +kernel
theorem dX12_report_77 : decode cX12_report 77 = .ok (.getfield 7, 3) := by decide +kernel
theorem dX12_report_80 : decode cX12_report 80 = .ok (.iload 4, 2) := by decide +kernel
theorem dX12_report_82 : decode cX12_report 82 = .ok (.iconst 1, 1) := by decide +kernel
theorem dX12_report_83 : decode cX12_report 83 = .ok (.iadd, 1) := by decide +kernel
theorem dX12_report_84 : decode cX12_report 84 = .ok (.iload_n 2, 1) := by decide +kernel
theorem dX12_report_85 : decode cX12_report 85 = .ok (.iastore, 1) := by decide +kernel
theorem dX12_report_86 : decode cX12_report 86 = .ok (.aload_n 0, 1) := by decide +kernel
theorem dX12_report_87 : decode cX12_report 87 = .ok (.getfield 7, 3) := by decide +kernel
theorem dX12_report_90 : decode cX12_report 90 = .ok (.iload 4, 2) := by decide +kernel
theorem dX12_report_92 : decode cX12_report 92 = .ok (.iconst 2, 1) := by decide +kernel
theorem dX12_report_93 : decode cX12_report 93 = .ok (.iadd, 1) := by decide +kernel
theorem dX12_report_94 : decode cX12_report 94 = .ok (.iload_n 3, 1) := by decide +kernel
theorem dX12_report_95 : decode cX12_report 95 = .ok (.iastore, 1) := by decide +kernel
theorem dX12_report_96 : decode cX12_report 96 = .ok (.aload_n 0, 1) := by decide +kernel
theorem dX12_report_97 : decode cX12_report 97 = .ok (.getfield 7, 3) := by decide +kernel
theorem dX12_report_100 : decode cX12_report 100 = .ok (.bipush 6, 2) := by decide +kernel
theorem dX12_report_102 : decode cX12_report 102 = .ok (.dup2, 1) := by decide +kernel
theorem dX12_report_103 : decode cX12_report 103 = .ok (.iaload, 1) := by decide +kernel
theorem dX12_report_104 : decode cX12_report 104 = .ok (.iconst 1, 1) := by decide +kernel
theorem dX12_report_105 : decode cX12_report 105 = .ok (.iadd, 1) := by decide +kernel
theorem dX12_report_106 : decode cX12_report 106 = .ok (.iastore, 1) := by decide +kernel
theorem dX12_report_107 : decode cX12_report 107 = .ok (.aload_n 0, 1) := by decide +kernel
theorem dX12_report_108 : decode cX12_report 108 = .ok (.getfield 7, 3) := by decide +kernel
theorem dX12_report_111 : decode cX12_report 111 = .ok (.bipush 6, 2) := by decide +kernel
theorem dX12_report_113 : decode cX12_report 113 = .ok (.iaload, 1) := by decide +kernel
theorem dX12_report_114 : decode cX12_report 114 = .ok (.iconst 1, 1) := by decide +kernel
theorem dX12_report_115 : decode cX12_report 115 = .ok (.isub, 1) := by decide +kernel
theorem dX12_report_116 : decode cX12_report 116 = .ok (.ireturn, 1) := by decide +kernel
theorem dX12_forget_0 : decode cX12_forget 0 = .ok (.aload_n 0, 1) := by decide +kernel
theorem dX12_forget_1 : decode cX12_forget 1 = .ok (.bipush 6, 2) := by decide +kernel
theorem dX12_forget_3 : decode cX12_forget 3 = .ok (.iconst 0, 1) := by decide +kernel
theorem dX12_forget_4 : decode cX12_forget 4 = .ok (.invokevirtual 108, 3) := by decide +kernel
theorem dX12_forget_7 : decode cX12_forget 7 = .ok (.ireturn, 1) := by decide +kernel
theorem dX12_isFit_0 : decode cX12_isFit 0 = .ok (.iload_n 1, 1) := by decide +kernel
theorem dX12_isFit_1 : decode cX12_isFit 1 = .ok (.bipush 16, 2) := by decide +kernel
theorem dX12_isFit_3 : decode cX12_isFit 3 = .ok (.idiv, 1) := by decide +kernel
theorem dX12_isFit_4 : decode cX12_isFit 4 = .ok (.istore_n 3, 1) := by decide +kernel
theorem dX12_isFit_5 : decode cX12_isFit 5 = .ok (.iload_n 1, 1) := by decide +kernel
theorem dX12_isFit_6 : decode cX12_isFit 6 = .ok (.iconst 4, 1) := by decide +kernel
theorem dX12_isFit_7 : decode cX12_isFit 7 = .ok (.idiv, 1) := by decide +kernel
theorem dX12_isFit_8 : decode cX12_isFit 8 = .ok (.iconst 4, 1) := by decide +kernel
theorem dX12_isFit_9 : decode cX12_isFit 9 = .ok (.irem, 1) := by decide +kernel
theorem dX12_isFit_10 : decode cX12_isFit 10 = .ok (.iconst 1, 1) := by decide +kernel
theorem dX12_isFit_11 : decode cX12_isFit 11 = .ok (.iadd, 1) := by decide +kernel
theorem dX12_isFit_12 : decode cX12_isFit 12 = .ok (.istore 4, 2) := by decide +kernel
theorem dX12_isFit_14 : decode cX12_isFit 14 = .ok (.iload_n 1, 1) := by decide +kernel
theorem dX12_isFit_15 : decode cX12_isFit 15 = .ok (.iconst 4, 1) := by decide +kernel
theorem dX12_isFit_16 : decode cX12_isFit 16 = .ok (.irem, 1) := by decide +kernel
theorem dX12_isFit_17 : decode cX12_isFit 17 = .ok (.iconst 1, 1) := by decide +kernel
theorem dX12_isFit_18 : decode cX12_isFit 18 = .ok (.iadd, 1) := by decide +kernel
theorem dX12_isFit_19 : decode cX12_isFit 19 = .ok (.istore 5, 2) := by decide +kernel
theorem dX12_isFit_21 : decode cX12_isFit 21 = .ok (.iconst 1, 1) := by decide +kernel
theorem dX12_isFit_22 : decode cX12_isFit 22 = .ok (.istore 6, 2) := by decide +kernel
theorem dX12_isFit_24 : decode cX12_isFit 24 = .ok (.iconst 0, 1) := by decide +kernel
theorem dX12_isFit_25 : decode cX12_isFit 25 = .ok (.istore 7, 2) := by decide +kernel
theorem dX12_isFit_27 : decode cX12_isFit 27 = .ok (.iload 7, 2) := by decide +kernel
theorem dX12_isFit_29 : decode cX12_isFit 29 = .ok (.aload_n 0, 1) := by decide +kernel
theorem dX12_isFit_30 : decode cX12_isFit 30 = .ok (.getfield 7, 3) := by decide +kernel
theorem dX12_isFit_33 : decode cX12_isFit 33 = .ok (.bipush 6, 2) := by decide +kernel
theorem dX12_isFit_35 : decode cX12_isFit 35 = .ok (.iaload, 1) := by decide +kernel
theorem dX12_isFit_36 : decode cX12_isFit 36 = .ok (.if_icmp .ge 109, 3) := by decide +kernel
theorem dX12_isFit_39 : decode cX12_isFit 39 = .ok (.bipush 85, 2) := by decide +kernel
theorem dX12_isFit_41 : decode cX12_isFit 41 = .ok (.iconst 3, 1) := by decide +kernel
theorem dX12_isFit_42 : decode cX12_isFit 42 = .ok (.iload 7, 2) := by decide +kernel
theorem dX12_isFit_44 : decode cX12_isFit 44 = .ok (.imul, 1) := by decide +kernel
theorem dX12_isFit_45 : decode cX12_isFit 45 = .ok (.iadd, 1) := by decide +kernel
theorem dX12_isFit_46 : decode cX12_isFit 46 = .ok (.istore 8, 2) := by decide +kernel
theorem dX12_isFit_48 : decode cX12_isFit 48 = .ok (.iconst 0, 1) := by decide +kernel
theorem dX12_isFit_49 : decode cX12_isFit 49 = .ok (.istore 9, 2) := by decide +kernel
theorem dX12_isFit_51 : decode cX12_isFit 51 = .ok (.iconst 0, 1) := by decide +kernel
theorem dX12_isFit_52 : decode cX12_isFit 52 = .ok (.istore 10, 2) := by decide +kernel
theorem dX12_isFit_54 : decode cX12_isFit 54 = .ok (.iload 10, 2) := by decide +kernel
theorem dX12_isFit_56 : decode cX12_isFit 56 = .ok (.iload 5, 2) := by decide +kernel
theorem dX12_isFit_58 : decode cX12_isFit 58 = .ok (.if_icmp .ge 36, 3) := by decide +kernel
theorem dX12_isFit_61 : decode cX12_isFit 61 = .ok (.iload 9, 2) := by decide +kernel
theorem dX12_isFit_63 : decode cX12_isFit 63 = .ok (.iload_n 3, 1) := by decide +kernel
theorem dX12_isFit_64 : decode cX12_isFit 64 = .ok (.iload 10, 2) := by decide +kernel
theorem dX12_isFit_66 : decode cX12_isFit 66 = .ok (.iload 4, 2) := by decide +kernel
theorem dX12_isFit_68 : decode cX12_isFit 68 = .ok (.imul, 1) := by decide +kernel
theorem dX12_isFit_69 : decode cX12_isFit 69 = .ok (.iadd, 1) := by decide +kernel
theorem dX12_isFit_70 : decode cX12_isFit 70 = .ok (.aload_n 0, 1) := by decide +kernel
theorem dX12_isFit_71 : decode cX12_isFit 71 = .ok (.getfield 7, 3) := by decide +kernel
theorem dX12_isFit_74 : decode cX12_isFit 74 = .ok (.iload 8, 2) := by decide +kernel
theorem dX12_isFit_76 : decode cX12_isFit 76 = .ok (.iaload, 1) := by decide +kernel
theorem dX12_isFit_77 : decode cX12_isFit 77 = .ok (.if_icmp .gt 7, 3) := by decide +kernel
theorem dX12_isFit_80 : decode cX12_isFit 80 = .ok (.iconst 1, 1) := by decide +kernel
theorem dX12_isFit_81 : decode cX12_isFit 81 = .ok (.goto 4, 3) := by decide +kernel
theorem dX12_isFit_84 : decode cX12_isFit 84 = .ok (.iconst 0, 1) := by decide +kernel
theorem dX12_isFit_85 : decode cX12_isFit 85 = .ok (.iadd, 1) := by decide +kernel
theorem dX12_isFit_86 : decode cX12_isFit 86 = .ok (.istore 9, 2) := by decide +kernel
theorem dX12_isFit_88 : decode cX12_isFit 88 = .ok (.iinc 10 1, 3) := by decide +kernel
theorem dX12_isFit_91 : decode cX12_isFit 91 = .ok (.goto (-37), 3) := by decide +kernel
theorem dX12_isFit_94 : decode cX12_isFit 94 = .ok (.iload 6, 2) := by decide +kernel
theorem dX12_isFit_96 : decode cX12_isFit 96 = .ok (.iload 7, 2) := by decide +kernel
theorem dX12_isFit_98 : decode cX12_isFit 98 = .ok (.iload_n 2, 1) := by decide +kernel
theorem dX12_isFit_99 : decode cX12_isFit 99 = .ok (.if_icmp .eq 32, 3) := by decide +kernel
theorem dX12_isFit_102 : decode cX12_isFit 102 = .ok (.iload 9, 2) := by decide +kernel
theorem dX12_isFit_104 : decode cX12_isFit 104 = .ok (.i2l, 1) := by decide +kernel
theorem dX12_isFit_105 : decode cX12_isFit 105 = .ok (.aload_n 0, 1) := by decide +kernel
theorem dX12_isFit_106 : decode cX12_isFit 106 = .ok (.getfield 7, 3) := by decide +kernel
theorem dX12_isFit_109 : decode cX12_isFit 109 = .ok (.iload 8, 2) := by decide +kernel
theorem dX12_isFit_111 : decode cX12_isFit 111 = .ok (.iconst 1, 1) := by decide +kernel
theorem dX12_isFit_112 : decode cX12_isFit 112 = .ok (.iadd, 1) := by decide +kernel
theorem dX12_isFit_113 : decode cX12_isFit 113 = .ok (.iaload, 1) := by decide +kernel
theorem dX12_isFit_114 : decode cX12_isFit 114 = .ok (.i2l, 1) := by decide +kernel
theorem dX12_isFit_115 : decode cX12_isFit 115 = .ok (.aload_n 0, 1) := by decide +kernel
theorem dX12_isFit_116 : decode cX12_isFit 116 = .ok (.getfield 7, 3) := by decide +kernel
theorem dX12_isFit_119 : decode cX12_isFit 119 = .ok (.iload 8, 2) := by decide +kernel
theorem dX12_isFit_121 : decode cX12_isFit 121 = .ok (.iconst 2, 1) := by decide +kernel
theorem dX12_isFit_122 : decode cX12_isFit 122 = .ok (.iadd, 1) := by decide +kernel
theorem dX12_isFit_123 : decode cX12_isFit 123 = .ok (.iaload, 1) := by decide +kernel
theorem dX12_isFit_124 : decode cX12_isFit 124 = .ok (.i2l, 1) := by decide +kernel
theorem dX12_isFit_125 : decode cX12_isFit 125 = .ok (.invokestatic 57, 3) := by decide +kernel
theorem dX12_isFit_128 : decode cX12_isFit 128 = .ok (.ifCond .eq 7, 3) := by decide +kernel
theorem dX12_isFit_131 : decode cX12_isFit 131 = .ok (.iconst 1, 1) := by decide +kernel
theorem dX12_isFit_132 : decode cX12_isFit 132 = .ok (.goto 4, 3) := by decide +kernel
theorem dX12_isFit_135 : decode cX12_isFit 135 = .ok (.iconst 0, 1) := by decide +kernel
theorem dX12_isFit_136 : decode cX12_isFit 136 = .ok (.iand, 1) := by decide +kernel
theorem dX12_isFit_137 : decode cX12_isFit 137 = .ok (.istore 6, 2) := by decide +kernel
theorem dX12_isFit_139 : decode cX12_isFit 139 = .ok (.iinc 7 1, 3) := by decide +kernel
theorem dX12_isFit_142 : decode cX12_isFit 142 = .ok (.goto (-115), 3) := by decide +kernel
theorem dX12_isFit_145 : decode cX12_isFit 145 = .ok (.iload 6, 2) := by decide +kernel
theorem dX12_isFit_147 : decode cX12_isFit 147 = .ok (.ireturn, 1) := by decide +kernel
theorem dX12_findsFits_0 : decode cX12_findsFits 0 = .ok (.aload_n 0, 1) := by decide +kernel
theorem dX12_findsFits_1 : decode cX12_findsFits 1 = .ok (.iconst 0, 1) := by decide +kernel
theorem dX12_findsFits_2 : decode cX12_findsFits 2 = .ok (.putfield 293, 3) := by decide +kernel
theorem dX12_findsFits_5 : decode cX12_findsFits 5 = .ok (.aload_n 0, 1) := by decide +kernel
theorem dX12_findsFits_6 : decode cX12_findsFits 6 = .ok (.bipush (-3), 2) := by decide +kernel
theorem dX12_findsFits_8 : decode cX12_findsFits 8 = .ok (.putfield 296, 3) := by decide +kernel
theorem dX12_findsFits_11 : decode cX12_findsFits 11 = .ok (.iconst 0, 1) := by decide +kernel
theorem dX12_findsFits_12 : decode cX12_findsFits 12 = .ok (.istore_n 2, 1) := by decide +kernel
theorem dX12_findsFits_13 : decode cX12_findsFits 13 = .ok (.iload_n 2, 1) := by decide +kernel
theorem dX12_findsFits_14 : decode cX12_findsFits 14 = .ok (.sipush 256, 3) := by decide +kernel
theorem dX12_findsFits_17 : decode cX12_findsFits 17 = .ok (.if_icmp .ge 47, 3) := by decide +kernel
theorem dX12_findsFits_20 : decode cX12_findsFits 20 = .ok (.aload_n 0, 1) := by decide +kernel
theorem dX12_findsFits_21 : decode cX12_findsFits 21 = .ok (.iload_n 2, 1) := by decide +kernel
theorem dX12_findsFits_22 : decode cX12_findsFits 22 = .ok (.iload_n 1, 1) := by decide +kernel
theorem dX12_findsFits_23 : decode cX12_findsFits 23 = .ok (.invokevirtual 299, 3) := by decide +kernel
theorem dX12_findsFits_26 : decode cX12_findsFits 26 = .ok (.ifCond .eq 32, 3) := by decide +kernel
theorem dX12_findsFits_29 : decode cX12_findsFits 29 = .ok (.aload_n 0, 1) := by decide +kernel
theorem dX12_findsFits_30 : decode cX12_findsFits 30 = .ok (.aload_n 0, 1) := by decide +kernel
theorem dX12_findsFits_31 : decode cX12_findsFits 31 = .ok (.getfield 293, 3) := by decide +kernel
theorem dX12_findsFits_34 : decode cX12_findsFits 34 = .ok (.ifCond .ne 7, 3) := by decide +kernel
theorem dX12_findsFits_37 : decode cX12_findsFits 37 = .ok (.iload_n 2, 1) := by decide +kernel
theorem dX12_findsFits_38 : decode cX12_findsFits 38 = .ok (.goto 7, 3) := by decide +kernel
theorem dX12_findsFits_41 : decode cX12_findsFits 41 = .ok (.aload_n 0, 1) := by decide +kernel
theorem dX12_findsFits_42 : decode cX12_findsFits 42 = .ok (.getfield 296, 3) := by decide +kernel
theorem dX12_findsFits_45 : decode cX12_findsFits 45 = .ok (.putfield 296, 3) := by decide +kernel
theorem dX12_findsFits_48 : decode cX12_findsFits 48 = .ok (.aload_n 0, 1) := by decide +kernel
theorem dX12_findsFits_49 : decode cX12_findsFits 49 = .ok (.dup, 1) := by decide +kernel
theorem dX12_findsFits_50 : decode cX12_findsFits 50 = .ok (.getfield 293, 3) := by decide +kernel
theorem dX12_findsFits_53 : decode cX12_findsFits 53 = .ok (.iconst 1, 1) := by decide +kernel
theorem dX12_findsFits_54 : decode cX12_findsFits 54 = .ok (.iadd, 1) := by decide +kernel
theorem dX12_findsFits_55 : decode cX12_findsFits 55 = .ok (.putfield 293, 3) := by decide +kernel
theorem dX12_findsFits_58 : decode cX12_findsFits 58 = .ok (.iinc 2 1, 3) := by decide +kernel
theorem dX12_findsFits_61 : decode cX12_findsFits 61 = .ok (.goto (-48), 3) := by decide +kernel
theorem dX12_findsFits_64 : decode cX12_findsFits 64 = .ok (.return_, 1) := by decide +kernel
theorem dX12_span_0 : decode cX12_span 0 = .ok (.iload_n 1, 1) := by decide +kernel
theorem dX12_span_1 : decode cX12_span 1 = .ok (.i2l, 1) := by decide +kernel
theorem dX12_span_2 : decode cX12_span 2 = .ok (.lconst 0, 1) := by decide +kernel
theorem dX12_span_3 : decode cX12_span 3 = .ok (.ldc2_w 283, 3) := by decide +kernel
theorem dX12_span_6 : decode cX12_span 6 = .ok (.invokestatic 57, 3) := by decide +kernel
theorem dX12_span_9 : decode cX12_span 9 = .ok (.ifCond .ne 5, 3) := by decide +kernel
theorem dX12_span_12 : decode cX12_span 12 = .ok (.iconst (-1), 1) := by decide +kernel
theorem dX12_span_13 : decode cX12_span 13 = .ok (.ireturn, 1) := by decide +kernel
theorem dX12_span_14 : decode cX12_span 14 = .ok (.aload_n 0, 1) := by decide +kernel
theorem dX12_span_15 : decode cX12_span 15 = .ok (.iconst (-1), 1) := by decide +kernel
theorem dX12_span_16 : decode cX12_span 16 = .ok (.invokevirtual 302, 3) := by decide +kernel
theorem dX12_span_19 : decode cX12_span 19 = .ok (.iload_n 1, 1) := by decide +kernel
theorem dX12_span_20 : decode cX12_span 20 = .ok (.ifCond .eq 10, 3) := by decide +kernel
theorem dX12_span_23 : decode cX12_span 23 = .ok (.aload_n 0, 1) := by decide +kernel
theorem dX12_span_24 : decode cX12_span 24 = .ok (.getfield 293, 3) := by decide +kernel
theorem dX12_span_27 : decode cX12_span 27 = .ok (.ifCond .ne 17, 3) := by decide +kernel
theorem dX12_span_30 : decode cX12_span 30 = .ok (.iload_n 1, 1) := by decide +kernel
theorem dX12_span_31 : decode cX12_span 31 = .ok (.ifCond .ne 10, 3) := by decide +kernel
theorem dX12_span_34 : decode cX12_span 34 = .ok (.aload_n 0, 1) := by decide +kernel
theorem dX12_span_35 : decode cX12_span 35 = .ok (.getfield 293, 3) := by decide +kernel
theorem dX12_span_38 : decode cX12_span 38 = .ok (.goto 5, 3) := by decide +kernel
theorem dX12_span_41 : decode cX12_span 41 = .ok (.bipush (-3), 2) := by decide +kernel
theorem dX12_span_43 : decode cX12_span 43 = .ok (.ireturn, 1) := by decide +kernel
theorem dX12_span_44 : decode cX12_span 44 = .ok (.iload_n 1, 1) := by decide +kernel
theorem dX12_span_45 : decode cX12_span 45 = .ok (.iconst 1, 1) := by decide +kernel
theorem dX12_span_46 : decode cX12_span 46 = .ok (.if_icmp .ne 13, 3) := by decide +kernel
theorem dX12_span_49 : decode cX12_span 49 = .ok (.aload_n 0, 1) := by decide +kernel
theorem dX12_span_50 : decode cX12_span 50 = .ok (.getfield 296, 3) := by decide +kernel
theorem dX12_span_53 : decode cX12_span 53 = .ok (.bipush 16, 2) := by decide +kernel
theorem dX12_span_55 : decode cX12_span 55 = .ok (.idiv, 1) := by decide +kernel
theorem dX12_span_56 : decode cX12_span 56 = .ok (.goto 29, 3) := by decide +kernel
theorem dX12_span_59 : decode cX12_span 59 = .ok (.iload_n 1, 1) := by decide +kernel
theorem dX12_span_60 : decode cX12_span 60 = .ok (.iconst 2, 1) := by decide +kernel
theorem dX12_span_61 : decode cX12_span 61 = .ok (.if_icmp .ne 16, 3) := by decide +kernel
theorem dX12_span_64 : decode cX12_span 64 = .ok (.aload_n 0, 1) := by decide +kernel
theorem dX12_span_65 : decode cX12_span 65 = .ok (.getfield 296, 3) := by decide +kernel
theorem dX12_span_68 : decode cX12_span 68 = .ok (.iconst 4, 1) := by decide +kernel
theorem dX12_span_69 : decode cX12_span 69 = .ok (.idiv, 1) := by decide +kernel
theorem dX12_span_70 : decode cX12_span 70 = .ok (.iconst 4, 1) := by decide +kernel
theorem dX12_span_71 : decode cX12_span 71 = .ok (.irem, 1) := by decide +kernel
theorem dX12_span_72 : decode cX12_span 72 = .ok (.iconst 1, 1) := by decide +kernel
theorem dX12_span_73 : decode cX12_span 73 = .ok (.iadd, 1) := by decide +kernel
theorem dX12_span_74 : decode cX12_span 74 = .ok (.goto 11, 3) := by decide +kernel
theorem dX12_span_77 : decode cX12_span 77 = .ok (.aload_n 0, 1) := by decide +kernel
theorem dX12_span_78 : decode cX12_span 78 = .ok (.getfield 296, 3) := by decide +kernel
theorem dX12_span_81 : decode cX12_span 81 = .ok (.iconst 4, 1) := by decide +kernel
theorem dX12_span_82 : decode cX12_span 82 = .ok (.irem, 1) := by decide +kernel
theorem dX12_span_83 : decode cX12_span 83 = .ok (.iconst 1, 1) := by decide +kernel
theorem dX12_span_84 : decode cX12_span 84 = .ok (.iadd, 1) := by decide +kernel
theorem dX12_span_85 : decode cX12_span 85 = .ok (.ireturn, 1) := by decide +kernel
theorem dX12_liar_0 : decode cX12_liar 0 = .ok (.aload_n 0, 1) := by decide +kernel
theorem dX12_liar_1 : decode cX12_liar 1 = .ok (.iconst (-1), 1) := by decide +kernel
theorem dX12_liar_2 : decode cX12_liar 2 = .ok (.invokevirtual 302, 3) := by decide +kernel
theorem dX12_liar_5 : decode cX12_liar 5 = .ok (.bipush (-3), 2) := by decide +kernel
theorem dX12_liar_7 : decode cX12_liar 7 = .ok (.istore_n 1, 1) := by decide +kernel
theorem dX12_liar_8 : decode cX12_liar 8 = .ok (.aload_n 0, 1) := by decide +kernel
theorem dX12_liar_9 : decode cX12_liar 9 = .ok (.getfield 293, 3) := by decide +kernel
theorem dX12_liar_12 : decode cX12_liar 12 = .ok (.ifCond .ne 7, 3) := by decide +kernel
theorem dX12_liar_15 : decode cX12_liar 15 = .ok (.iconst 1, 1) := by decide +kernel
theorem dX12_liar_16 : decode cX12_liar 16 = .ok (.goto 4, 3) := by decide +kernel
theorem dX12_liar_19 : decode cX12_liar 19 = .ok (.iconst 0, 1) := by decide +kernel
theorem dX12_liar_20 : decode cX12_liar 20 = .ok (.istore_n 2, 1) := by decide +kernel
theorem dX12_liar_21 : decode cX12_liar 21 = .ok (.iconst 0, 1) := by decide +kernel
theorem dX12_liar_22 : decode cX12_liar 22 = .ok (.istore_n 3, 1) := by decide +kernel
theorem dX12_liar_23 : decode cX12_liar 23 = .ok (.iload_n 3, 1) := by decide +kernel
theorem dX12_liar_24 : decode cX12_liar 24 = .ok (.aload_n 0, 1) := by decide +kernel
theorem dX12_liar_25 : decode cX12_liar 25 = .ok (.getfield 7, 3) := by decide +kernel
theorem dX12_liar_28 : decode cX12_liar 28 = .ok (.bipush 6, 2) := by decide +kernel
theorem dX12_liar_30 : decode cX12_liar 30 = .ok (.iaload, 1) := by decide +kernel
theorem dX12_liar_31 : decode cX12_liar 31 = .ok (.if_icmp .ge 36, 3) := by decide +kernel
theorem dX12_liar_34 : decode cX12_liar 34 = .ok (.iload_n 2, 1) := by decide +kernel
theorem dX12_liar_35 : decode cX12_liar 35 = .ok (.ifCond .eq 32, 3) := by decide +kernel
theorem dX12_liar_38 : decode cX12_liar 38 = .ok (.iload_n 1, 1) := by decide +kernel
theorem dX12_liar_39 : decode cX12_liar 39 = .ok (.ifCond .ge 28, 3) := by decide +kernel
theorem dX12_liar_42 : decode cX12_liar 42 = .ok (.aload_n 0, 1) := by decide +kernel
theorem dX12_liar_43 : decode cX12_liar 43 = .ok (.iload_n 3, 1) := by decide +kernel
theorem dX12_liar_44 : decode cX12_liar 44 = .ok (.invokevirtual 302, 3) := by decide +kernel
theorem dX12_liar_47 : decode cX12_liar 47 = .ok (.aload_n 0, 1) := by decide +kernel
theorem dX12_liar_48 : decode cX12_liar 48 = .ok (.getfield 293, 3) := by decide +kernel
theorem dX12_liar_51 : decode cX12_liar 51 = .ok (.ifCond .le 7, 3) := by decide +kernel
theorem dX12_liar_54 : decode cX12_liar 54 = .ok (.iload_n 3, 1) := by decide +kernel
theorem dX12_liar_55 : decode cX12_liar 55 = .ok (.goto 5, 3) := by decide +kernel
theorem dX12_liar_58 : decode cX12_liar 58 = .ok (.bipush (-3), 2) := by decide +kernel
theorem dX12_liar_60 : decode cX12_liar 60 = .ok (.istore_n 1, 1) := by decide +kernel
theorem dX12_liar_61 : decode cX12_liar 61 = .ok (.iinc 3 1, 3) := by decide +kernel
theorem dX12_liar_64 : decode cX12_liar 64 = .ok (.goto (-41), 3) := by decide +kernel
theorem dX12_liar_67 : decode cX12_liar 67 = .ok (.iload_n 1, 1) := by decide +kernel
theorem dX12_liar_68 : decode cX12_liar 68 = .ok (.ireturn, 1) := by decide +kernel
theorem dX12_seed_0 : decode cX12_seed 0 = .ok (.aload_n 0, 1) := by decide +kernel
theorem dX12_seed_1 : decode cX12_seed 1 = .ok (.iconst 4, 1) := by decide +kernel
theorem dX12_seed_2 : decode cX12_seed 2 = .ok (.iload_n 1, 1) := by decide +kernel
theorem dX12_seed_3 : decode cX12_seed 3 = .ok (.invokevirtual 108, 3) := by decide +kernel
theorem dX12_seed_6 : decode cX12_seed 6 = .ok (.ireturn, 1) := by decide +kernel
theorem dX12_goesByLot_0 : decode cX12_goesByLot 0 = .ok (.aload_n 0, 1) := by decide +kernel
theorem dX12_goesByLot_1 : decode cX12_goesByLot 1 = .ok (.getfield 7, 3) := by decide +kernel
theorem dX12_goesByLot_4 : decode cX12_goesByLot 4 = .ok (.iconst 4, 1) := by decide +kernel
theorem dX12_goesByLot_5 : decode cX12_goesByLot 5 = .ok (.aload_n 0, 1) := by decide +kernel
theorem dX12_goesByLot_6 : decode cX12_goesByLot 6 = .ok (.getfield 7, 3) := by decide +kernel
theorem dX12_goesByLot_9 : decode cX12_goesByLot 9 = .ok (.iconst 4, 1) := by decide +kernel
theorem dX12_goesByLot_10 : decode cX12_goesByLot 10 = .ok (.iaload, 1) := by decide +kernel
theorem dX12_goesByLot_11 : decode cX12_goesByLot 11 = .ok (.ldc_w 305, 3) := by decide +kernel
theorem dX12_goesByLot_14 : decode cX12_goesByLot 14 = .ok (.imul, 1) := by decide +kernel
theorem dX12_goesByLot_15 : decode cX12_goesByLot 15 = .ok (.sipush 12345, 3) := by decide +kernel
theorem dX12_goesByLot_18 : decode cX12_goesByLot 18 = .ok (.iadd, 1) := by decide +kernel
theorem dX12_goesByLot_19 : decode cX12_goesByLot 19 = .ok (.iastore, 1) := by decide +kernel
theorem dX12_goesByLot_20 : decode cX12_goesByLot 20 = .ok (.aload_n 0, 1) := by decide +kernel
theorem dX12_goesByLot_21 : decode cX12_goesByLot 21 = .ok (.aload_n 0, 1) := by decide +kernel
theorem dX12_goesByLot_22 : decode cX12_goesByLot 22 = .ok (.getfield 7, 3) := by decide +kernel
theorem dX12_goesByLot_25 : decode cX12_goesByLot 25 = .ok (.iconst 4, 1) := by decide +kernel
theorem dX12_goesByLot_26 : decode cX12_goesByLot 26 = .ok (.iaload, 1) := by decide +kernel
theorem dX12_goesByLot_27 : decode cX12_goesByLot 27 = .ok (.bipush 16, 2) := by decide +kernel
theorem dX12_goesByLot_29 : decode cX12_goesByLot 29 = .ok (.iushr, 1) := by decide +kernel
theorem dX12_goesByLot_30 : decode cX12_goesByLot 30 = .ok (.aload_n 0, 1) := by decide +kernel
theorem dX12_goesByLot_31 : decode cX12_goesByLot 31 = .ok (.getfield 7, 3) := by decide +kernel
theorem dX12_goesByLot_34 : decode cX12_goesByLot 34 = .ok (.iconst 0, 1) := by decide +kernel
theorem dX12_goesByLot_35 : decode cX12_goesByLot 35 = .ok (.iaload, 1) := by decide +kernel
theorem dX12_goesByLot_36 : decode cX12_goesByLot 36 = .ok (.iconst 1, 1) := by decide +kernel
theorem dX12_goesByLot_37 : decode cX12_goesByLot 37 = .ok (.iadd, 1) := by decide +kernel
theorem dX12_goesByLot_38 : decode cX12_goesByLot 38 = .ok (.irem, 1) := by decide +kernel
theorem dX12_goesByLot_39 : decode cX12_goesByLot 39 = .ok (.invokevirtual 224, 3) := by decide +kernel
theorem dX12_goesByLot_42 : decode cX12_goesByLot 42 = .ok (.ireturn, 1) := by decide +kernel
theorem dX12_lot_0 : decode cX12_lot 0 = .ok (.aload_n 0, 1) := by decide +kernel
theorem dX12_lot_1 : decode cX12_lot 1 = .ok (.invokevirtual 115, 3) := by decide +kernel
theorem dX12_lot_4 : decode cX12_lot 4 = .ok (.ifCond .eq 8, 3) := by decide +kernel
theorem dX12_lot_7 : decode cX12_lot 7 = .ok (.bipush (-4), 2) := by decide +kernel
theorem dX12_lot_9 : decode cX12_lot 9 = .ok (.goto 7, 3) := by decide +kernel
theorem dX12_lot_12 : decode cX12_lot 12 = .ok (.aload_n 0, 1) := by decide +kernel
theorem dX12_lot_13 : decode cX12_lot 13 = .ok (.invokevirtual 306, 3) := by decide +kernel
theorem dX12_lot_16 : decode cX12_lot 16 = .ok (.ireturn, 1) := by decide +kernel
theorem dX12_times_0 : decode cX12_times 0 = .ok (.iload_n 1, 1) := by decide +kernel
theorem dX12_times_1 : decode cX12_times 1 = .ok (.i2l, 1) := by decide +kernel
theorem dX12_times_2 : decode cX12_times 2 = .ok (.lconst 1, 1) := by decide +kernel
theorem dX12_times_3 : decode cX12_times 3 = .ok (.ldc2_w 309, 3) := by decide +kernel
theorem dX12_times_6 : decode cX12_times 6 = .ok (.invokestatic 57, 3) := by decide +kernel
theorem dX12_times_9 : decode cX12_times 9 = .ok (.ifCond .eq 15, 3) := by decide +kernel
theorem dX12_times_12 : decode cX12_times 12 = .ok (.iload_n 2, 1) := by decide +kernel
theorem dX12_times_13 : decode cX12_times 13 = .ok (.i2l, 1) := by decide +kernel
theorem dX12_times_14 : decode cX12_times 14 = .ok (.lconst 0, 1) := by decide +kernel
theorem dX12_times_15 : decode cX12_times 15 = .ok (.ldc2_w 311, 3) := by decide +kernel
theorem dX12_times_18 : decode cX12_times 18 = .ok (.invokestatic 57, 3) := by decide +kernel
theorem dX12_times_21 : decode cX12_times 21 = .ok (.ifCond .ne 5, 3) := by decide +kernel
theorem dX12_times_24 : decode cX12_times 24 = .ok (.iconst (-1), 1) := by decide +kernel
theorem dX12_times_25 : decode cX12_times 25 = .ok (.ireturn, 1) := by decide +kernel
theorem dX12_times_26 : decode cX12_times 26 = .ok (.aload_n 0, 1) := by decide +kernel
theorem dX12_times_27 : decode cX12_times 27 = .ok (.iconst 0, 1) := by decide +kernel
theorem dX12_times_28 : decode cX12_times 28 = .ok (.invokevirtual 227, 3) := by decide +kernel
theorem dX12_times_31 : decode cX12_times 31 = .ok (.iconst 0, 1) := by decide +kernel
theorem dX12_times_32 : decode cX12_times 32 = .ok (.istore_n 3, 1) := by decide +kernel
theorem dX12_times_33 : decode cX12_times 33 = .ok (.iconst 0, 1) := by decide +kernel
theorem dX12_times_34 : decode cX12_times 34 = .ok (.istore 4, 2) := by decide +kernel
theorem dX12_times_36 : decode cX12_times 36 = .ok (.iload 4, 2) := by decide +kernel
theorem dX12_times_38 : decode cX12_times 38 = .ok (.iload_n 1, 1) := by decide +kernel
theorem dX12_times_39 : decode cX12_times 39 = .ok (.if_icmp .ge 80, 3) := by decide +kernel
theorem dX12_times_42 : decode cX12_times 42 = .ok (.aload_n 0, 1) := by decide +kernel
theorem dX12_times_43 : decode cX12_times 43 = .ok (.getfield 7, 3) := by decide +kernel
theorem dX12_times_46 : decode cX12_times 46 = .ok (.iconst 4, 1) := by decide +kernel
theorem dX12_times_47 : decode cX12_times 47 = .ok (.iaload, 1) := by decide +kernel
theorem dX12_times_48 : decode cX12_times 48 = .ok (.istore 5, 2) := by decide +kernel
theorem dX12_times_50 : decode cX12_times 50 = .ok (.aload_n 0, 1) := by decide +kernel
theorem dX12_times_51 : decode cX12_times 51 = .ok (.iconst 0, 1) := by decide +kernel
theorem dX12_times_52 : decode cX12_times 52 = .ok (.invokevirtual 231, 3) := by decide +kernel
theorem dX12_times_55 : decode cX12_times 55 = .ok (.aload_n 0, 1) := by decide +kernel
theorem dX12_times_56 : decode cX12_times 56 = .ok (.getfield 7, 3) := by decide +kernel
theorem dX12_times_59 : decode cX12_times 59 = .ok (.iconst 4, 1) := by decide +kernel
theorem dX12_times_60 : decode cX12_times 60 = .ok (.iload 4, 2) := by decide +kernel
theorem dX12_times_62 : decode cX12_times 62 = .ok (.ifCond .ne 12, 3) := by decide +kernel
theorem dX12_times_65 : decode cX12_times 65 = .ok (.aload_n 0, 1) := by decide +kernel
theorem dX12_times_66 : decode cX12_times 66 = .ok (.getfield 7, 3) := by decide +kernel
theorem dX12_times_69 : decode cX12_times 69 = .ok (.iconst 4, 1) := by decide +kernel
theorem dX12_times_70 : decode cX12_times 70 = .ok (.iaload, 1) := by decide +kernel
theorem dX12_times_71 : decode cX12_times 71 = .ok (.goto 5, 3) := by decide +kernel
theorem dX12_times_74 : decode cX12_times 74 = .ok (.iload 5, 2) := by decide +kernel
theorem dX12_times_76 : decode cX12_times 76 = .ok (.iastore, 1) := by decide +kernel
theorem dX12_times_77 : decode cX12_times 77 = .ok (.iconst 0, 1) := by decide +kernel
theorem dX12_times_78 : decode cX12_times 78 = .ok (.istore 6, 2) := by decide +kernel
theorem dX12_times_80 : decode cX12_times 80 = .ok (.aload_n 0, 1) := by decide +kernel
theorem dX12_times_81 : decode cX12_times 81 = .ok (.invokevirtual 115, 3) := by decide +kernel
theorem dX12_times_84 : decode cX12_times 84 = .ok (.ifCond .ne 15, 3) := by decide +kernel
theorem dX12_times_87 : decode cX12_times 87 = .ok (.iload 6, 2) := by decide +kernel
theorem dX12_times_89 : decode cX12_times 89 = .ok (.aload_n 0, 1) := by decide +kernel
theorem dX12_times_90 : decode cX12_times 90 = .ok (.invokevirtual 306, 3) := by decide +kernel
theorem dX12_times_93 : decode cX12_times 93 = .ok (.iadd, 1) := by decide +kernel
theorem dX12_times_94 : decode cX12_times 94 = .ok (.istore 6, 2) := by decide +kernel
theorem dX12_times_96 : decode cX12_times 96 = .ok (.goto (-16), 3) := by decide +kernel
theorem dX12_times_99 : decode cX12_times 99 = .ok (.iload_n 3, 1) := by decide +kernel
theorem dX12_times_100 : decode cX12_times 100 = .ok (.iload 6, 2) := by decide +kernel
theorem dX12_times_102 : decode cX12_times 102 = .ok (.iload_n 2, 1) := by decide +kernel
theorem dX12_times_103 : decode cX12_times 103 = .ok (.if_icmp .lt 7, 3) := by decide +kernel
theorem dX12_times_106 : decode cX12_times 106 = .ok (.iconst 1, 1) := by decide +kernel
theorem dX12_times_107 : decode cX12_times 107 = .ok (.goto 4, 3) := by decide +kernel
theorem dX12_times_110 : decode cX12_times 110 = .ok (.iconst 0, 1) := by decide +kernel
theorem dX12_times_111 : decode cX12_times 111 = .ok (.iadd, 1) := by decide +kernel
theorem dX12_times_112 : decode cX12_times 112 = .ok (.istore_n 3, 1) := by decide +kernel
theorem dX12_times_113 : decode cX12_times 113 = .ok (.iinc 4 1, 3) := by decide +kernel
theorem dX12_times_116 : decode cX12_times 116 = .ok (.goto (-80), 3) := by decide +kernel
theorem dX12_times_119 : decode cX12_times 119 = .ok (.aload_n 0, 1) := by decide +kernel
theorem dX12_times_120 : decode cX12_times 120 = .ok (.iconst 0, 1) := by decide +kernel
theorem dX12_times_121 : decode cX12_times 121 = .ok (.invokevirtual 231, 3) := by decide +kernel
theorem dX12_times_124 : decode cX12_times 124 = .ok (.iload_n 3, 1) := by decide +kernel
theorem dX12_times_125 : decode cX12_times 125 = .ok (.ireturn, 1) := by decide +kernel
theorem dX12_prove_0 : decode cX12_prove 0 = .ok (.iload_n 1, 1) := by decide +kernel
theorem dX12_prove_1 : decode cX12_prove 1 = .ok (.invokestatic 276, 3) := by decide +kernel
theorem dX12_prove_4 : decode cX12_prove 4 = .ok (.ifCond .ne 5, 3) := by decide +kernel
theorem dX12_prove_7 : decode cX12_prove 7 = .ok (.iconst (-1), 1) := by decide +kernel
theorem dX12_prove_8 : decode cX12_prove 8 = .ok (.ireturn, 1) := by decide +kernel
theorem dX12_prove_9 : decode cX12_prove 9 = .ok (.aload_n 0, 1) := by decide +kernel
theorem dX12_prove_10 : decode cX12_prove 10 = .ok (.iload_n 1, 1) := by decide +kernel
theorem dX12_prove_11 : decode cX12_prove 11 = .ok (.iconst 0, 1) := by decide +kernel
theorem dX12_prove_12 : decode cX12_prove 12 = .ok (.invokevirtual 279, 3) := by decide +kernel
theorem dX12_prove_15 : decode cX12_prove 15 = .ok (.aload_n 0, 1) := by decide +kernel
theorem dX12_prove_16 : decode cX12_prove 16 = .ok (.iconst 0, 1) := by decide +kernel
theorem dX12_prove_17 : decode cX12_prove 17 = .ok (.invokevirtual 227, 3) := by decide +kernel
theorem dX12_prove_20 : decode cX12_prove 20 = .ok (.iconst 0, 1) := by decide +kernel
theorem dX12_prove_21 : decode cX12_prove 21 = .ok (.istore_n 2, 1) := by decide +kernel
theorem dX12_prove_22 : decode cX12_prove 22 = .ok (.iload_n 2, 1) := by decide +kernel
theorem dX12_prove_23 : decode cX12_prove 23 = .ok (.aload_n 0, 1) := by decide +kernel
theorem dX12_prove_24 : decode cX12_prove 24 = .ok (.getfield 260, 3) := by decide +kernel
theorem dX12_prove_27 : decode cX12_prove 27 = .ok (.if_icmp .ge 57, 3) := by decide +kernel
theorem dX12_prove_30 : decode cX12_prove 30 = .ok (.aload_n 0, 1) := by decide +kernel
theorem dX12_prove_31 : decode cX12_prove 31 = .ok (.getfield 31, 3) := by decide +kernel
theorem dX12_prove_34 : decode cX12_prove 34 = .ok (.iconst 3, 1) := by decide +kernel
theorem dX12_prove_35 : decode cX12_prove 35 = .ok (.iload_n 2, 1) := by decide +kernel
theorem dX12_prove_36 : decode cX12_prove 36 = .ok (.imul, 1) := by decide +kernel
theorem dX12_prove_37 : decode cX12_prove 37 = .ok (.aload_n 0, 1) := by decide +kernel
theorem dX12_prove_38 : decode cX12_prove 38 = .ok (.getfield 28, 3) := by decide +kernel
theorem dX12_prove_41 : decode cX12_prove 41 = .ok (.iload_n 2, 1) := by decide +kernel
theorem dX12_prove_42 : decode cX12_prove 42 = .ok (.iaload, 1) := by decide +kernel
theorem dX12_prove_43 : decode cX12_prove 43 = .ok (.iastore, 1) := by decide +kernel
theorem dX12_prove_44 : decode cX12_prove 44 = .ok (.aload_n 0, 1) := by decide +kernel
theorem dX12_prove_45 : decode cX12_prove 45 = .ok (.getfield 31, 3) := by decide +kernel
theorem dX12_prove_48 : decode cX12_prove 48 = .ok (.iconst 3, 1) := by decide +kernel
theorem dX12_prove_49 : decode cX12_prove 49 = .ok (.iload_n 2, 1) := by decide +kernel
theorem dX12_prove_50 : decode cX12_prove 50 = .ok (.imul, 1) := by decide +kernel
theorem dX12_prove_51 : decode cX12_prove 51 = .ok (.iconst 1, 1) := by decide +kernel
theorem dX12_prove_52 : decode cX12_prove 52 = .ok (.iadd, 1) := by decide +kernel
theorem dX12_prove_53 : decode cX12_prove 53 = .ok (.aload_n 0, 1) := by decide +kernel
theorem dX12_prove_54 : decode cX12_prove 54 = .ok (.aload_n 0, 1) := by decide +kernel
theorem dX12_prove_55 : decode cX12_prove 55 = .ok (.getfield 28, 3) := by decide +kernel
theorem dX12_prove_58 : decode cX12_prove 58 = .ok (.iload_n 2, 1) := by decide +kernel
theorem dX12_prove_59 : decode cX12_prove 59 = .ok (.iaload, 1) := by decide +kernel
theorem dX12_prove_60 : decode cX12_prove 60 = .ok (.invokevirtual 224, 3) := by decide +kernel
theorem dX12_prove_63 : decode cX12_prove 63 = .ok (.iastore, 1) := by decide +kernel
theorem dX12_prove_64 : decode cX12_prove 64 = .ok (.aload_n 0, 1) := by decide +kernel
theorem dX12_prove_65 : decode cX12_prove 65 = .ok (.getfield 31, 3) := by decide +kernel
theorem dX12_prove_68 : decode cX12_prove 68 = .ok (.iconst 3, 1) := by decide +kernel
theorem dX12_prove_69 : decode cX12_prove 69 = .ok (.iload_n 2, 1) := by decide +kernel
theorem dX12_prove_70 : decode cX12_prove 70 = .ok (.imul, 1) := by decide +kernel
theorem dX12_prove_71 : decode cX12_prove 71 = .ok (.iconst 2, 1) := by decide +kernel
theorem dX12_prove_72 : decode cX12_prove 72 = .ok (.iadd, 1) := by decide +kernel
theorem dX12_prove_73 : decode cX12_prove 73 = .ok (.aload_n 0, 1) := by decide +kernel
theorem dX12_prove_74 : decode cX12_prove 74 = .ok (.invokevirtual 119, 3) := by decide +kernel
theorem dX12_prove_77 : decode cX12_prove 77 = .ok (.iastore, 1) := by decide +kernel
theorem dX12_prove_78 : decode cX12_prove 78 = .ok (.iinc 2 1, 3) := by decide +kernel
theorem dX12_prove_81 : decode cX12_prove 81 = .ok (.goto (-59), 3) := by decide +kernel
theorem dX12_prove_84 : decode cX12_prove 84 = .ok (.aload_n 0, 1) := by decide +kernel
theorem dX12_prove_85 : decode cX12_prove 85 = .ok (.iconst 0, 1) := by decide +kernel
theorem dX12_prove_86 : decode cX12_prove 86 = .ok (.invokevirtual 231, 3) := by decide +kernel
theorem dX12_prove_89 : decode cX12_prove 89 = .ok (.aload_n 0, 1) := by decide +kernel
theorem dX12_prove_90 : decode cX12_prove 90 = .ok (.aload_n 0, 1) := by decide +kernel
theorem dX12_prove_91 : decode cX12_prove 91 = .ok (.getfield 260, 3) := by decide +kernel
theorem dX12_prove_94 : decode cX12_prove 94 = .ok (.putfield 313, 3) := by decide +kernel
theorem dX12_prove_97 : decode cX12_prove 97 = .ok (.aload_n 0, 1) := by decide +kernel
theorem dX12_prove_98 : decode cX12_prove 98 = .ok (.getfield 313, 3) := by decide +kernel
theorem dX12_prove_101 : decode cX12_prove 101 = .ok (.ireturn, 1) := by decide +kernel
theorem dX12_isRow_0 : decode cX12_isRow 0 = .ok (.iload_n 1, 1) := by decide +kernel
theorem dX12_isRow_1 : decode cX12_isRow 1 = .ok (.i2l, 1) := by decide +kernel
theorem dX12_isRow_2 : decode cX12_isRow 2 = .ok (.lconst 0, 1) := by decide +kernel
theorem dX12_isRow_3 : decode cX12_isRow 3 = .ok (.aload_n 0, 1) := by decide +kernel
theorem dX12_isRow_4 : decode cX12_isRow 4 = .ok (.getfield 313, 3) := by decide +kernel
theorem dX12_isRow_7 : decode cX12_isRow 7 = .ok (.iconst 1, 1) := by decide +kernel
theorem dX12_isRow_8 : decode cX12_isRow 8 = .ok (.isub, 1) := by decide +kernel
theorem dX12_isRow_9 : decode cX12_isRow 9 = .ok (.i2l, 1) := by decide +kernel
theorem dX12_isRow_10 : decode cX12_isRow 10 = .ok (.invokestatic 57, 3) := by decide +kernel
theorem dX12_isRow_13 : decode cX12_isRow 13 = .ok (.ifCond .eq 19, 3) := by decide +kernel
theorem dX12_isRow_16 : decode cX12_isRow 16 = .ok (.iload_n 2, 1) := by decide +kernel
theorem dX12_isRow_17 : decode cX12_isRow 17 = .ok (.i2l, 1) := by decide +kernel
theorem dX12_isRow_18 : decode cX12_isRow 18 = .ok (.lconst 0, 1) := by decide +kernel
theorem dX12_isRow_19 : decode cX12_isRow 19 = .ok (.ldc2_w 67, 3) := by decide +kernel
theorem dX12_isRow_22 : decode cX12_isRow 22 = .ok (.invokestatic 57, 3) := by decide +kernel
theorem dX12_isRow_25 : decode cX12_isRow 25 = .ok (.ifCond .eq 7, 3) := by decide +kernel
theorem dX12_isRow_28 : decode cX12_isRow 28 = .ok (.iconst 1, 1) := by decide +kernel
theorem dX12_isRow_29 : decode cX12_isRow 29 = .ok (.goto 4, 3) := by decide +kernel
theorem dX12_isRow_32 : decode cX12_isRow 32 = .ok (.iconst 0, 1) := by decide +kernel
theorem dX12_isRow_33 : decode cX12_isRow 33 = .ok (.ireturn, 1) := by decide +kernel
theorem dX12_row_0 : decode cX12_row 0 = .ok (.aload_n 0, 1) := by decide +kernel
theorem dX12_row_1 : decode cX12_row 1 = .ok (.iload_n 1, 1) := by decide +kernel
theorem dX12_row_2 : decode cX12_row 2 = .ok (.iload_n 2, 1) := by decide +kernel
theorem dX12_row_3 : decode cX12_row 3 = .ok (.invokevirtual 316, 3) := by decide +kernel
theorem dX12_row_6 : decode cX12_row 6 = .ok (.ifCond .eq 16, 3) := by decide +kernel
theorem dX12_row_9 : decode cX12_row 9 = .ok (.aload_n 0, 1) := by decide +kernel
theorem dX12_row_10 : decode cX12_row 10 = .ok (.getfield 31, 3) := by decide +kernel
theorem dX12_row_13 : decode cX12_row 13 = .ok (.iconst 3, 1) := by decide +kernel
theorem dX12_row_14 : decode cX12_row 14 = .ok (.iload_n 1, 1) := by decide +kernel
theorem dX12_row_15 : decode cX12_row 15 = .ok (.imul, 1) := by decide +kernel
theorem dX12_row_16 : decode cX12_row 16 = .ok (.iload_n 2, 1) := by decide +kernel
theorem dX12_row_17 : decode cX12_row 17 = .ok (.iadd, 1) := by decide +kernel
theorem dX12_row_18 : decode cX12_row 18 = .ok (.iaload, 1) := by decide +kernel
theorem dX12_row_19 : decode cX12_row 19 = .ok (.goto 5, 3) := by decide +kernel
theorem dX12_row_22 : decode cX12_row 22 = .ok (.bipush (-9), 2) := by decide +kernel
theorem dX12_row_24 : decode cX12_row 24 = .ok (.ireturn, 1) := by decide +kernel
theorem dX12_alterRow_0 : decode cX12_alterRow 0 = .ok (.aload_n 0, 1) := by decide +kernel
theorem dX12_alterRow_1 : decode cX12_alterRow 1 = .ok (.iload_n 1, 1) := by decide +kernel
theorem dX12_alterRow_2 : decode cX12_alterRow 2 = .ok (.iload_n 2, 1) := by decide +kernel
theorem dX12_alterRow_3 : decode cX12_alterRow 3 = .ok (.invokevirtual 316, 3) := by decide +kernel
theorem dX12_alterRow_6 : decode cX12_alterRow 6 = .ok (.ifCond .ne 6, 3) := by decide +kernel
theorem dX12_alterRow_9 : decode cX12_alterRow 9 = .ok (.bipush (-9), 2) := by decide +kernel
theorem dX12_alterRow_11 : decode cX12_alterRow 11 = .ok (.ireturn, 1) := by decide +kernel
theorem dX12_alterRow_12 : decode cX12_alterRow 12 = .ok (.aload_n 0, 1) := by decide +kernel
theorem dX12_alterRow_13 : decode cX12_alterRow 13 = .ok (.getfield 31, 3) := by decide +kernel
theorem dX12_alterRow_16 : decode cX12_alterRow 16 = .ok (.iconst 3, 1) := by decide +kernel
theorem dX12_alterRow_17 : decode cX12_alterRow 17 = .ok (.iload_n 1, 1) := by decide +kernel
theorem dX12_alterRow_18 : decode cX12_alterRow 18 = .ok (.imul, 1) := by decide +kernel
theorem dX12_alterRow_19 : decode cX12_alterRow 19 = .ok (.iload_n 2, 1) := by decide +kernel
theorem dX12_alterRow_20 : decode cX12_alterRow 20 = .ok (.iadd, 1) := by decide +kernel
theorem dX12_alterRow_21 : decode cX12_alterRow 21 = .ok (.iaload, 1) := by decide +kernel
theorem dX12_alterRow_22 : decode cX12_alterRow 22 = .ok (.istore 4, 2) := by decide +kernel
theorem dX12_alterRow_24 : decode cX12_alterRow 24 = .ok (.aload_n 0, 1) := by decide +kernel
theorem dX12_alterRow_25 : decode cX12_alterRow 25 = .ok (.getfield 31, 3) := by decide +kernel
theorem dX12_alterRow_28 : decode cX12_alterRow 28 = .ok (.iconst 3, 1) := by decide +kernel
theorem dX12_alterRow_29 : decode cX12_alterRow 29 = .ok (.iload_n 1, 1) := by decide +kernel
theorem dX12_alterRow_30 : decode cX12_alterRow 30 = .ok (.imul, 1) := by decide +kernel
theorem dX12_alterRow_31 : decode cX12_alterRow 31 = .ok (.iload_n 2, 1) := by decide +kernel
theorem dX12_alterRow_32 : decode cX12_alterRow 32 = .ok (.iadd, 1) := by decide +kernel
theorem dX12_alterRow_33 : decode cX12_alterRow 33 = .ok (.iload_n 3, 1) := by decide +kernel
theorem dX12_alterRow_34 : decode cX12_alterRow 34 = .ok (.iastore, 1) := by decide +kernel
theorem dX12_alterRow_35 : decode cX12_alterRow 35 = .ok (.iload 4, 2) := by decide +kernel
theorem dX12_alterRow_37 : decode cX12_alterRow 37 = .ok (.ireturn, 1) := by decide +kernel
theorem dX12_isAct_0 : decode cX12_isAct 0 = .ok (.iload_n 1, 1) := by decide +kernel
theorem dX12_isAct_1 : decode cX12_isAct 1 = .ok (.i2l, 1) := by decide +kernel
theorem dX12_isAct_2 : decode cX12_isAct 2 = .ok (.lconst 0, 1) := by decide +kernel
theorem dX12_isAct_3 : decode cX12_isAct 3 = .ok (.aload_n 0, 1) := by decide +kernel
theorem dX12_isAct_4 : decode cX12_isAct 4 = .ok (.getfield 7, 3) := by decide +kernel
theorem dX12_isAct_7 : decode cX12_isAct 7 = .ok (.iconst 0, 1) := by decide +kernel
theorem dX12_isAct_8 : decode cX12_isAct 8 = .ok (.iaload, 1) := by decide +kernel
theorem dX12_isAct_9 : decode cX12_isAct 9 = .ok (.i2l, 1) := by decide +kernel
theorem dX12_isAct_10 : decode cX12_isAct 10 = .ok (.invokestatic 57, 3) := by decide +kernel
theorem dX12_isAct_13 : decode cX12_isAct 13 = .ok (.ireturn, 1) := by decide +kernel
theorem dX12_judge_0 : decode cX12_judge 0 = .ok (.aload_n 0, 1) := by decide +kernel
theorem dX12_judge_1 : decode cX12_judge 1 = .ok (.iconst 0, 1) := by decide +kernel
theorem dX12_judge_2 : decode cX12_judge 2 = .ok (.invokevirtual 227, 3) := by decide +kernel
theorem dX12_judge_5 : decode cX12_judge 5 = .ok (.iconst 0, 1) := by decide +kernel
theorem dX12_judge_6 : decode cX12_judge 6 = .ok (.istore_n 1, 1) := by decide +kernel
theorem dX12_judge_7 : decode cX12_judge 7 = .ok (.iconst 1, 1) := by decide +kernel
theorem dX12_judge_8 : decode cX12_judge 8 = .ok (.istore_n 2, 1) := by decide +kernel
theorem dX12_judge_9 : decode cX12_judge 9 = .ok (.iload_n 1, 1) := by decide +kernel
theorem dX12_judge_10 : decode cX12_judge 10 = .ok (.aload_n 0, 1) := by decide +kernel
theorem dX12_judge_11 : decode cX12_judge 11 = .ok (.getfield 313, 3) := by decide +kernel
theorem dX12_judge_14 : decode cX12_judge 14 = .ok (.if_icmp .ge 83, 3) := by decide +kernel
theorem dX12_judge_17 : decode cX12_judge 17 = .ok (.iload_n 2, 1) := by decide +kernel
theorem dX12_judge_18 : decode cX12_judge 18 = .ok (.ifCond .eq 79, 3) := by decide +kernel
theorem dX12_judge_21 : decode cX12_judge 21 = .ok (.aload_n 0, 1) := by decide +kernel
theorem dX12_judge_22 : decode cX12_judge 22 = .ok (.aload_n 0, 1) := by decide +kernel
theorem dX12_judge_23 : decode cX12_judge 23 = .ok (.getfield 31, 3) := by decide +kernel
theorem dX12_judge_26 : decode cX12_judge 26 = .ok (.iconst 3, 1) := by decide +kernel
theorem dX12_judge_27 : decode cX12_judge 27 = .ok (.iload_n 1, 1) := by decide +kernel
theorem dX12_judge_28 : decode cX12_judge 28 = .ok (.imul, 1) := by decide +kernel
theorem dX12_judge_29 : decode cX12_judge 29 = .ok (.iaload, 1) := by decide +kernel
theorem dX12_judge_30 : decode cX12_judge 30 = .ok (.invokevirtual 319, 3) := by decide +kernel
theorem dX12_judge_33 : decode cX12_judge 33 = .ok (.ifCond .eq 56, 3) := by decide +kernel
theorem dX12_judge_36 : decode cX12_judge 36 = .ok (.aload_n 0, 1) := by decide +kernel
theorem dX12_judge_37 : decode cX12_judge 37 = .ok (.invokevirtual 115, 3) := by decide +kernel
theorem dX12_judge_40 : decode cX12_judge 40 = .ok (.ifCond .ne 49, 3) := by decide +kernel
theorem dX12_judge_43 : decode cX12_judge 43 = .ok (.aload_n 0, 1) := by decide +kernel
theorem dX12_judge_44 : decode cX12_judge 44 = .ok (.aload_n 0, 1) := by decide +kernel
theorem dX12_judge_45 : decode cX12_judge 45 = .ok (.getfield 31, 3) := by decide +kernel
theorem dX12_judge_48 : decode cX12_judge 48 = .ok (.iconst 3, 1) := by decide +kernel
theorem dX12_judge_49 : decode cX12_judge 49 = .ok (.iload_n 1, 1) := by decide +kernel
theorem dX12_judge_50 : decode cX12_judge 50 = .ok (.imul, 1) := by decide +kernel
theorem dX12_judge_51 : decode cX12_judge 51 = .ok (.iaload, 1) := by decide +kernel
theorem dX12_judge_52 : decode cX12_judge 52 = .ok (.invokevirtual 224, 3) := by decide +kernel
theorem dX12_judge_55 : decode cX12_judge 55 = .ok (.aload_n 0, 1) := by decide +kernel
theorem dX12_judge_56 : decode cX12_judge 56 = .ok (.getfield 31, 3) := by decide +kernel
theorem dX12_judge_59 : decode cX12_judge 59 = .ok (.iconst 3, 1) := by decide +kernel
theorem dX12_judge_60 : decode cX12_judge 60 = .ok (.iload_n 1, 1) := by decide +kernel
theorem dX12_judge_61 : decode cX12_judge 61 = .ok (.imul, 1) := by decide +kernel
theorem dX12_judge_62 : decode cX12_judge 62 = .ok (.iconst 1, 1) := by decide +kernel
theorem dX12_judge_63 : decode cX12_judge 63 = .ok (.iadd, 1) := by decide +kernel
theorem dX12_judge_64 : decode cX12_judge 64 = .ok (.iaload, 1) := by decide +kernel
theorem dX12_judge_65 : decode cX12_judge 65 = .ok (.if_icmp .ne 24, 3) := by decide +kernel
theorem dX12_judge_68 : decode cX12_judge 68 = .ok (.aload_n 0, 1) := by decide +kernel
theorem dX12_judge_69 : decode cX12_judge 69 = .ok (.invokevirtual 119, 3) := by decide +kernel
theorem dX12_judge_72 : decode cX12_judge 72 = .ok (.aload_n 0, 1) := by decide +kernel
theorem dX12_judge_73 : decode cX12_judge 73 = .ok (.getfield 31, 3) := by decide +kernel
theorem dX12_judge_76 : decode cX12_judge 76 = .ok (.iconst 3, 1) := by decide +kernel
theorem dX12_judge_77 : decode cX12_judge 77 = .ok (.iload_n 1, 1) := by decide +kernel
theorem dX12_judge_78 : decode cX12_judge 78 = .ok (.imul, 1) := by decide +kernel
theorem dX12_judge_79 : decode cX12_judge 79 = .ok (.iconst 2, 1) := by decide +kernel
theorem dX12_judge_80 : decode cX12_judge 80 = .ok (.iadd, 1) := by decide +kernel
theorem dX12_judge_81 : decode cX12_judge 81 = .ok (.iaload, 1) := by decide +kernel
theorem dX12_judge_82 : decode cX12_judge 82 = .ok (.if_icmp .ne 7, 3) := by decide +kernel
theorem dX12_judge_85 : decode cX12_judge 85 = .ok (.iconst 1, 1) := by decide +kernel
theorem dX12_judge_86 : decode cX12_judge 86 = .ok (.goto 4, 3) := by decide +kernel
theorem dX12_judge_89 : decode cX12_judge 89 = .ok (.iconst 0, 1) := by decide +kernel
theorem dX12_judge_90 : decode cX12_judge 90 = .ok (.istore_n 2, 1) := by decide +kernel
theorem dX12_judge_91 : decode cX12_judge 91 = .ok (.iinc 1 1, 3) := by decide +kernel
theorem dX12_judge_94 : decode cX12_judge 94 = .ok (.goto (-85), 3) := by decide +kernel
theorem dX12_judge_97 : decode cX12_judge 97 = .ok (.aload_n 0, 1) := by decide +kernel
theorem dX12_judge_98 : decode cX12_judge 98 = .ok (.iconst 0, 1) := by decide +kernel
theorem dX12_judge_99 : decode cX12_judge 99 = .ok (.invokevirtual 231, 3) := by decide +kernel
theorem dX12_judge_102 : decode cX12_judge 102 = .ok (.iload_n 2, 1) := by decide +kernel
theorem dX12_judge_103 : decode cX12_judge 103 = .ok (.ifCond .eq 7, 3) := by decide +kernel
theorem dX12_judge_106 : decode cX12_judge 106 = .ok (.iconst 0, 1) := by decide +kernel
theorem dX12_judge_107 : decode cX12_judge 107 = .ok (.goto 4, 3) := by decide +kernel
theorem dX12_judge_110 : decode cX12_judge 110 = .ok (.iload_n 1, 1) := by decide +kernel
theorem dX12_judge_111 : decode cX12_judge 111 = .ok (.ireturn, 1) := by decide +kernel
theorem dX12_isSheet_0 : decode cX12_isSheet 0 = .ok (.iload_n 0, 1) := by decide +kernel
theorem dX12_isSheet_1 : decode cX12_isSheet 1 = .ok (.i2l, 1) := by decide +kernel
theorem dX12_isSheet_2 : decode cX12_isSheet 2 = .ok (.lconst 0, 1) := by decide +kernel
theorem dX12_isSheet_3 : decode cX12_isSheet 3 = .ok (.ldc2_w 283, 3) := by decide +kernel
theorem dX12_isSheet_6 : decode cX12_isSheet 6 = .ok (.invokestatic 57, 3) := by decide +kernel
theorem dX12_isSheet_9 : decode cX12_isSheet 9 = .ok (.ireturn, 1) := by decide +kernel
theorem dX12_isShelf_0 : decode cX12_isShelf 0 = .ok (.iload_n 0, 1) := by decide +kernel
theorem dX12_isShelf_1 : decode cX12_isShelf 1 = .ok (.i2l, 1) := by decide +kernel
theorem dX12_isShelf_2 : decode cX12_isShelf 2 = .ok (.lconst 0, 1) := by decide +kernel
theorem dX12_isShelf_3 : decode cX12_isShelf 3 = .ok (.ldc2_w 283, 3) := by decide +kernel
theorem dX12_isShelf_6 : decode cX12_isShelf 6 = .ok (.invokestatic 57, 3) := by decide +kernel
theorem dX12_isShelf_9 : decode cX12_isShelf 9 = .ok (.ireturn, 1) := by decide +kernel
theorem dX12_sheet_0 : decode cX12_sheet 0 = .ok (.iload_n 1, 1) := by decide +kernel
theorem dX12_sheet_1 : decode cX12_sheet 1 = .ok (.invokestatic 322, 3) := by decide +kernel
theorem dX12_sheet_4 : decode cX12_sheet 4 = .ok (.ifCond .eq 27, 3) := by decide +kernel
theorem dX12_sheet_7 : decode cX12_sheet 7 = .ok (.iload_n 2, 1) := by decide +kernel
theorem dX12_sheet_8 : decode cX12_sheet 8 = .ok (.i2l, 1) := by decide +kernel
theorem dX12_sheet_9 : decode cX12_sheet 9 = .ok (.ldc2_w 325, 3) := by decide +kernel
theorem dX12_sheet_12 : decode cX12_sheet 12 = .ok (.ldc2_w 106, 3) := by decide +kernel
theorem dX12_sheet_15 : decode cX12_sheet 15 = .ok (.invokestatic 57, 3) := by decide +kernel
theorem dX12_sheet_18 : decode cX12_sheet 18 = .ok (.ifCond .eq 13, 3) := by decide +kernel
theorem dX12_sheet_21 : decode cX12_sheet 21 = .ok (.iload_n 2, 1) := by decide +kernel
theorem dX12_sheet_22 : decode cX12_sheet 22 = .ok (.ifCond .lt 11, 3) := by decide +kernel
theorem dX12_sheet_25 : decode cX12_sheet 25 = .ok (.iload_n 3, 1) := by decide +kernel
theorem dX12_sheet_26 : decode cX12_sheet 26 = .ok (.bipush 40, 2) := by decide +kernel
theorem dX12_sheet_28 : decode cX12_sheet 28 = .ok (.if_icmp .le 5, 3) := by decide +kernel
theorem dX12_sheet_31 : decode cX12_sheet 31 = .ok (.iconst (-1), 1) := by decide +kernel
theorem dX12_sheet_32 : decode cX12_sheet 32 = .ok (.ireturn, 1) := by decide +kernel
theorem dX12_sheet_33 : decode cX12_sheet 33 = .ok (.iload_n 2, 1) := by decide +kernel
theorem dX12_sheet_34 : decode cX12_sheet 34 = .ok (.ifCond .lt 10, 3) := by decide +kernel
theorem dX12_sheet_37 : decode cX12_sheet 37 = .ok (.iload_n 3, 1) := by decide +kernel
theorem dX12_sheet_38 : decode cX12_sheet 38 = .ok (.ifCond .ge 6, 3) := by decide +kernel
theorem dX12_sheet_41 : decode cX12_sheet 41 = .ok (.bipush (-14), 2) := by decide +kernel
theorem dX12_sheet_43 : decode cX12_sheet 43 = .ok (.ireturn, 1) := by decide +kernel
theorem dX12_sheet_44 : decode cX12_sheet 44 = .ok (.aload_n 0, 1) := by decide +kernel
theorem dX12_sheet_45 : decode cX12_sheet 45 = .ok (.getfield 34, 3) := by decide +kernel
theorem dX12_sheet_48 : decode cX12_sheet 48 = .ok (.iload_n 1, 1) := by decide +kernel
theorem dX12_sheet_49 : decode cX12_sheet 49 = .ok (.iload_n 2, 1) := by decide +kernel
theorem dX12_sheet_50 : decode cX12_sheet 50 = .ok (.iastore, 1) := by decide +kernel
theorem dX12_sheet_51 : decode cX12_sheet 51 = .ok (.aload_n 0, 1) := by decide +kernel
theorem dX12_sheet_52 : decode cX12_sheet 52 = .ok (.getfield 37, 3) := by decide +kernel
theorem dX12_sheet_55 : decode cX12_sheet 55 = .ok (.iload_n 1, 1) := by decide +kernel
theorem dX12_sheet_56 : decode cX12_sheet 56 = .ok (.iload_n 2, 1) := by decide +kernel
theorem dX12_sheet_57 : decode cX12_sheet 57 = .ok (.ifCond .ge 7, 3) := by decide +kernel
theorem dX12_sheet_60 : decode cX12_sheet 60 = .ok (.iconst 0, 1) := by decide +kernel
theorem dX12_sheet_61 : decode cX12_sheet 61 = .ok (.goto 4, 3) := by decide +kernel
theorem dX12_sheet_64 : decode cX12_sheet 64 = .ok (.iload_n 3, 1) := by decide +kernel
theorem dX12_sheet_65 : decode cX12_sheet 65 = .ok (.iastore, 1) := by decide +kernel
theorem dX12_sheet_66 : decode cX12_sheet 66 = .ok (.iconst 0, 1) := by decide +kernel
theorem dX12_sheet_67 : decode cX12_sheet 67 = .ok (.istore 4, 2) := by decide +kernel
theorem dX12_sheet_69 : decode cX12_sheet 69 = .ok (.iload 4, 2) := by decide +kernel
theorem dX12_sheet_71 : decode cX12_sheet 71 = .ok (.bipush 40, 2) := by decide +kernel
theorem dX12_sheet_73 : decode cX12_sheet 73 = .ok (.if_icmp .ge 22, 3) := by decide +kernel
theorem dX12_sheet_76 : decode cX12_sheet 76 = .ok (.aload_n 0, 1) := by decide +kernel
theorem dX12_sheet_77 : decode cX12_sheet 77 = .ok (.getfield 40, 3) := by decide +kernel
theorem dX12_sheet_80 : decode cX12_sheet 80 = .ok (.bipush 40, 2) := by decide +kernel
theorem dX12_sheet_82 : decode cX12_sheet 82 = .ok (.iload_n 1, 1) := by decide +kernel
theorem dX12_sheet_83 : decode cX12_sheet 83 = .ok (.imul, 1) := by decide +kernel
theorem dX12_sheet_84 : decode cX12_sheet 84 = .ok (.iload 4, 2) := by decide +kernel
theorem dX12_sheet_86 : decode cX12_sheet 86 = .ok (.iadd, 1) := by decide +kernel
theorem dX12_sheet_87 : decode cX12_sheet 87 = .ok (.iconst 0, 1) := by decide +kernel
theorem dX12_sheet_88 : decode cX12_sheet 88 = .ok (.iastore, 1) := by decide +kernel
theorem dX12_sheet_89 : decode cX12_sheet 89 = .ok (.iinc 4 1, 3) := by decide +kernel
theorem dX12_sheet_92 : decode cX12_sheet 92 = .ok (.goto (-23), 3) := by decide +kernel
theorem dX12_sheet_95 : decode cX12_sheet 95 = .ok (.iconst 1, 1) := by decide +kernel
theorem dX12_sheet_96 : decode cX12_sheet 96 = .ok (.ireturn, 1) := by decide +kernel
theorem dX12_write_0 : decode cX12_write 0 = .ok (.iload_n 1, 1) := by decide +kernel
theorem dX12_write_1 : decode cX12_write 1 = .ok (.invokestatic 322, 3) := by decide +kernel
theorem dX12_write_4 : decode cX12_write 4 = .ok (.ifCond .ne 5, 3) := by decide +kernel
theorem dX12_write_7 : decode cX12_write 7 = .ok (.iconst (-1), 1) := by decide +kernel
theorem dX12_write_8 : decode cX12_write 8 = .ok (.ireturn, 1) := by decide +kernel
theorem dX12_write_9 : decode cX12_write 9 = .ok (.aload_n 0, 1) := by decide +kernel
theorem dX12_write_10 : decode cX12_write 10 = .ok (.getfield 34, 3) := by decide +kernel
theorem dX12_write_13 : decode cX12_write 13 = .ok (.iload_n 1, 1) := by decide +kernel
theorem dX12_write_14 : decode cX12_write 14 = .ok (.iaload, 1) := by decide +kernel
theorem dX12_write_15 : decode cX12_write 15 = .ok (.ifCond .ge 6, 3) := by decide +kernel
theorem dX12_write_18 : decode cX12_write 18 = .ok (.bipush (-11), 2) := by decide +kernel
theorem dX12_write_20 : decode cX12_write 20 = .ok (.ireturn, 1) := by decide +kernel
theorem dX12_write_21 : decode cX12_write 21 = .ok (.iload_n 2, 1) := by decide +kernel
theorem dX12_write_22 : decode cX12_write 22 = .ok (.i2l, 1) := by decide +kernel
theorem dX12_write_23 : decode cX12_write 23 = .ok (.lconst 0, 1) := by decide +kernel
theorem dX12_write_24 : decode cX12_write 24 = .ok (.aload_n 0, 1) := by decide +kernel
theorem dX12_write_25 : decode cX12_write 25 = .ok (.getfield 37, 3) := by decide +kernel
theorem dX12_write_28 : decode cX12_write 28 = .ok (.iload_n 1, 1) := by decide +kernel
theorem dX12_write_29 : decode cX12_write 29 = .ok (.iaload, 1) := by decide +kernel
theorem dX12_write_30 : decode cX12_write 30 = .ok (.iconst 1, 1) := by decide +kernel
theorem dX12_write_31 : decode cX12_write 31 = .ok (.isub, 1) := by decide +kernel
theorem dX12_write_32 : decode cX12_write 32 = .ok (.i2l, 1) := by decide +kernel
theorem dX12_write_33 : decode cX12_write 33 = .ok (.invokestatic 57, 3) := by decide +kernel
theorem dX12_write_36 : decode cX12_write 36 = .ok (.ifCond .ne 6, 3) := by decide +kernel
theorem dX12_write_39 : decode cX12_write 39 = .ok (.bipush (-12), 2) := by decide +kernel
theorem dX12_write_41 : decode cX12_write 41 = .ok (.ireturn, 1) := by decide +kernel
theorem dX12_write_42 : decode cX12_write 42 = .ok (.aload_n 0, 1) := by decide +kernel
theorem dX12_write_43 : decode cX12_write 43 = .ok (.getfield 40, 3) := by decide +kernel
theorem dX12_write_46 : decode cX12_write 46 = .ok (.bipush 40, 2) := by decide +kernel
theorem dX12_write_48 : decode cX12_write 48 = .ok (.iload_n 1, 1) := by decide +kernel
theorem dX12_write_49 : decode cX12_write 49 = .ok (.imul, 1) := by decide +kernel
theorem dX12_write_50 : decode cX12_write 50 = .ok (.iload_n 2, 1) := by decide +kernel
theorem dX12_write_51 : decode cX12_write 51 = .ok (.iadd, 1) := by decide +kernel
theorem dX12_write_52 : decode cX12_write 52 = .ok (.aload_n 0, 1) := by decide +kernel
theorem dX12_write_53 : decode cX12_write 53 = .ok (.getfield 34, 3) := by decide +kernel
theorem dX12_write_56 : decode cX12_write 56 = .ok (.iload_n 1, 1) := by decide +kernel
theorem dX12_write_57 : decode cX12_write 57 = .ok (.iaload, 1) := by decide +kernel
theorem dX12_write_58 : decode cX12_write 58 = .ok (.ifCond .ne 8, 3) := by decide +kernel
theorem dX12_write_61 : decode cX12_write 61 = .ok (.iload_n 3, 1) := by decide +kernel
theorem dX12_write_62 : decode cX12_write 62 = .ok (.i2b, 1) := by decide +kernel
theorem dX12_write_63 : decode cX12_write 63 = .ok (.goto 41, 3) := by decide +kernel
theorem dX12_write_66 : decode cX12_write 66 = .ok (.aload_n 0, 1) := by decide +kernel
theorem dX12_write_67 : decode cX12_write 67 = .ok (.getfield 34, 3) := by decide +kernel
theorem dX12_write_70 : decode cX12_write 70 = .ok (.iload_n 1, 1) := by decide +kernel
theorem dX12_write_71 : decode cX12_write 71 = .ok (.iaload, 1) := by decide +kernel
theorem dX12_write_72 : decode cX12_write 72 = .ok (.iconst 1, 1) := by decide +kernel
theorem dX12_write_73 : decode cX12_write 73 = .ok (.if_icmp .ne 8, 3) := by decide +kernel
theorem dX12_write_76 : decode cX12_write 76 = .ok (.iload_n 3, 1) := by decide +kernel
theorem dX12_write_77 : decode cX12_write 77 = .ok (.i2s, 1) := by decide +kernel
theorem dX12_write_78 : decode cX12_write 78 = .ok (.goto 26, 3) := by decide +kernel
theorem dX12_write_81 : decode cX12_write 81 = .ok (.aload_n 0, 1) := by decide +kernel
theorem dX12_write_82 : decode cX12_write 82 = .ok (.getfield 34, 3) := by decide +kernel
theorem dX12_write_85 : decode cX12_write 85 = .ok (.iload_n 1, 1) := by decide +kernel
theorem dX12_write_86 : decode cX12_write 86 = .ok (.iaload, 1) := by decide +kernel
theorem dX12_write_87 : decode cX12_write 87 = .ok (.iconst 4, 1) := by decide +kernel
theorem dX12_write_88 : decode cX12_write 88 = .ok (.if_icmp .ne 15, 3) := by decide +kernel
theorem dX12_write_91 : decode cX12_write 91 = .ok (.iload_n 3, 1) := by decide +kernel
theorem dX12_write_92 : decode cX12_write 92 = .ok (.ifCond .ne 7, 3) := by decide +kernel
theorem dX12_write_95 : decode cX12_write 95 = .ok (.iconst 0, 1) := by decide +kernel
theorem dX12_write_96 : decode cX12_write 96 = .ok (.goto 8, 3) := by decide +kernel
theorem dX12_write_99 : decode cX12_write 99 = .ok (.iconst 1, 1) := by decide +kernel
theorem dX12_write_100 : decode cX12_write 100 = .ok (.goto 4, 3) := by decide +kernel
theorem dX12_write_103 : decode cX12_write 103 = .ok (.iload_n 3, 1) := by decide +kernel
theorem dX12_write_104 : decode cX12_write 104 = .ok (.iastore, 1) := by decide +kernel
theorem dX12_write_105 : decode cX12_write 105 = .ok (.iconst 1, 1) := by decide +kernel
theorem dX12_write_106 : decode cX12_write 106 = .ok (.ireturn, 1) := by decide +kernel
theorem dX12_lacks_0 : decode cX12_lacks 0 = .ok (.aload_n 0, 1) := by decide +kernel
theorem dX12_lacks_1 : decode cX12_lacks 1 = .ok (.getfield 34, 3) := by decide +kernel
theorem dX12_lacks_4 : decode cX12_lacks 4 = .ok (.iload_n 1, 1) := by decide +kernel
theorem dX12_lacks_5 : decode cX12_lacks 5 = .ok (.iaload, 1) := by decide +kernel
theorem dX12_lacks_6 : decode cX12_lacks 6 = .ok (.ifCond .ge 8, 3) := by decide +kernel
theorem dX12_lacks_9 : decode cX12_lacks 9 = .ok (.bipush (-11), 2) := by decide +kernel
theorem dX12_lacks_11 : decode cX12_lacks 11 = .ok (.goto 19, 3) := by decide +kernel
theorem dX12_lacks_14 : decode cX12_lacks 14 = .ok (.aload_n 0, 1) := by decide +kernel
theorem dX12_lacks_15 : decode cX12_lacks 15 = .ok (.getfield 34, 3) := by decide +kernel
theorem dX12_lacks_18 : decode cX12_lacks 18 = .ok (.iload_n 1, 1) := by decide +kernel
theorem dX12_lacks_19 : decode cX12_lacks 19 = .ok (.iaload, 1) := by decide +kernel
theorem dX12_lacks_20 : decode cX12_lacks 20 = .ok (.iload_n 2, 1) := by decide +kernel
theorem dX12_lacks_21 : decode cX12_lacks 21 = .ok (.if_icmp .eq 8, 3) := by decide +kernel
theorem dX12_lacks_24 : decode cX12_lacks 24 = .ok (.bipush (-13), 2) := by decide +kernel
theorem dX12_lacks_26 : decode cX12_lacks 26 = .ok (.goto 4, 3) := by decide +kernel
theorem dX12_lacks_29 : decode cX12_lacks 29 = .ok (.iconst 0, 1) := by decide +kernel
theorem dX12_lacks_30 : decode cX12_lacks 30 = .ok (.ireturn, 1) := by decide +kernel
theorem dX12_item_0 : decode cX12_item 0 = .ok (.iload_n 1, 1) := by decide +kernel
theorem dX12_item_1 : decode cX12_item 1 = .ok (.invokestatic 322, 3) := by decide +kernel
theorem dX12_item_4 : decode cX12_item 4 = .ok (.ifCond .eq 15, 3) := by decide +kernel
theorem dX12_item_7 : decode cX12_item 7 = .ok (.iload_n 2, 1) := by decide +kernel
theorem dX12_item_8 : decode cX12_item 8 = .ok (.i2l, 1) := by decide +kernel
theorem dX12_item_9 : decode cX12_item 9 = .ok (.lconst 0, 1) := by decide +kernel
theorem dX12_item_10 : decode cX12_item 10 = .ok (.ldc2_w 106, 3) := by decide +kernel
theorem dX12_item_13 : decode cX12_item 13 = .ok (.invokestatic 57, 3) := by decide +kernel
theorem dX12_item_16 : decode cX12_item 16 = .ok (.ifCond .ne 5, 3) := by decide +kernel
theorem dX12_item_19 : decode cX12_item 19 = .ok (.iconst (-1), 1) := by decide +kernel
theorem dX12_item_20 : decode cX12_item 20 = .ok (.ireturn, 1) := by decide +kernel
theorem dX12_item_21 : decode cX12_item 21 = .ok (.aload_n 0, 1) := by decide +kernel
theorem dX12_item_22 : decode cX12_item 22 = .ok (.iload_n 1, 1) := by decide +kernel
theorem dX12_item_23 : decode cX12_item 23 = .ok (.iload_n 2, 1) := by decide +kernel
theorem dX12_item_24 : decode cX12_item 24 = .ok (.invokevirtual 327, 3) := by decide +kernel
theorem dX12_item_27 : decode cX12_item 27 = .ok (.ifCond .eq 10, 3) := by decide +kernel
theorem dX12_item_30 : decode cX12_item 30 = .ok (.aload_n 0, 1) := by decide +kernel
theorem dX12_item_31 : decode cX12_item 31 = .ok (.iload_n 1, 1) := by decide +kernel
theorem dX12_item_32 : decode cX12_item 32 = .ok (.iload_n 2, 1) := by decide +kernel
theorem dX12_item_33 : decode cX12_item 33 = .ok (.invokevirtual 327, 3) := by decide +kernel
theorem dX12_item_36 : decode cX12_item 36 = .ok (.ireturn, 1) := by decide +kernel
theorem dX12_item_37 : decode cX12_item 37 = .ok (.iload_n 3, 1) := by decide +kernel
theorem dX12_item_38 : decode cX12_item 38 = .ok (.i2l, 1) := by decide +kernel
theorem dX12_item_39 : decode cX12_item 39 = .ok (.lconst 0, 1) := by decide +kernel
theorem dX12_item_40 : decode cX12_item 40 = .ok (.aload_n 0, 1) := by decide +kernel
theorem dX12_item_41 : decode cX12_item 41 = .ok (.getfield 37, 3) := by decide +kernel
theorem dX12_item_44 : decode cX12_item 44 = .ok (.iload_n 1, 1) := by decide +kernel
theorem dX12_item_45 : decode cX12_item 45 = .ok (.iaload, 1) := by decide +kernel
theorem dX12_item_46 : decode cX12_item 46 = .ok (.iconst 1, 1) := by decide +kernel
theorem dX12_item_47 : decode cX12_item 47 = .ok (.isub, 1) := by decide +kernel
theorem dX12_item_48 : decode cX12_item 48 = .ok (.i2l, 1) := by decide +kernel
theorem dX12_item_49 : decode cX12_item 49 = .ok (.invokestatic 57, 3) := by decide +kernel
theorem dX12_item_52 : decode cX12_item 52 = .ok (.ifCond .eq 17, 3) := by decide +kernel
theorem dX12_item_55 : decode cX12_item 55 = .ok (.aload_n 0, 1) := by decide +kernel
theorem dX12_item_56 : decode cX12_item 56 = .ok (.getfield 40, 3) := by decide +kernel
theorem dX12_item_59 : decode cX12_item 59 = .ok (.bipush 40, 2) := by decide +kernel
theorem dX12_item_61 : decode cX12_item 61 = .ok (.iload_n 1, 1) := by decide +kernel
theorem dX12_item_62 : decode cX12_item 62 = .ok (.imul, 1) := by decide +kernel
theorem dX12_item_63 : decode cX12_item 63 = .ok (.iload_n 3, 1) := by decide +kernel
theorem dX12_item_64 : decode cX12_item 64 = .ok (.iadd, 1) := by decide +kernel
theorem dX12_item_65 : decode cX12_item 65 = .ok (.iaload, 1) := by decide +kernel
theorem dX12_item_66 : decode cX12_item 66 = .ok (.goto 5, 3) := by decide +kernel
theorem dX12_item_69 : decode cX12_item 69 = .ok (.bipush (-12), 2) := by decide +kernel
theorem dX12_item_71 : decode cX12_item 71 = .ok (.ireturn, 1) := by decide +kernel
theorem dX12_goAll_0 : decode cX12_goAll 0 = .ok (.iload_n 1, 1) := by decide +kernel
theorem dX12_goAll_1 : decode cX12_goAll 1 = .ok (.invokestatic 322, 3) := by decide +kernel
theorem dX12_goAll_4 : decode cX12_goAll 4 = .ok (.ifCond .eq 15, 3) := by decide +kernel
theorem dX12_goAll_7 : decode cX12_goAll 7 = .ok (.iload_n 3, 1) := by decide +kernel
theorem dX12_goAll_8 : decode cX12_goAll 8 = .ok (.i2l, 1) := by decide +kernel
theorem dX12_goAll_9 : decode cX12_goAll 9 = .ok (.lconst 0, 1) := by decide +kernel
theorem dX12_goAll_10 : decode cX12_goAll 10 = .ok (.ldc2_w 330, 3) := by decide +kernel
theorem dX12_goAll_13 : decode cX12_goAll 13 = .ok (.invokestatic 57, 3) := by decide +kernel
theorem dX12_goAll_16 : decode cX12_goAll 16 = .ok (.ifCond .ne 5, 3) := by decide +kernel
theorem dX12_goAll_19 : decode cX12_goAll 19 = .ok (.iconst (-1), 1) := by decide +kernel
theorem dX12_goAll_20 : decode cX12_goAll 20 = .ok (.ireturn, 1) := by decide +kernel
theorem dX12_goAll_21 : decode cX12_goAll 21 = .ok (.aload_n 0, 1) := by decide +kernel
theorem dX12_goAll_22 : decode cX12_goAll 22 = .ok (.iload_n 1, 1) := by decide +kernel
theorem dX12_goAll_23 : decode cX12_goAll 23 = .ok (.iconst 0, 1) := by decide +kernel
theorem dX12_goAll_24 : decode cX12_goAll 24 = .ok (.invokevirtual 327, 3) := by decide +kernel
theorem dX12_goAll_27 : decode cX12_goAll 27 = .ok (.ifCond .eq 10, 3) := by decide +kernel
theorem dX12_goAll_30 : decode cX12_goAll 30 = .ok (.aload_n 0, 1) := by decide +kernel
theorem dX12_goAll_31 : decode cX12_goAll 31 = .ok (.iload_n 1, 1) := by decide +kernel
theorem dX12_goAll_32 : decode cX12_goAll 32 = .ok (.iconst 0, 1) := by decide +kernel
theorem dX12_goAll_33 : decode cX12_goAll 33 = .ok (.invokevirtual 327, 3) := by decide +kernel
theorem dX12_goAll_36 : decode cX12_goAll 36 = .ok (.ireturn, 1) := by decide +kernel
theorem dX12_goAll_37 : decode cX12_goAll 37 = .ok (.iconst 0, 1) := by decide +kernel
theorem dX12_goAll_38 : decode cX12_goAll 38 = .ok (.istore 4, 2) := by decide +kernel
theorem dX12_goAll_40 : decode cX12_goAll 40 = .ok (.iconst 0, 1) := by decide +kernel
theorem dX12_goAll_41 : decode cX12_goAll 41 = .ok (.istore 5, 2) := by decide +kernel
theorem dX12_goAll_43 : decode cX12_goAll 43 = .ok (.iload 5, 2) := by decide +kernel
theorem dX12_goAll_45 : decode cX12_goAll 45 = .ok (.iload_n 3, 1) := by decide +kernel
theorem dX12_goAll_46 : decode cX12_goAll 46 = .ok (.if_icmp .ge 81, 3) := by decide +kernel
theorem dX12_goAll_49 : decode cX12_goAll 49 = .ok (.iload_n 2, 1) := by decide +kernel
theorem dX12_goAll_50 : decode cX12_goAll 50 = .ok (.i2l, 1) := by decide +kernel
theorem dX12_goAll_51 : decode cX12_goAll 51 = .ok (.iload 5, 2) := by decide +kernel
theorem dX12_goAll_53 : decode cX12_goAll 53 = .ok (.i2l, 1) := by decide +kernel
theorem dX12_goAll_54 : decode cX12_goAll 54 = .ok (.ladd, 1) := by decide +kernel
theorem dX12_goAll_55 : decode cX12_goAll 55 = .ok (.lconst 0, 1) := by decide +kernel
theorem dX12_goAll_56 : decode cX12_goAll 56 = .ok (.aload_n 0, 1) := by decide +kernel
theorem dX12_goAll_57 : decode cX12_goAll 57 = .ok (.getfield 37, 3) := by decide +kernel
theorem dX12_goAll_60 : decode cX12_goAll 60 = .ok (.iload_n 1, 1) := by decide +kernel
theorem dX12_goAll_61 : decode cX12_goAll 61 = .ok (.iaload, 1) := by decide +kernel
theorem dX12_goAll_62 : decode cX12_goAll 62 = .ok (.i2l, 1) := by decide +kernel
theorem dX12_goAll_63 : decode cX12_goAll 63 = .ok (.lconst 1, 1) := by decide +kernel
theorem dX12_goAll_64 : decode cX12_goAll 64 = .ok (.lsub, 1) := by decide +kernel
theorem dX12_goAll_65 : decode cX12_goAll 65 = .ok (.invokestatic 57, 3) := by decide +kernel
theorem dX12_goAll_68 : decode cX12_goAll 68 = .ok (.ifCond .ne 6, 3) := by decide +kernel
theorem dX12_goAll_71 : decode cX12_goAll 71 = .ok (.bipush (-12), 2) := by decide +kernel
theorem dX12_goAll_73 : decode cX12_goAll 73 = .ok (.ireturn, 1) := by decide +kernel
theorem dX12_goAll_74 : decode cX12_goAll 74 = .ok (.aload_n 0, 1) := by decide +kernel
theorem dX12_goAll_75 : decode cX12_goAll 75 = .ok (.getfield 40, 3) := by decide +kernel
theorem dX12_goAll_78 : decode cX12_goAll 78 = .ok (.bipush 40, 2) := by decide +kernel
theorem dX12_goAll_80 : decode cX12_goAll 80 = .ok (.iload_n 1, 1) := by decide +kernel
theorem dX12_goAll_81 : decode cX12_goAll 81 = .ok (.imul, 1) := by decide +kernel
theorem dX12_goAll_82 : decode cX12_goAll 82 = .ok (.iload_n 2, 1) := by decide +kernel
theorem dX12_goAll_83 : decode cX12_goAll 83 = .ok (.iadd, 1) := by decide +kernel
theorem dX12_goAll_84 : decode cX12_goAll 84 = .ok (.iload 5, 2) := by decide +kernel
theorem dX12_goAll_86 : decode cX12_goAll 86 = .ok (.iadd, 1) := by decide +kernel
theorem dX12_goAll_87 : decode cX12_goAll 87 = .ok (.iaload, 1) := by decide +kernel
theorem dX12_goAll_88 : decode cX12_goAll 88 = .ok (.istore 6, 2) := by decide +kernel
theorem dX12_goAll_90 : decode cX12_goAll 90 = .ok (.iload 4, 2) := by decide +kernel
theorem dX12_goAll_92 : decode cX12_goAll 92 = .ok (.aload_n 0, 1) := by decide +kernel
theorem dX12_goAll_93 : decode cX12_goAll 93 = .ok (.iload 6, 2) := by decide +kernel
theorem dX12_goAll_95 : decode cX12_goAll 95 = .ok (.invokevirtual 319, 3) := by decide +kernel
theorem dX12_goAll_98 : decode cX12_goAll 98 = .ok (.ifCond .eq 19, 3) := by decide +kernel
theorem dX12_goAll_101 : decode cX12_goAll 101 = .ok (.aload_n 0, 1) := by decide +kernel
theorem dX12_goAll_102 : decode cX12_goAll 102 = .ok (.invokevirtual 115, 3) := by decide +kernel
theorem dX12_goAll_105 : decode cX12_goAll 105 = .ok (.ifCond .ne 12, 3) := by decide +kernel
theorem dX12_goAll_108 : decode cX12_goAll 108 = .ok (.aload_n 0, 1) := by decide +kernel
theorem dX12_goAll_109 : decode cX12_goAll 109 = .ok (.iload 6, 2) := by decide +kernel
theorem dX12_goAll_111 : decode cX12_goAll 111 = .ok (.invokevirtual 224, 3) := by decide +kernel
theorem dX12_goAll_114 : decode cX12_goAll 114 = .ok (.goto 4, 3) := by decide +kernel
theorem dX12_goAll_117 : decode cX12_goAll 117 = .ok (.iconst 0, 1) := by decide +kernel
theorem dX12_goAll_118 : decode cX12_goAll 118 = .ok (.iadd, 1) := by decide +kernel
theorem dX12_goAll_119 : decode cX12_goAll 119 = .ok (.istore 4, 2) := by decide +kernel
theorem dX12_goAll_121 : decode cX12_goAll 121 = .ok (.iinc 5 1, 3) := by decide +kernel
theorem dX12_goAll_124 : decode cX12_goAll 124 = .ok (.goto (-81), 3) := by decide +kernel
theorem dX12_goAll_127 : decode cX12_goAll 127 = .ok (.iload 4, 2) := by decide +kernel
theorem dX12_goAll_129 : decode cX12_goAll 129 = .ok (.ireturn, 1) := by decide +kernel
theorem dX12_sumBy_0 : decode cX12_sumBy 0 = .ok (.iconst 0, 1) := by decide +kernel
theorem dX12_sumBy_1 : decode cX12_sumBy 1 = .ok (.istore 4, 2) := by decide +kernel
theorem dX12_sumBy_3 : decode cX12_sumBy 3 = .ok (.iconst 0, 1) := by decide +kernel
theorem dX12_sumBy_4 : decode cX12_sumBy 4 = .ok (.istore 5, 2) := by decide +kernel
theorem dX12_sumBy_6 : decode cX12_sumBy 6 = .ok (.iload 5, 2) := by decide +kernel
theorem dX12_sumBy_8 : decode cX12_sumBy 8 = .ok (.iload_n 3, 1) := by decide +kernel
theorem dX12_sumBy_9 : decode cX12_sumBy 9 = .ok (.if_icmp .ge 80, 3) := by decide +kernel
theorem dX12_sumBy_12 : decode cX12_sumBy 12 = .ok (.iload_n 2, 1) := by decide +kernel
theorem dX12_sumBy_13 : decode cX12_sumBy 13 = .ok (.i2l, 1) := by decide +kernel
theorem dX12_sumBy_14 : decode cX12_sumBy 14 = .ok (.iload 5, 2) := by decide +kernel
theorem dX12_sumBy_16 : decode cX12_sumBy 16 = .ok (.i2l, 1) := by decide +kernel
theorem dX12_sumBy_17 : decode cX12_sumBy 17 = .ok (.ladd, 1) := by decide +kernel
theorem dX12_sumBy_18 : decode cX12_sumBy 18 = .ok (.lconst 0, 1) := by decide +kernel
theorem dX12_sumBy_19 : decode cX12_sumBy 19 = .ok (.aload_n 0, 1) := by decide +kernel
theorem dX12_sumBy_20 : decode cX12_sumBy 20 = .ok (.getfield 37, 3) := by decide +kernel
theorem dX12_sumBy_23 : decode cX12_sumBy 23 = .ok (.iload_n 1, 1) := by decide +kernel
theorem dX12_sumBy_24 : decode cX12_sumBy 24 = .ok (.iaload, 1) := by decide +kernel
theorem dX12_sumBy_25 : decode cX12_sumBy 25 = .ok (.i2l, 1) := by decide +kernel
theorem dX12_sumBy_26 : decode cX12_sumBy 26 = .ok (.lconst 1, 1) := by decide +kernel
theorem dX12_sumBy_27 : decode cX12_sumBy 27 = .ok (.lsub, 1) := by decide +kernel
theorem dX12_sumBy_28 : decode cX12_sumBy 28 = .ok (.invokestatic 57, 3) := by decide +kernel
theorem dX12_sumBy_31 : decode cX12_sumBy 31 = .ok (.ifCond .ne 6, 3) := by decide +kernel
theorem dX12_sumBy_34 : decode cX12_sumBy 34 = .ok (.bipush (-12), 2) := by decide +kernel
theorem dX12_sumBy_36 : decode cX12_sumBy 36 = .ok (.ireturn, 1) := by decide +kernel
theorem dX12_sumBy_37 : decode cX12_sumBy 37 = .ok (.aload_n 0, 1) := by decide +kernel
theorem dX12_sumBy_38 : decode cX12_sumBy 38 = .ok (.getfield 40, 3) := by decide +kernel
theorem dX12_sumBy_41 : decode cX12_sumBy 41 = .ok (.bipush 40, 2) := by decide +kernel
theorem dX12_sumBy_43 : decode cX12_sumBy 43 = .ok (.iload_n 1, 1) := by decide +kernel
theorem dX12_sumBy_44 : decode cX12_sumBy 44 = .ok (.imul, 1) := by decide +kernel
theorem dX12_sumBy_45 : decode cX12_sumBy 45 = .ok (.iload_n 2, 1) := by decide +kernel
theorem dX12_sumBy_46 : decode cX12_sumBy 46 = .ok (.iadd, 1) := by decide +kernel
theorem dX12_sumBy_47 : decode cX12_sumBy 47 = .ok (.iload 5, 2) := by decide +kernel
theorem dX12_sumBy_49 : decode cX12_sumBy 49 = .ok (.iadd, 1) := by decide +kernel
theorem dX12_sumBy_50 : decode cX12_sumBy 50 = .ok (.iaload, 1) := by decide +kernel
theorem dX12_sumBy_51 : decode cX12_sumBy 51 = .ok (.istore 6, 2) := by decide +kernel
theorem dX12_sumBy_53 : decode cX12_sumBy 53 = .ok (.aload_n 0, 1) := by decide +kernel
theorem dX12_sumBy_54 : decode cX12_sumBy 54 = .ok (.iload 6, 2) := by decide +kernel
theorem dX12_sumBy_56 : decode cX12_sumBy 56 = .ok (.invokevirtual 319, 3) := by decide +kernel
theorem dX12_sumBy_59 : decode cX12_sumBy 59 = .ok (.ifCond .eq 10, 3) := by decide +kernel
theorem dX12_sumBy_62 : decode cX12_sumBy 62 = .ok (.aload_n 0, 1) := by decide +kernel
theorem dX12_sumBy_63 : decode cX12_sumBy 63 = .ok (.invokevirtual 115, 3) := by decide +kernel
theorem dX12_sumBy_66 : decode cX12_sumBy 66 = .ok (.ifCond .eq 6, 3) := by decide +kernel
theorem dX12_sumBy_69 : decode cX12_sumBy 69 = .ok (.bipush (-4), 2) := by decide +kernel
theorem dX12_sumBy_71 : decode cX12_sumBy 71 = .ok (.ireturn, 1) := by decide +kernel
theorem dX12_sumBy_72 : decode cX12_sumBy 72 = .ok (.iload 4, 2) := by decide +kernel
theorem dX12_sumBy_74 : decode cX12_sumBy 74 = .ok (.aload_n 0, 1) := by decide +kernel
theorem dX12_sumBy_75 : decode cX12_sumBy 75 = .ok (.iload 6, 2) := by decide +kernel
theorem dX12_sumBy_77 : decode cX12_sumBy 77 = .ok (.invokevirtual 224, 3) := by decide +kernel
theorem dX12_sumBy_80 : decode cX12_sumBy 80 = .ok (.iadd, 1) := by decide +kernel
theorem dX12_sumBy_81 : decode cX12_sumBy 81 = .ok (.istore 4, 2) := by decide +kernel
theorem dX12_sumBy_83 : decode cX12_sumBy 83 = .ok (.iinc 5 1, 3) := by decide +kernel
theorem dX12_sumBy_86 : decode cX12_sumBy 86 = .ok (.goto (-80), 3) := by decide +kernel
theorem dX12_sumBy_89 : decode cX12_sumBy 89 = .ok (.iload 4, 2) := by decide +kernel
theorem dX12_sumBy_91 : decode cX12_sumBy 91 = .ok (.ireturn, 1) := by decide +kernel
theorem dX12_wouldBe_0 : decode cX12_wouldBe 0 = .ok (.iload_n 1, 1) := by decide +kernel
theorem dX12_wouldBe_1 : decode cX12_wouldBe 1 = .ok (.invokestatic 322, 3) := by decide +kernel
theorem dX12_wouldBe_4 : decode cX12_wouldBe 4 = .ok (.ifCond .eq 15, 3) := by decide +kernel
theorem dX12_wouldBe_7 : decode cX12_wouldBe 7 = .ok (.iload_n 3, 1) := by decide +kernel
theorem dX12_wouldBe_8 : decode cX12_wouldBe 8 = .ok (.i2l, 1) := by decide +kernel
theorem dX12_wouldBe_9 : decode cX12_wouldBe 9 = .ok (.lconst 0, 1) := by decide +kernel
theorem dX12_wouldBe_10 : decode cX12_wouldBe 10 = .ok (.ldc2_w 330, 3) := by decide +kernel
theorem dX12_wouldBe_13 : decode cX12_wouldBe 13 = .ok (.invokestatic 57, 3) := by decide +kernel
theorem dX12_wouldBe_16 : decode cX12_wouldBe 16 = .ok (.ifCond .ne 5, 3) := by decide +kernel
theorem dX12_wouldBe_19 : decode cX12_wouldBe 19 = .ok (.iconst (-1), 1) := by decide +kernel
theorem dX12_wouldBe_20 : decode cX12_wouldBe 20 = .ok (.ireturn, 1) := by decide +kernel
theorem dX12_wouldBe_21 : decode cX12_wouldBe 21 = .ok (.aload_n 0, 1) := by decide +kernel
theorem dX12_wouldBe_22 : decode cX12_wouldBe 22 = .ok (.iload_n 1, 1) := by decide +kernel
theorem dX12_wouldBe_23 : decode cX12_wouldBe 23 = .ok (.iconst 0, 1) := by decide +kernel
theorem dX12_wouldBe_24 : decode cX12_wouldBe 24 = .ok (.invokevirtual 327, 3) := by decide +kernel
theorem dX12_wouldBe_27 : decode cX12_wouldBe 27 = .ok (.ifCond .eq 10, 3) := by decide +kernel
theorem dX12_wouldBe_30 : decode cX12_wouldBe 30 = .ok (.aload_n 0, 1) := by decide +kernel
theorem dX12_wouldBe_31 : decode cX12_wouldBe 31 = .ok (.iload_n 1, 1) := by decide +kernel
theorem dX12_wouldBe_32 : decode cX12_wouldBe 32 = .ok (.iconst 0, 1) := by decide +kernel
theorem dX12_wouldBe_33 : decode cX12_wouldBe 33 = .ok (.invokevirtual 327, 3) := by decide +kernel
theorem dX12_wouldBe_36 : decode cX12_wouldBe 36 = .ok (.ireturn, 1) := by decide +kernel
theorem dX12_wouldBe_37 : decode cX12_wouldBe 37 = .ok (.aload_n 0, 1) := by decide +kernel
theorem dX12_wouldBe_38 : decode cX12_wouldBe 38 = .ok (.iconst 0, 1) := by decide +kernel
theorem dX12_wouldBe_39 : decode cX12_wouldBe 39 = .ok (.invokevirtual 227, 3) := by decide +kernel
theorem dX12_wouldBe_42 : decode cX12_wouldBe 42 = .ok (.aload_n 0, 1) := by decide +kernel
theorem dX12_wouldBe_43 : decode cX12_wouldBe 43 = .ok (.iload_n 1, 1) := by decide +kernel
theorem dX12_wouldBe_44 : decode cX12_wouldBe 44 = .ok (.iload_n 2, 1) := by decide +kernel
theorem dX12_wouldBe_45 : decode cX12_wouldBe 45 = .ok (.iload_n 3, 1) := by decide +kernel
theorem dX12_wouldBe_46 : decode cX12_wouldBe 46 = .ok (.invokevirtual 332, 3) := by decide +kernel
theorem dX12_wouldBe_49 : decode cX12_wouldBe 49 = .ok (.istore 4, 2) := by decide +kernel
theorem dX12_wouldBe_51 : decode cX12_wouldBe 51 = .ok (.aload_n 0, 1) := by decide +kernel
theorem dX12_wouldBe_52 : decode cX12_wouldBe 52 = .ok (.iconst 0, 1) := by decide +kernel
theorem dX12_wouldBe_53 : decode cX12_wouldBe 53 = .ok (.invokevirtual 231, 3) := by decide +kernel
theorem dX12_wouldBe_56 : decode cX12_wouldBe 56 = .ok (.iload 4, 2) := by decide +kernel
theorem dX12_wouldBe_58 : decode cX12_wouldBe 58 = .ok (.ireturn, 1) := by decide +kernel
theorem dX12_shelf_0 : decode cX12_shelf 0 = .ok (.iload_n 1, 1) := by decide +kernel
theorem dX12_shelf_1 : decode cX12_shelf 1 = .ok (.invokestatic 336, 3) := by decide +kernel
theorem dX12_shelf_4 : decode cX12_shelf 4 = .ok (.ifCond .eq 39, 3) := by decide +kernel
theorem dX12_shelf_7 : decode cX12_shelf 7 = .ok (.iload_n 2, 1) := by decide +kernel
theorem dX12_shelf_8 : decode cX12_shelf 8 = .ok (.i2l, 1) := by decide +kernel
theorem dX12_shelf_9 : decode cX12_shelf 9 = .ok (.lconst 0, 1) := by decide +kernel
theorem dX12_shelf_10 : decode cX12_shelf 10 = .ok (.ldc2_w 67, 3) := by decide +kernel
theorem dX12_shelf_13 : decode cX12_shelf 13 = .ok (.invokestatic 57, 3) := by decide +kernel
theorem dX12_shelf_16 : decode cX12_shelf 16 = .ok (.ifCond .eq 27, 3) := by decide +kernel
theorem dX12_shelf_19 : decode cX12_shelf 19 = .ok (.iload_n 2, 1) := by decide +kernel
theorem dX12_shelf_20 : decode cX12_shelf 20 = .ok (.ifCond .ne 11, 3) := by decide +kernel
theorem dX12_shelf_23 : decode cX12_shelf 23 = .ok (.aload_n 0, 1) := by decide +kernel
theorem dX12_shelf_24 : decode cX12_shelf 24 = .ok (.iload_n 3, 1) := by decide +kernel
theorem dX12_shelf_25 : decode cX12_shelf 25 = .ok (.invokevirtual 88, 3) := by decide +kernel
theorem dX12_shelf_28 : decode cX12_shelf 28 = .ok (.ifCond .eq 15, 3) := by decide +kernel
theorem dX12_shelf_31 : decode cX12_shelf 31 = .ok (.iload_n 2, 1) := by decide +kernel
theorem dX12_shelf_32 : decode cX12_shelf 32 = .ok (.iconst 1, 1) := by decide +kernel
theorem dX12_shelf_33 : decode cX12_shelf 33 = .ok (.if_icmp .ne 12, 3) := by decide +kernel
theorem dX12_shelf_36 : decode cX12_shelf 36 = .ok (.iload_n 3, 1) := by decide +kernel
theorem dX12_shelf_37 : decode cX12_shelf 37 = .ok (.invokestatic 322, 3) := by decide +kernel
theorem dX12_shelf_40 : decode cX12_shelf 40 = .ok (.ifCond .ne 5, 3) := by decide +kernel
theorem dX12_shelf_43 : decode cX12_shelf 43 = .ok (.iconst (-1), 1) := by decide +kernel
theorem dX12_shelf_44 : decode cX12_shelf 44 = .ok (.ireturn, 1) := by decide +kernel
theorem dX12_shelf_45 : decode cX12_shelf 45 = .ok (.iload_n 2, 1) := by decide +kernel
theorem dX12_shelf_46 : decode cX12_shelf 46 = .ok (.iconst 1, 1) := by decide +kernel
theorem dX12_shelf_47 : decode cX12_shelf 47 = .ok (.if_icmp .ne 16, 3) := by decide +kernel
theorem dX12_shelf_50 : decode cX12_shelf 50 = .ok (.aload_n 0, 1) := by decide +kernel
theorem dX12_shelf_51 : decode cX12_shelf 51 = .ok (.getfield 34, 3) := by decide +kernel
theorem dX12_shelf_54 : decode cX12_shelf 54 = .ok (.iload_n 3, 1) := by decide +kernel
theorem dX12_shelf_55 : decode cX12_shelf 55 = .ok (.iaload, 1) := by decide +kernel
theorem dX12_shelf_56 : decode cX12_shelf 56 = .ok (.ifCond .lt 7, 3) := by decide +kernel
theorem dX12_shelf_59 : decode cX12_shelf 59 = .ok (.iconst 1, 1) := by decide +kernel
theorem dX12_shelf_60 : decode cX12_shelf 60 = .ok (.goto 4, 3) := by decide +kernel
theorem dX12_shelf_63 : decode cX12_shelf 63 = .ok (.iconst 0, 1) := by decide +kernel
theorem dX12_shelf_64 : decode cX12_shelf 64 = .ok (.istore 4, 2) := by decide +kernel
theorem dX12_shelf_66 : decode cX12_shelf 66 = .ok (.aload_n 0, 1) := by decide +kernel
theorem dX12_shelf_67 : decode cX12_shelf 67 = .ok (.getfield 43, 3) := by decide +kernel
theorem dX12_shelf_70 : decode cX12_shelf 70 = .ok (.iload_n 1, 1) := by decide +kernel
theorem dX12_shelf_71 : decode cX12_shelf 71 = .ok (.iload_n 2, 1) := by decide +kernel
theorem dX12_shelf_72 : decode cX12_shelf 72 = .ok (.ifCond .ne 7, 3) := by decide +kernel
theorem dX12_shelf_75 : decode cX12_shelf 75 = .ok (.iconst 1, 1) := by decide +kernel
theorem dX12_shelf_76 : decode cX12_shelf 76 = .ok (.goto 13, 3) := by decide +kernel
theorem dX12_shelf_79 : decode cX12_shelf 79 = .ok (.iload 4, 2) := by decide +kernel
theorem dX12_shelf_81 : decode cX12_shelf 81 = .ok (.ifCond .eq 7, 3) := by decide +kernel
theorem dX12_shelf_84 : decode cX12_shelf 84 = .ok (.iconst 2, 1) := by decide +kernel
theorem dX12_shelf_85 : decode cX12_shelf 85 = .ok (.goto 4, 3) := by decide +kernel
theorem dX12_shelf_88 : decode cX12_shelf 88 = .ok (.iconst 0, 1) := by decide +kernel
theorem dX12_shelf_89 : decode cX12_shelf 89 = .ok (.iastore, 1) := by decide +kernel
theorem dX12_shelf_90 : decode cX12_shelf 90 = .ok (.aload_n 0, 1) := by decide +kernel
theorem dX12_shelf_91 : decode cX12_shelf 91 = .ok (.getfield 46, 3) := by decide +kernel
theorem dX12_shelf_94 : decode cX12_shelf 94 = .ok (.iload_n 1, 1) := by decide +kernel
theorem dX12_shelf_95 : decode cX12_shelf 95 = .ok (.iload_n 2, 1) := by decide +kernel
theorem dX12_shelf_96 : decode cX12_shelf 96 = .ok (.ifCond .ne 7, 3) := by decide +kernel
theorem dX12_shelf_99 : decode cX12_shelf 99 = .ok (.iload_n 3, 1) := by decide +kernel
theorem dX12_shelf_100 : decode cX12_shelf 100 = .ok (.goto 18, 3) := by decide +kernel
theorem dX12_shelf_103 : decode cX12_shelf 103 = .ok (.iload 4, 2) := by decide +kernel
theorem dX12_shelf_105 : decode cX12_shelf 105 = .ok (.ifCond .eq 12, 3) := by decide +kernel
theorem dX12_shelf_108 : decode cX12_shelf 108 = .ok (.aload_n 0, 1) := by decide +kernel
theorem dX12_shelf_109 : decode cX12_shelf 109 = .ok (.getfield 34, 3) := by decide +kernel
theorem dX12_shelf_112 : decode cX12_shelf 112 = .ok (.iload_n 3, 1) := by decide +kernel
theorem dX12_shelf_113 : decode cX12_shelf 113 = .ok (.iaload, 1) := by decide +kernel
theorem dX12_shelf_114 : decode cX12_shelf 114 = .ok (.goto 4, 3) := by decide +kernel
theorem dX12_shelf_117 : decode cX12_shelf 117 = .ok (.iconst 0, 1) := by decide +kernel
theorem dX12_shelf_118 : decode cX12_shelf 118 = .ok (.iastore, 1) := by decide +kernel
theorem dX12_shelf_119 : decode cX12_shelf 119 = .ok (.aload_n 0, 1) := by decide +kernel
theorem dX12_shelf_120 : decode cX12_shelf 120 = .ok (.getfield 49, 3) := by decide +kernel
theorem dX12_shelf_123 : decode cX12_shelf 123 = .ok (.iload_n 1, 1) := by decide +kernel
theorem dX12_shelf_124 : decode cX12_shelf 124 = .ok (.iload 4, 2) := by decide +kernel
theorem dX12_shelf_126 : decode cX12_shelf 126 = .ok (.ifCond .eq 12, 3) := by decide +kernel
theorem dX12_shelf_129 : decode cX12_shelf 129 = .ok (.aload_n 0, 1) := by decide +kernel
theorem dX12_shelf_130 : decode cX12_shelf 130 = .ok (.getfield 37, 3) := by decide +kernel
theorem dX12_shelf_133 : decode cX12_shelf 133 = .ok (.iload_n 3, 1) := by decide +kernel
theorem dX12_shelf_134 : decode cX12_shelf 134 = .ok (.iaload, 1) := by decide +kernel
theorem dX12_shelf_135 : decode cX12_shelf 135 = .ok (.goto 4, 3) := by decide +kernel
theorem dX12_shelf_138 : decode cX12_shelf 138 = .ok (.iconst 0, 1) := by decide +kernel
theorem dX12_shelf_139 : decode cX12_shelf 139 = .ok (.iastore, 1) := by decide +kernel
theorem dX12_shelf_140 : decode cX12_shelf 140 = .ok (.iconst 1, 1) := by decide +kernel
theorem dX12_shelf_141 : decode cX12_shelf 141 = .ok (.ireturn, 1) := by decide +kernel
theorem dX12_heldOn_0 : decode cX12_heldOn 0 = .ok (.aload_n 0, 1) := by decide +kernel
theorem dX12_heldOn_1 : decode cX12_heldOn 1 = .ok (.getfield 43, 3) := by decide +kernel
theorem dX12_heldOn_4 : decode cX12_heldOn 4 = .ok (.iload_n 1, 1) := by decide +kernel
theorem dX12_heldOn_5 : decode cX12_heldOn 5 = .ok (.iaload, 1) := by decide +kernel
theorem dX12_heldOn_6 : decode cX12_heldOn 6 = .ok (.iconst 1, 1) := by decide +kernel
theorem dX12_heldOn_7 : decode cX12_heldOn 7 = .ok (.if_icmp .ne 20, 3) := by decide +kernel
theorem dX12_heldOn_10 : decode cX12_heldOn 10 = .ok (.aload_n 0, 1) := by decide +kernel
theorem dX12_heldOn_11 : decode cX12_heldOn 11 = .ok (.aload_n 0, 1) := by decide +kernel
theorem dX12_heldOn_12 : decode cX12_heldOn 12 = .ok (.getfield 46, 3) := by decide +kernel
theorem dX12_heldOn_15 : decode cX12_heldOn 15 = .ok (.iload_n 1, 1) := by decide +kernel
theorem dX12_heldOn_16 : decode cX12_heldOn 16 = .ok (.iaload, 1) := by decide +kernel
theorem dX12_heldOn_17 : decode cX12_heldOn 17 = .ok (.invokevirtual 88, 3) := by decide +kernel
theorem dX12_heldOn_20 : decode cX12_heldOn 20 = .ok (.ifCond .ne 7, 3) := by decide +kernel
theorem dX12_heldOn_23 : decode cX12_heldOn 23 = .ok (.iconst 0, 1) := by decide +kernel
theorem dX12_heldOn_24 : decode cX12_heldOn 24 = .ok (.goto 9, 3) := by decide +kernel
theorem dX12_heldOn_27 : decode cX12_heldOn 27 = .ok (.aload_n 0, 1) := by decide +kernel
theorem dX12_heldOn_28 : decode cX12_heldOn 28 = .ok (.getfield 43, 3) := by decide +kernel
theorem dX12_heldOn_31 : decode cX12_heldOn 31 = .ok (.iload_n 1, 1) := by decide +kernel
theorem dX12_heldOn_32 : decode cX12_heldOn 32 = .ok (.iaload, 1) := by decide +kernel
theorem dX12_heldOn_33 : decode cX12_heldOn 33 = .ok (.ireturn, 1) := by decide +kernel
theorem dX12_taken_0 : decode cX12_taken 0 = .ok (.iload_n 1, 1) := by decide +kernel
theorem dX12_taken_1 : decode cX12_taken 1 = .ok (.invokestatic 336, 3) := by decide +kernel
theorem dX12_taken_4 : decode cX12_taken 4 = .ok (.ifCond .eq 29, 3) := by decide +kernel
theorem dX12_taken_7 : decode cX12_taken 7 = .ok (.iload_n 2, 1) := by decide +kernel
theorem dX12_taken_8 : decode cX12_taken 8 = .ok (.i2l, 1) := by decide +kernel
theorem dX12_taken_9 : decode cX12_taken 9 = .ok (.lconst 0, 1) := by decide +kernel
theorem dX12_taken_10 : decode cX12_taken 10 = .ok (.ldc2_w 339, 3) := by decide +kernel
theorem dX12_taken_13 : decode cX12_taken 13 = .ok (.invokestatic 57, 3) := by decide +kernel
theorem dX12_taken_16 : decode cX12_taken 16 = .ok (.ifCond .eq 17, 3) := by decide +kernel
theorem dX12_taken_19 : decode cX12_taken 19 = .ok (.iload_n 2, 1) := by decide +kernel
theorem dX12_taken_20 : decode cX12_taken 20 = .ok (.i2l, 1) := by decide +kernel
theorem dX12_taken_21 : decode cX12_taken 21 = .ok (.ldc2_w 341, 3) := by decide +kernel
theorem dX12_taken_24 : decode cX12_taken 24 = .ok (.ldc2_w 65, 3) := by decide +kernel
theorem dX12_taken_27 : decode cX12_taken 27 = .ok (.invokestatic 57, 3) := by decide +kernel
theorem dX12_taken_30 : decode cX12_taken 30 = .ok (.ifCond .eq 5, 3) := by decide +kernel
theorem dX12_taken_33 : decode cX12_taken 33 = .ok (.iconst (-1), 1) := by decide +kernel
theorem dX12_taken_34 : decode cX12_taken 34 = .ok (.ireturn, 1) := by decide +kernel
theorem dX12_taken_35 : decode cX12_taken 35 = .ok (.aload_n 0, 1) := by decide +kernel
theorem dX12_taken_36 : decode cX12_taken 36 = .ok (.iload_n 1, 1) := by decide +kernel
theorem dX12_taken_37 : decode cX12_taken 37 = .ok (.invokevirtual 343, 3) := by decide +kernel
theorem dX12_taken_40 : decode cX12_taken 40 = .ok (.istore_n 3, 1) := by decide +kernel
theorem dX12_taken_41 : decode cX12_taken 41 = .ok (.iload_n 3, 1) := by decide +kernel
theorem dX12_taken_42 : decode cX12_taken 42 = .ok (.ifCond .ne 6, 3) := by decide +kernel
theorem dX12_taken_45 : decode cX12_taken 45 = .ok (.bipush (-11), 2) := by decide +kernel
theorem dX12_taken_47 : decode cX12_taken 47 = .ok (.ireturn, 1) := by decide +kernel
theorem dX12_taken_48 : decode cX12_taken 48 = .ok (.iload_n 2, 1) := by decide +kernel
theorem dX12_taken_49 : decode cX12_taken 49 = .ok (.bipush 10, 2) := by decide +kernel
theorem dX12_taken_51 : decode cX12_taken 51 = .ok (.if_icmp .ge 38, 3) := by decide +kernel
theorem dX12_taken_54 : decode cX12_taken 54 = .ok (.iload_n 3, 1) := by decide +kernel
theorem dX12_taken_55 : decode cX12_taken 55 = .ok (.iconst 1, 1) := by decide +kernel
theorem dX12_taken_56 : decode cX12_taken 56 = .ok (.if_icmp .ne 30, 3) := by decide +kernel
theorem dX12_taken_59 : decode cX12_taken 59 = .ok (.aload_n 0, 1) := by decide +kernel
theorem dX12_taken_60 : decode cX12_taken 60 = .ok (.aload_n 0, 1) := by decide +kernel
theorem dX12_taken_61 : decode cX12_taken 61 = .ok (.getfield 46, 3) := by decide +kernel
theorem dX12_taken_64 : decode cX12_taken 64 = .ok (.iload_n 1, 1) := by decide +kernel
theorem dX12_taken_65 : decode cX12_taken 65 = .ok (.iaload, 1) := by decide +kernel
theorem dX12_taken_66 : decode cX12_taken 66 = .ok (.iconst 0, 1) := by decide +kernel
theorem dX12_taken_67 : decode cX12_taken 67 = .ok (.invokevirtual 69, 3) := by decide +kernel
theorem dX12_taken_70 : decode cX12_taken 70 = .ok (.iload_n 2, 1) := by decide +kernel
theorem dX12_taken_71 : decode cX12_taken 71 = .ok (.invokestatic 82, 3) := by decide +kernel
theorem dX12_taken_74 : decode cX12_taken 74 = .ok (.ifCond .eq 12, 3) := by decide +kernel
theorem dX12_taken_77 : decode cX12_taken 77 = .ok (.aload_n 0, 1) := by decide +kernel
theorem dX12_taken_78 : decode cX12_taken 78 = .ok (.getfield 46, 3) := by decide +kernel
theorem dX12_taken_81 : decode cX12_taken 81 = .ok (.iload_n 1, 1) := by decide +kernel
theorem dX12_taken_82 : decode cX12_taken 82 = .ok (.iaload, 1) := by decide +kernel
theorem dX12_taken_83 : decode cX12_taken 83 = .ok (.goto 5, 3) := by decide +kernel
