-- decode rows, by program
theorem dX7_playOn_31 : decode cX7_playOn 31 = .ok (.iconst 0, 1) := by decide +kernel
theorem dX7_playOn_32 : decode cX7_playOn 32 = .ok (.istore 4, 2) := by decide +kernel
theorem dX7_playOn_34 : decode cX7_playOn 34 = .ok (.iconst 0, 1) := by decide +kernel
theorem dX7_playOn_35 : decode cX7_playOn 35 = .ok (.istore 5, 2) := by decide +kernel
theorem dX7_playOn_37 : decode cX7_playOn 37 = .ok (.iload 5, 2) := by decide +kernel
theorem dX7_playOn_39 : decode cX7_playOn 39 = .ok (.aload_n 3, 1) := by decide +kernel
theorem dX7_playOn_40 : decode cX7_playOn 40 = .ok (.getfield 77, 3) := by decide +kernel
theorem dX7_playOn_43 : decode cX7_playOn 43 = .ok (.if_icmp .gt 78, 3) := by decide +kernel
theorem dX7_playOn_46 : decode cX7_playOn 46 = .ok (.aload_n 3, 1) := by decide +kernel
theorem dX7_playOn_47 : decode cX7_playOn 47 = .ok (.aload_n 0, 1) := by decide +kernel
theorem dX7_playOn_48 : decode cX7_playOn 48 = .ok (.getfield 11, 3) := by decide +kernel
theorem dX7_playOn_51 : decode cX7_playOn 51 = .ok (.iload_n 1, 1) := by decide +kernel
theorem dX7_playOn_52 : decode cX7_playOn 52 = .ok (.aaload, 1) := by decide +kernel
theorem dX7_playOn_53 : decode cX7_playOn 53 = .ok (.invokevirtual 80, 3) := by decide +kernel
theorem dX7_playOn_56 : decode cX7_playOn 56 = .ok (.aload_n 3, 1) := by decide +kernel
theorem dX7_playOn_57 : decode cX7_playOn 57 = .ok (.iload 5, 2) := by decide +kernel
theorem dX7_playOn_59 : decode cX7_playOn 59 = .ok (.invokevirtual 83, 3) := by decide +kernel
theorem dX7_playOn_62 : decode cX7_playOn 62 = .ok (.aload_n 0, 1) := by decide +kernel
theorem dX7_playOn_63 : decode cX7_playOn 63 = .ok (.iload_n 1, 1) := by decide +kernel
theorem dX7_playOn_64 : decode cX7_playOn 64 = .ok (.iconst 1, 1) := by decide +kernel
theorem dX7_playOn_65 : decode cX7_playOn 65 = .ok (.iadd, 1) := by decide +kernel
theorem dX7_playOn_66 : decode cX7_playOn 66 = .ok (.invokevirtual 90, 3) := by decide +kernel
theorem dX7_playOn_69 : decode cX7_playOn 69 = .ok (.iadd, 1) := by decide +kernel
theorem dX7_playOn_70 : decode cX7_playOn 70 = .ok (.istore 6, 2) := by decide +kernel
theorem dX7_playOn_72 : decode cX7_playOn 72 = .ok (.iload 5, 2) := by decide +kernel
theorem dX7_playOn_74 : decode cX7_playOn 74 = .ok (.ifCond .le 27, 3) := by decide +kernel
theorem dX7_playOn_77 : decode cX7_playOn 77 = .ok (.iload_n 2, 1) := by decide +kernel
theorem dX7_playOn_78 : decode cX7_playOn 78 = .ok (.ifCond .eq 13, 3) := by decide +kernel
theorem dX7_playOn_81 : decode cX7_playOn 81 = .ok (.iload 6, 2) := by decide +kernel
theorem dX7_playOn_83 : decode cX7_playOn 83 = .ok (.iload 4, 2) := by decide +kernel
theorem dX7_playOn_85 : decode cX7_playOn 85 = .ok (.if_icmp .gt 16, 3) := by decide +kernel
theorem dX7_playOn_88 : decode cX7_playOn 88 = .ok (.goto 27, 3) := by decide +kernel
theorem dX7_playOn_91 : decode cX7_playOn 91 = .ok (.iload 6, 2) := by decide +kernel
theorem dX7_playOn_93 : decode cX7_playOn 93 = .ok (.iload 4, 2) := by decide +kernel
theorem dX7_playOn_95 : decode cX7_playOn 95 = .ok (.if_icmp .lt 6, 3) := by decide +kernel
theorem dX7_playOn_98 : decode cX7_playOn 98 = .ok (.goto 17, 3) := by decide +kernel
theorem dX7_playOn_101 : decode cX7_playOn 101 = .ok (.iload 6, 2) := by decide +kernel
theorem dX7_playOn_103 : decode cX7_playOn 103 = .ok (.istore 4, 2) := by decide +kernel
theorem dX7_playOn_105 : decode cX7_playOn 105 = .ok (.iload_n 1, 1) := by decide +kernel
theorem dX7_playOn_106 : decode cX7_playOn 106 = .ok (.ifCond .ne 9, 3) := by decide +kernel
theorem dX7_playOn_109 : decode cX7_playOn 109 = .ok (.aload_n 0, 1) := by decide +kernel
theorem dX7_playOn_110 : decode cX7_playOn 110 = .ok (.iload 5, 2) := by decide +kernel
theorem dX7_playOn_112 : decode cX7_playOn 112 = .ok (.putfield 96, 3) := by decide +kernel
theorem dX7_playOn_115 : decode cX7_playOn 115 = .ok (.iinc 5 1, 3) := by decide +kernel
theorem dX7_playOn_118 : decode cX7_playOn 118 = .ok (.goto (-81), 3) := by decide +kernel
theorem dX7_playOn_121 : decode cX7_playOn 121 = .ok (.iload 4, 2) := by decide +kernel
theorem dX7_playOn_123 : decode cX7_playOn 123 = .ok (.ireturn, 1) := by decide +kernel
theorem dX8_init_0 : decode cX8_init 0 = .ok (.aload_n 0, 1) := by decide +kernel
theorem dX8_init_1 : decode cX8_init 1 = .ok (.invokespecial 5, 3) := by decide +kernel
theorem dX8_init_4 : decode cX8_init 4 = .ok (.aload_n 0, 1) := by decide +kernel
theorem dX8_init_5 : decode cX8_init 5 = .ok (.bipush 8, 2) := by decide +kernel
theorem dX8_init_7 : decode cX8_init 7 = .ok (.newarray .int, 2) := by decide +kernel
theorem dX8_init_9 : decode cX8_init 9 = .ok (.putfield 11, 3) := by decide +kernel
theorem dX8_init_12 : decode cX8_init 12 = .ok (.aload_n 0, 1) := by decide +kernel
theorem dX8_init_13 : decode cX8_init 13 = .ok (.bipush 8, 2) := by decide +kernel
theorem dX8_init_15 : decode cX8_init 15 = .ok (.newarray .int, 2) := by decide +kernel
theorem dX8_init_17 : decode cX8_init 17 = .ok (.putfield 15, 3) := by decide +kernel
theorem dX8_init_20 : decode cX8_init 20 = .ok (.aload_n 0, 1) := by decide +kernel
theorem dX8_init_21 : decode cX8_init 21 = .ok (.bipush 8, 2) := by decide +kernel
theorem dX8_init_23 : decode cX8_init 23 = .ok (.newarray .int, 2) := by decide +kernel
theorem dX8_init_25 : decode cX8_init 25 = .ok (.putfield 18, 3) := by decide +kernel
theorem dX8_init_28 : decode cX8_init 28 = .ok (.aload_n 0, 1) := by decide +kernel
theorem dX8_init_29 : decode cX8_init 29 = .ok (.bipush 8, 2) := by decide +kernel
theorem dX8_init_31 : decode cX8_init 31 = .ok (.newarray .int, 2) := by decide +kernel
theorem dX8_init_33 : decode cX8_init 33 = .ok (.putfield 21, 3) := by decide +kernel
theorem dX8_init_36 : decode cX8_init 36 = .ok (.aload_n 0, 1) := by decide +kernel
theorem dX8_init_37 : decode cX8_init 37 = .ok (.sipush 200, 3) := by decide +kernel
theorem dX8_init_40 : decode cX8_init 40 = .ok (.newarray .int, 2) := by decide +kernel
theorem dX8_init_42 : decode cX8_init 42 = .ok (.putfield 24, 3) := by decide +kernel
theorem dX8_init_45 : decode cX8_init 45 = .ok (.aload_n 0, 1) := by decide +kernel
theorem dX8_init_46 : decode cX8_init 46 = .ok (.sipush 200, 3) := by decide +kernel
theorem dX8_init_49 : decode cX8_init 49 = .ok (.newarray .int, 2) := by decide +kernel
theorem dX8_init_51 : decode cX8_init 51 = .ok (.putfield 27, 3) := by decide +kernel
theorem dX8_init_54 : decode cX8_init 54 = .ok (.aload_n 0, 1) := by decide +kernel
theorem dX8_init_55 : decode cX8_init 55 = .ok (.sipush 200, 3) := by decide +kernel
theorem dX8_init_58 : decode cX8_init 58 = .ok (.newarray .int, 2) := by decide +kernel
theorem dX8_init_60 : decode cX8_init 60 = .ok (.putfield 30, 3) := by decide +kernel
theorem dX8_init_63 : decode cX8_init 63 = .ok (.aload_n 0, 1) := by decide +kernel
theorem dX8_init_64 : decode cX8_init 64 = .ok (.sipush 201, 3) := by decide +kernel
theorem dX8_init_67 : decode cX8_init 67 = .ok (.newarray .int, 2) := by decide +kernel
theorem dX8_init_69 : decode cX8_init 69 = .ok (.putfield 33, 3) := by decide +kernel
theorem dX8_init_72 : decode cX8_init 72 = .ok (.aload_n 0, 1) := by decide +kernel
theorem dX8_init_73 : decode cX8_init 73 = .ok (.sipush 201, 3) := by decide +kernel
theorem dX8_init_76 : decode cX8_init 76 = .ok (.newarray .int, 2) := by decide +kernel
theorem dX8_init_78 : decode cX8_init 78 = .ok (.putfield 36, 3) := by decide +kernel
theorem dX8_init_81 : decode cX8_init 81 = .ok (.aload_n 0, 1) := by decide +kernel
theorem dX8_init_82 : decode cX8_init 82 = .ok (.aload_n 1, 1) := by decide +kernel
theorem dX8_init_83 : decode cX8_init 83 = .ok (.putfield 39, 3) := by decide +kernel
theorem dX8_init_86 : decode cX8_init 86 = .ok (.return_, 1) := by decide +kernel
theorem dX8_copy_0 : decode cX8_copy 0 = .ok (.aload_n 0, 1) := by decide +kernel
theorem dX8_copy_1 : decode cX8_copy 1 = .ok (.aload_n 1, 1) := by decide +kernel
theorem dX8_copy_2 : decode cX8_copy 2 = .ok (.getfield 43, 3) := by decide +kernel
theorem dX8_copy_5 : decode cX8_copy 5 = .ok (.putfield 43, 3) := by decide +kernel
theorem dX8_copy_8 : decode cX8_copy 8 = .ok (.aload_n 0, 1) := by decide +kernel
theorem dX8_copy_9 : decode cX8_copy 9 = .ok (.aload_n 1, 1) := by decide +kernel
theorem dX8_copy_10 : decode cX8_copy 10 = .ok (.getfield 47, 3) := by decide +kernel
theorem dX8_copy_13 : decode cX8_copy 13 = .ok (.putfield 47, 3) := by decide +kernel
theorem dX8_copy_16 : decode cX8_copy 16 = .ok (.aload_n 1, 1) := by decide +kernel
theorem dX8_copy_17 : decode cX8_copy 17 = .ok (.getfield 11, 3) := by decide +kernel
theorem dX8_copy_20 : decode cX8_copy 20 = .ok (.iconst 0, 1) := by decide +kernel
theorem dX8_copy_21 : decode cX8_copy 21 = .ok (.aload_n 0, 1) := by decide +kernel
theorem dX8_copy_22 : decode cX8_copy 22 = .ok (.getfield 11, 3) := by decide +kernel
theorem dX8_copy_25 : decode cX8_copy 25 = .ok (.iconst 0, 1) := by decide +kernel
theorem dX8_copy_26 : decode cX8_copy 26 = .ok (.aload_n 0, 1) := by decide +kernel
theorem dX8_copy_27 : decode cX8_copy 27 = .ok (.getfield 43, 3) := by decide +kernel
theorem dX8_copy_30 : decode cX8_copy 30 = .ok (.invokestatic 50, 3) := by decide +kernel
theorem dX8_copy_33 : decode cX8_copy 33 = .ok (.aload_n 1, 1) := by decide +kernel
theorem dX8_copy_34 : decode cX8_copy 34 = .ok (.getfield 15, 3) := by decide +kernel
theorem dX8_copy_37 : decode cX8_copy 37 = .ok (.iconst 0, 1) := by decide +kernel
theorem dX8_copy_38 : decode cX8_copy 38 = .ok (.aload_n 0, 1) := by decide +kernel
theorem dX8_copy_39 : decode cX8_copy 39 = .ok (.getfield 15, 3) := by decide +kernel
theorem dX8_copy_42 : decode cX8_copy 42 = .ok (.iconst 0, 1) := by decide +kernel
theorem dX8_copy_43 : decode cX8_copy 43 = .ok (.aload_n 0, 1) := by decide +kernel
theorem dX8_copy_44 : decode cX8_copy 44 = .ok (.getfield 43, 3) := by decide +kernel
theorem dX8_copy_47 : decode cX8_copy 47 = .ok (.invokestatic 50, 3) := by decide +kernel
theorem dX8_copy_50 : decode cX8_copy 50 = .ok (.aload_n 1, 1) := by decide +kernel
theorem dX8_copy_51 : decode cX8_copy 51 = .ok (.getfield 18, 3) := by decide +kernel
theorem dX8_copy_54 : decode cX8_copy 54 = .ok (.iconst 0, 1) := by decide +kernel
theorem dX8_copy_55 : decode cX8_copy 55 = .ok (.aload_n 0, 1) := by decide +kernel
theorem dX8_copy_56 : decode cX8_copy 56 = .ok (.getfield 18, 3) := by decide +kernel
theorem dX8_copy_59 : decode cX8_copy 59 = .ok (.iconst 0, 1) := by decide +kernel
theorem dX8_copy_60 : decode cX8_copy 60 = .ok (.aload_n 0, 1) := by decide +kernel
theorem dX8_copy_61 : decode cX8_copy 61 = .ok (.getfield 43, 3) := by decide +kernel
theorem dX8_copy_64 : decode cX8_copy 64 = .ok (.invokestatic 50, 3) := by decide +kernel
theorem dX8_copy_67 : decode cX8_copy 67 = .ok (.aload_n 1, 1) := by decide +kernel
theorem dX8_copy_68 : decode cX8_copy 68 = .ok (.getfield 21, 3) := by decide +kernel
theorem dX8_copy_71 : decode cX8_copy 71 = .ok (.iconst 0, 1) := by decide +kernel
theorem dX8_copy_72 : decode cX8_copy 72 = .ok (.aload_n 0, 1) := by decide +kernel
theorem dX8_copy_73 : decode cX8_copy 73 = .ok (.getfield 21, 3) := by decide +kernel
theorem dX8_copy_76 : decode cX8_copy 76 = .ok (.iconst 0, 1) := by decide +kernel
theorem dX8_copy_77 : decode cX8_copy 77 = .ok (.aload_n 0, 1) := by decide +kernel
theorem dX8_copy_78 : decode cX8_copy 78 = .ok (.getfield 43, 3) := by decide +kernel
theorem dX8_copy_81 : decode cX8_copy 81 = .ok (.invokestatic 50, 3) := by decide +kernel
theorem dX8_copy_84 : decode cX8_copy 84 = .ok (.aload_n 1, 1) := by decide +kernel
theorem dX8_copy_85 : decode cX8_copy 85 = .ok (.getfield 24, 3) := by decide +kernel
theorem dX8_copy_88 : decode cX8_copy 88 = .ok (.iconst 0, 1) := by decide +kernel
theorem dX8_copy_89 : decode cX8_copy 89 = .ok (.aload_n 0, 1) := by decide +kernel
theorem dX8_copy_90 : decode cX8_copy 90 = .ok (.getfield 24, 3) := by decide +kernel
theorem dX8_copy_93 : decode cX8_copy 93 = .ok (.iconst 0, 1) := by decide +kernel
theorem dX8_copy_94 : decode cX8_copy 94 = .ok (.aload_n 0, 1) := by decide +kernel
theorem dX8_copy_95 : decode cX8_copy 95 = .ok (.getfield 47, 3) := by decide +kernel
theorem dX8_copy_98 : decode cX8_copy 98 = .ok (.invokestatic 50, 3) := by decide +kernel
theorem dX8_copy_101 : decode cX8_copy 101 = .ok (.aload_n 1, 1) := by decide +kernel
theorem dX8_copy_102 : decode cX8_copy 102 = .ok (.getfield 27, 3) := by decide +kernel
theorem dX8_copy_105 : decode cX8_copy 105 = .ok (.iconst 0, 1) := by decide +kernel
theorem dX8_copy_106 : decode cX8_copy 106 = .ok (.aload_n 0, 1) := by decide +kernel
theorem dX8_copy_107 : decode cX8_copy 107 = .ok (.getfield 27, 3) := by decide +kernel
theorem dX8_copy_110 : decode cX8_copy 110 = .ok (.iconst 0, 1) := by decide +kernel
theorem dX8_copy_111 : decode cX8_copy 111 = .ok (.aload_n 0, 1) := by decide +kernel
theorem dX8_copy_112 : decode cX8_copy 112 = .ok (.getfield 47, 3) := by decide +kernel
theorem dX8_copy_115 : decode cX8_copy 115 = .ok (.invokestatic 50, 3) := by decide +kernel
theorem dX8_copy_118 : decode cX8_copy 118 = .ok (.aload_n 1, 1) := by decide +kernel
theorem dX8_copy_119 : decode cX8_copy 119 = .ok (.getfield 30, 3) := by decide +kernel
theorem dX8_copy_122 : decode cX8_copy 122 = .ok (.iconst 0, 1) := by decide +kernel
theorem dX8_copy_123 : decode cX8_copy 123 = .ok (.aload_n 0, 1) := by decide +kernel
theorem dX8_copy_124 : decode cX8_copy 124 = .ok (.getfield 30, 3) := by decide +kernel
theorem dX8_copy_127 : decode cX8_copy 127 = .ok (.iconst 0, 1) := by decide +kernel
theorem dX8_copy_128 : decode cX8_copy 128 = .ok (.aload_n 0, 1) := by decide +kernel
theorem dX8_copy_129 : decode cX8_copy 129 = .ok (.getfield 47, 3) := by decide +kernel
theorem dX8_copy_132 : decode cX8_copy 132 = .ok (.invokestatic 50, 3) := by decide +kernel
theorem dX8_copy_135 : decode cX8_copy 135 = .ok (.return_, 1) := by decide +kernel
theorem dX8_tell_0 : decode cX8_tell 0 = .ok (.iconst 0, 1) := by decide +kernel
theorem dX8_tell_1 : decode cX8_tell 1 = .ok (.istore_n 3, 1) := by decide +kernel
theorem dX8_tell_2 : decode cX8_tell 2 = .ok (.iload_n 3, 1) := by decide +kernel
theorem dX8_tell_3 : decode cX8_tell 3 = .ok (.aload_n 0, 1) := by decide +kernel
theorem dX8_tell_4 : decode cX8_tell 4 = .ok (.getfield 43, 3) := by decide +kernel
theorem dX8_tell_7 : decode cX8_tell 7 = .ok (.if_icmp .ge 43, 3) := by decide +kernel
theorem dX8_tell_10 : decode cX8_tell 10 = .ok (.getstatic 56, 3) := by decide +kernel
theorem dX8_tell_13 : decode cX8_tell 13 = .ok (.iload_n 1, 1) := by decide +kernel
theorem dX8_tell_14 : decode cX8_tell 14 = .ok (.iaload, 1) := by decide +kernel
theorem dX8_tell_15 : decode cX8_tell 15 = .ok (.aload_n 0, 1) := by decide +kernel
theorem dX8_tell_16 : decode cX8_tell 16 = .ok (.getfield 11, 3) := by decide +kernel
theorem dX8_tell_19 : decode cX8_tell 19 = .ok (.iload_n 3, 1) := by decide +kernel
theorem dX8_tell_20 : decode cX8_tell 20 = .ok (.iaload, 1) := by decide +kernel
theorem dX8_tell_21 : decode cX8_tell 21 = .ok (.ishr, 1) := by decide +kernel
theorem dX8_tell_22 : decode cX8_tell 22 = .ok (.iconst 1, 1) := by decide +kernel
theorem dX8_tell_23 : decode cX8_tell 23 = .ok (.iand, 1) := by decide +kernel
theorem dX8_tell_24 : decode cX8_tell 24 = .ok (.iconst 1, 1) := by decide +kernel
theorem dX8_tell_25 : decode cX8_tell 25 = .ok (.if_icmp .ne 19, 3) := by decide +kernel
theorem dX8_tell_28 : decode cX8_tell 28 = .ok (.aload_n 0, 1) := by decide +kernel
theorem dX8_tell_29 : decode cX8_tell 29 = .ok (.iload_n 3, 1) := by decide +kernel
theorem dX8_tell_30 : decode cX8_tell 30 = .ok (.aload_n 2, 1) := by decide +kernel
theorem dX8_tell_31 : decode cX8_tell 31 = .ok (.invokevirtual 59, 3) := by decide +kernel
theorem dX8_tell_34 : decode cX8_tell 34 = .ok (.ifCond .eq 10, 3) := by decide +kernel
theorem dX8_tell_37 : decode cX8_tell 37 = .ok (.aload_n 0, 1) := by decide +kernel
theorem dX8_tell_38 : decode cX8_tell 38 = .ok (.getfield 15, 3) := by decide +kernel
theorem dX8_tell_41 : decode cX8_tell 41 = .ok (.iload_n 3, 1) := by decide +kernel
theorem dX8_tell_42 : decode cX8_tell 42 = .ok (.iaload, 1) := by decide +kernel
theorem dX8_tell_43 : decode cX8_tell 43 = .ok (.ireturn, 1) := by decide +kernel
theorem dX8_tell_44 : decode cX8_tell 44 = .ok (.iinc 3 1, 3) := by decide +kernel
theorem dX8_tell_47 : decode cX8_tell 47 = .ok (.goto (-45), 3) := by decide +kernel
theorem dX8_tell_50 : decode cX8_tell 50 = .ok (.iconst 0, 1) := by decide +kernel
theorem dX8_tell_51 : decode cX8_tell 51 = .ok (.ireturn, 1) := by decide +kernel
theorem dX8_holds_0 : decode cX8_holds 0 = .ok (.lconst 1, 1) := by decide +kernel
theorem dX8_holds_1 : decode cX8_holds 1 = .ok (.lstore_n 3, 1) := by decide +kernel
theorem dX8_holds_2 : decode cX8_holds 2 = .ok (.aload_n 0, 1) := by decide +kernel
theorem dX8_holds_3 : decode cX8_holds 3 = .ok (.getfield 18, 3) := by decide +kernel
theorem dX8_holds_6 : decode cX8_holds 6 = .ok (.iload_n 1, 1) := by decide +kernel
theorem dX8_holds_7 : decode cX8_holds 7 = .ok (.iaload, 1) := by decide +kernel
theorem dX8_holds_8 : decode cX8_holds 8 = .ok (.istore 5, 2) := by decide +kernel
theorem dX8_holds_10 : decode cX8_holds 10 = .ok (.iload 5, 2) := by decide +kernel
theorem dX8_holds_12 : decode cX8_holds 12 = .ok (.aload_n 0, 1) := by decide +kernel
theorem dX8_holds_13 : decode cX8_holds 13 = .ok (.getfield 21, 3) := by decide +kernel
theorem dX8_holds_16 : decode cX8_holds 16 = .ok (.iload_n 1, 1) := by decide +kernel
theorem dX8_holds_17 : decode cX8_holds 17 = .ok (.iaload, 1) := by decide +kernel
theorem dX8_holds_18 : decode cX8_holds 18 = .ok (.if_icmp .ge 100, 3) := by decide +kernel
theorem dX8_holds_21 : decode cX8_holds 21 = .ok (.lload_n 3, 1) := by decide +kernel
theorem dX8_holds_22 : decode cX8_holds 22 = .ok (.iconst 1, 1) := by decide +kernel
theorem dX8_holds_23 : decode cX8_holds 23 = .ok (.lushr, 1) := by decide +kernel
theorem dX8_holds_24 : decode cX8_holds 24 = .ok (.lstore 6, 2) := by decide +kernel
theorem dX8_holds_26 : decode cX8_holds 26 = .ok (.aload_n 0, 1) := by decide +kernel
theorem dX8_holds_27 : decode cX8_holds 27 = .ok (.getfield 24, 3) := by decide +kernel
theorem dX8_holds_30 : decode cX8_holds 30 = .ok (.iload 5, 2) := by decide +kernel
theorem dX8_holds_32 : decode cX8_holds 32 = .ok (.iaload, 1) := by decide +kernel
theorem dX8_holds_33 : decode cX8_holds 33 = .ok (.bipush 12, 2) := by decide +kernel
theorem dX8_holds_35 : decode cX8_holds 35 = .ok (.if_icmp .ne 10, 3) := by decide +kernel
theorem dX8_holds_38 : decode cX8_holds 38 = .ok (.lload_n 3, 1) := by decide +kernel
theorem dX8_holds_39 : decode cX8_holds 39 = .ok (.lconst 1, 1) := by decide +kernel
theorem dX8_holds_40 : decode cX8_holds 40 = .ok (.lxor, 1) := by decide +kernel
theorem dX8_holds_41 : decode cX8_holds 41 = .ok (.lstore_n 3, 1) := by decide +kernel
theorem dX8_holds_42 : decode cX8_holds 42 = .ok (.goto 70, 3) := by decide +kernel
theorem dX8_holds_45 : decode cX8_holds 45 = .ok (.aload_n 0, 1) := by decide +kernel
theorem dX8_holds_46 : decode cX8_holds 46 = .ok (.getfield 24, 3) := by decide +kernel
theorem dX8_holds_49 : decode cX8_holds 49 = .ok (.iload 5, 2) := by decide +kernel
theorem dX8_holds_51 : decode cX8_holds 51 = .ok (.iaload, 1) := by decide +kernel
theorem dX8_holds_52 : decode cX8_holds 52 = .ok (.bipush 11, 2) := by decide +kernel
theorem dX8_holds_54 : decode cX8_holds 54 = .ok (.if_icmp .ne 15, 3) := by decide +kernel
theorem dX8_holds_57 : decode cX8_holds 57 = .ok (.lload 6, 2) := by decide +kernel
theorem dX8_holds_59 : decode cX8_holds 59 = .ok (.lload_n 3, 1) := by decide +kernel
theorem dX8_holds_60 : decode cX8_holds 60 = .ok (.ldc2_w 63, 3) := by decide +kernel
theorem dX8_holds_63 : decode cX8_holds 63 = .ok (.lor, 1) := by decide +kernel
theorem dX8_holds_64 : decode cX8_holds 64 = .ok (.land, 1) := by decide +kernel
theorem dX8_holds_65 : decode cX8_holds 65 = .ok (.lstore_n 3, 1) := by decide +kernel
theorem dX8_holds_66 : decode cX8_holds 66 = .ok (.goto 46, 3) := by decide +kernel
theorem dX8_holds_69 : decode cX8_holds 69 = .ok (.aload_n 0, 1) := by decide +kernel
theorem dX8_holds_70 : decode cX8_holds 70 = .ok (.getfield 24, 3) := by decide +kernel
theorem dX8_holds_73 : decode cX8_holds 73 = .ok (.iload 5, 2) := by decide +kernel
theorem dX8_holds_75 : decode cX8_holds 75 = .ok (.iaload, 1) := by decide +kernel
theorem dX8_holds_76 : decode cX8_holds 76 = .ok (.bipush 10, 2) := by decide +kernel
theorem dX8_holds_78 : decode cX8_holds 78 = .ok (.if_icmp .ne 13, 3) := by decide +kernel
theorem dX8_holds_81 : decode cX8_holds 81 = .ok (.lload 6, 2) := by decide +kernel
theorem dX8_holds_83 : decode cX8_holds 83 = .ok (.lload_n 3, 1) := by decide +kernel
theorem dX8_holds_84 : decode cX8_holds 84 = .ok (.lconst 1, 1) := by decide +kernel
theorem dX8_holds_85 : decode cX8_holds 85 = .ok (.land, 1) := by decide +kernel
theorem dX8_holds_86 : decode cX8_holds 86 = .ok (.lor, 1) := by decide +kernel
theorem dX8_holds_87 : decode cX8_holds 87 = .ok (.lstore_n 3, 1) := by decide +kernel
theorem dX8_holds_88 : decode cX8_holds 88 = .ok (.goto 24, 3) := by decide +kernel
theorem dX8_holds_91 : decode cX8_holds 91 = .ok (.lload_n 3, 1) := by decide +kernel
theorem dX8_holds_92 : decode cX8_holds 92 = .ok (.iconst 1, 1) := by decide +kernel
theorem dX8_holds_93 : decode cX8_holds 93 = .ok (.lshl, 1) := by decide +kernel
theorem dX8_holds_94 : decode cX8_holds 94 = .ok (.aload_n 0, 1) := by decide +kernel
theorem dX8_holds_95 : decode cX8_holds 95 = .ok (.iload 5, 2) := by decide +kernel
theorem dX8_holds_97 : decode cX8_holds 97 = .ok (.aload_n 2, 1) := by decide +kernel
theorem dX8_holds_98 : decode cX8_holds 98 = .ok (.invokevirtual 65, 3) := by decide +kernel
theorem dX8_holds_101 : decode cX8_holds 101 = .ok (.ifCond .eq 7, 3) := by decide +kernel
theorem dX8_holds_104 : decode cX8_holds 104 = .ok (.iconst 1, 1) := by decide +kernel
theorem dX8_holds_105 : decode cX8_holds 105 = .ok (.goto 4, 3) := by decide +kernel
theorem dX8_holds_108 : decode cX8_holds 108 = .ok (.iconst 0, 1) := by decide +kernel
theorem dX8_holds_109 : decode cX8_holds 109 = .ok (.i2l, 1) := by decide +kernel
theorem dX8_holds_110 : decode cX8_holds 110 = .ok (.lor, 1) := by decide +kernel
theorem dX8_holds_111 : decode cX8_holds 111 = .ok (.lstore_n 3, 1) := by decide +kernel
theorem dX8_holds_112 : decode cX8_holds 112 = .ok (.iinc 5 1, 3) := by decide +kernel
theorem dX8_holds_115 : decode cX8_holds 115 = .ok (.goto (-105), 3) := by decide +kernel
theorem dX8_holds_118 : decode cX8_holds 118 = .ok (.lload_n 3, 1) := by decide +kernel
theorem dX8_holds_119 : decode cX8_holds 119 = .ok (.lconst 1, 1) := by decide +kernel
theorem dX8_holds_120 : decode cX8_holds 120 = .ok (.land, 1) := by decide +kernel
theorem dX8_holds_121 : decode cX8_holds 121 = .ok (.lconst 1, 1) := by decide +kernel
theorem dX8_holds_122 : decode cX8_holds 122 = .ok (.lcmp, 1) := by decide +kernel
theorem dX8_holds_123 : decode cX8_holds 123 = .ok (.ifCond .ne 7, 3) := by decide +kernel
theorem dX8_holds_126 : decode cX8_holds 126 = .ok (.iconst 1, 1) := by decide +kernel
theorem dX8_holds_127 : decode cX8_holds 127 = .ok (.goto 4, 3) := by decide +kernel
theorem dX8_holds_130 : decode cX8_holds 130 = .ok (.iconst 0, 1) := by decide +kernel
theorem dX8_holds_131 : decode cX8_holds 131 = .ok (.ireturn, 1) := by decide +kernel
theorem dX8_compares_0 : decode cX8_compares 0 = .ok (.aload_n 0, 1) := by decide +kernel
theorem dX8_compares_1 : decode cX8_compares 1 = .ok (.getfield 27, 3) := by decide +kernel
theorem dX8_compares_4 : decode cX8_compares 4 = .ok (.iload_n 1, 1) := by decide +kernel
theorem dX8_compares_5 : decode cX8_compares 5 = .ok (.iaload, 1) := by decide +kernel
theorem dX8_compares_6 : decode cX8_compares 6 = .ok (.ifCond .lt 12, 3) := by decide +kernel
theorem dX8_compares_9 : decode cX8_compares 9 = .ok (.aload_n 0, 1) := by decide +kernel
theorem dX8_compares_10 : decode cX8_compares 10 = .ok (.getfield 27, 3) := by decide +kernel
theorem dX8_compares_13 : decode cX8_compares 13 = .ok (.iload_n 1, 1) := by decide +kernel
theorem dX8_compares_14 : decode cX8_compares 14 = .ok (.iaload, 1) := by decide +kernel
theorem dX8_compares_15 : decode cX8_compares 15 = .ok (.goto 13, 3) := by decide +kernel
theorem dX8_compares_18 : decode cX8_compares 18 = .ok (.aload_n 2, 1) := by decide +kernel
theorem dX8_compares_19 : decode cX8_compares 19 = .ok (.iconst (-1), 1) := by decide +kernel
theorem dX8_compares_20 : decode cX8_compares 20 = .ok (.aload_n 0, 1) := by decide +kernel
theorem dX8_compares_21 : decode cX8_compares 21 = .ok (.getfield 27, 3) := by decide +kernel
theorem dX8_compares_24 : decode cX8_compares 24 = .ok (.iload_n 1, 1) := by decide +kernel
theorem dX8_compares_25 : decode cX8_compares 25 = .ok (.iaload, 1) := by decide +kernel
theorem dX8_compares_26 : decode cX8_compares 26 = .ok (.isub, 1) := by decide +kernel
theorem dX8_compares_27 : decode cX8_compares 27 = .ok (.iaload, 1) := by decide +kernel
theorem dX8_compares_28 : decode cX8_compares 28 = .ok (.istore_n 3, 1) := by decide +kernel
theorem dX8_compares_29 : decode cX8_compares 29 = .ok (.aload_n 0, 1) := by decide +kernel
theorem dX8_compares_30 : decode cX8_compares 30 = .ok (.getfield 30, 3) := by decide +kernel
theorem dX8_compares_33 : decode cX8_compares 33 = .ok (.iload_n 1, 1) := by decide +kernel
theorem dX8_compares_34 : decode cX8_compares 34 = .ok (.iaload, 1) := by decide +kernel
theorem dX8_compares_35 : decode cX8_compares 35 = .ok (.ifCond .lt 12, 3) := by decide +kernel
theorem dX8_compares_38 : decode cX8_compares 38 = .ok (.aload_n 0, 1) := by decide +kernel
theorem dX8_compares_39 : decode cX8_compares 39 = .ok (.getfield 30, 3) := by decide +kernel
theorem dX8_compares_42 : decode cX8_compares 42 = .ok (.iload_n 1, 1) := by decide +kernel
theorem dX8_compares_43 : decode cX8_compares 43 = .ok (.iaload, 1) := by decide +kernel
theorem dX8_compares_44 : decode cX8_compares 44 = .ok (.goto 13, 3) := by decide +kernel
theorem dX8_compares_47 : decode cX8_compares 47 = .ok (.aload_n 2, 1) := by decide +kernel
theorem dX8_compares_48 : decode cX8_compares 48 = .ok (.iconst (-1), 1) := by decide +kernel
theorem dX8_compares_49 : decode cX8_compares 49 = .ok (.aload_n 0, 1) := by decide +kernel
theorem dX8_compares_50 : decode cX8_compares 50 = .ok (.getfield 30, 3) := by decide +kernel
theorem dX8_compares_53 : decode cX8_compares 53 = .ok (.iload_n 1, 1) := by decide +kernel
theorem dX8_compares_54 : decode cX8_compares 54 = .ok (.iaload, 1) := by decide +kernel
theorem dX8_compares_55 : decode cX8_compares 55 = .ok (.isub, 1) := by decide +kernel
theorem dX8_compares_56 : decode cX8_compares 56 = .ok (.iaload, 1) := by decide +kernel
theorem dX8_compares_57 : decode cX8_compares 57 = .ok (.istore 4, 2) := by decide +kernel
theorem dX8_compares_59 : decode cX8_compares 59 = .ok (.aload_n 0, 1) := by decide +kernel
theorem dX8_compares_60 : decode cX8_compares 60 = .ok (.getfield 24, 3) := by decide +kernel
theorem dX8_compares_63 : decode cX8_compares 63 = .ok (.iload_n 1, 1) := by decide +kernel
theorem dX8_compares_64 : decode cX8_compares 64 = .ok (.iaload, 1) := by decide +kernel
theorem dX8_compares_65 : decode cX8_compares 65 = .ok (.sipush 316, 3) := by decide +kernel
theorem dX8_compares_68 : decode cX8_compares 68 = .ok (.if_icmp .ne 15, 3) := by decide +kernel
theorem dX8_compares_71 : decode cX8_compares 71 = .ok (.iload_n 3, 1) := by decide +kernel
theorem dX8_compares_72 : decode cX8_compares 72 = .ok (.iload 4, 2) := by decide +kernel
theorem dX8_compares_74 : decode cX8_compares 74 = .ok (.if_icmp .ge 7, 3) := by decide +kernel
theorem dX8_compares_77 : decode cX8_compares 77 = .ok (.iconst 1, 1) := by decide +kernel
theorem dX8_compares_78 : decode cX8_compares 78 = .ok (.goto 4, 3) := by decide +kernel
theorem dX8_compares_81 : decode cX8_compares 81 = .ok (.iconst 0, 1) := by decide +kernel
theorem dX8_compares_82 : decode cX8_compares 82 = .ok (.ireturn, 1) := by decide +kernel
theorem dX8_compares_83 : decode cX8_compares 83 = .ok (.aload_n 0, 1) := by decide +kernel
theorem dX8_compares_84 : decode cX8_compares 84 = .ok (.getfield 24, 3) := by decide +kernel
theorem dX8_compares_87 : decode cX8_compares 87 = .ok (.iload_n 1, 1) := by decide +kernel
theorem dX8_compares_88 : decode cX8_compares 88 = .ok (.iaload, 1) := by decide +kernel
theorem dX8_compares_89 : decode cX8_compares 89 = .ok (.sipush 318, 3) := by decide +kernel
theorem dX8_compares_92 : decode cX8_compares 92 = .ok (.if_icmp .ne 17, 3) := by decide +kernel
theorem dX8_compares_95 : decode cX8_compares 95 = .ok (.iload_n 3, 1) := by decide +kernel
theorem dX8_compares_96 : decode cX8_compares 96 = .ok (.iload 4, 2) := by decide +kernel
theorem dX8_compares_98 : decode cX8_compares 98 = .ok (.if_icmp .le 7, 3) := by decide +kernel
theorem dX8_compares_101 : decode cX8_compares 101 = .ok (.iconst 1, 1) := by decide +kernel
theorem dX8_compares_102 : decode cX8_compares 102 = .ok (.goto 18, 3) := by decide +kernel
theorem dX8_compares_105 : decode cX8_compares 105 = .ok (.iconst 0, 1) := by decide +kernel
theorem dX8_compares_106 : decode cX8_compares 106 = .ok (.goto 14, 3) := by decide +kernel
theorem dX8_compares_109 : decode cX8_compares 109 = .ok (.iload_n 3, 1) := by decide +kernel
theorem dX8_compares_110 : decode cX8_compares 110 = .ok (.iload 4, 2) := by decide +kernel
theorem dX8_compares_112 : decode cX8_compares 112 = .ok (.if_icmp .ne 7, 3) := by decide +kernel
theorem dX8_compares_115 : decode cX8_compares 115 = .ok (.iconst 1, 1) := by decide +kernel
theorem dX8_compares_116 : decode cX8_compares 116 = .ok (.goto 4, 3) := by decide +kernel
theorem dX8_compares_119 : decode cX8_compares 119 = .ok (.iconst 0, 1) := by decide +kernel
theorem dX8_compares_120 : decode cX8_compares 120 = .ok (.ireturn, 1) := by decide +kernel
theorem dX8_read_0 : decode cX8_read 0 = .ok (.aload_n 0, 1) := by decide +kernel
theorem dX8_read_1 : decode cX8_read 1 = .ok (.iload_n 1, 1) := by decide +kernel
theorem dX8_read_2 : decode cX8_read 2 = .ok (.invokevirtual 68, 3) := by decide +kernel
theorem dX8_read_5 : decode cX8_read 5 = .ok (.aload_n 0, 1) := by decide +kernel
theorem dX8_read_6 : decode cX8_read 6 = .ok (.iconst 0, 1) := by decide +kernel
theorem dX8_read_7 : decode cX8_read 7 = .ok (.putfield 72, 3) := by decide +kernel
theorem dX8_read_10 : decode cX8_read 10 = .ok (.aload_n 0, 1) := by decide +kernel
theorem dX8_read_11 : decode cX8_read 11 = .ok (.iconst 0, 1) := by decide +kernel
theorem dX8_read_12 : decode cX8_read 12 = .ok (.putfield 43, 3) := by decide +kernel
theorem dX8_read_15 : decode cX8_read 15 = .ok (.aload_n 0, 1) := by decide +kernel
theorem dX8_read_16 : decode cX8_read 16 = .ok (.iconst 0, 1) := by decide +kernel
theorem dX8_read_17 : decode cX8_read 17 = .ok (.putfield 47, 3) := by decide +kernel
theorem dX8_read_20 : decode cX8_read 20 = .ok (.iconst 0, 1) := by decide +kernel
theorem dX8_read_21 : decode cX8_read 21 = .ok (.istore_n 2, 1) := by decide +kernel
theorem dX8_read_22 : decode cX8_read 22 = .ok (.iload_n 2, 1) := by decide +kernel
theorem dX8_read_23 : decode cX8_read 23 = .ok (.sipush 200, 3) := by decide +kernel
theorem dX8_read_26 : decode cX8_read 26 = .ok (.if_icmp .gt 48, 3) := by decide +kernel
theorem dX8_read_29 : decode cX8_read 29 = .ok (.aload_n 0, 1) := by decide +kernel
theorem dX8_read_30 : decode cX8_read 30 = .ok (.getfield 33, 3) := by decide +kernel
theorem dX8_read_33 : decode cX8_read 33 = .ok (.aload_n 0, 1) := by decide +kernel
theorem dX8_read_34 : decode cX8_read 34 = .ok (.getfield 72, 3) := by decide +kernel
theorem dX8_read_37 : decode cX8_read 37 = .ok (.iaload, 1) := by decide +kernel
theorem dX8_read_38 : decode cX8_read 38 = .ok (.iconst (-1), 1) := by decide +kernel
theorem dX8_read_39 : decode cX8_read 39 = .ok (.if_icmp .eq 35, 3) := by decide +kernel
theorem dX8_read_42 : decode cX8_read 42 = .ok (.aload_n 0, 1) := by decide +kernel
theorem dX8_read_43 : decode cX8_read 43 = .ok (.getfield 43, 3) := by decide +kernel
theorem dX8_read_46 : decode cX8_read 46 = .ok (.bipush 8, 2) := by decide +kernel
theorem dX8_read_48 : decode cX8_read 48 = .ok (.if_icmp .ge 10, 3) := by decide +kernel
theorem dX8_read_51 : decode cX8_read 51 = .ok (.aload_n 0, 1) := by decide +kernel
theorem dX8_read_52 : decode cX8_read 52 = .ok (.invokevirtual 75, 3) := by decide +kernel
theorem dX8_read_55 : decode cX8_read 55 = .ok (.ifCond .ne 13, 3) := by decide +kernel
theorem dX8_read_58 : decode cX8_read 58 = .ok (.aload_n 0, 1) := by decide +kernel
theorem dX8_read_59 : decode cX8_read 59 = .ok (.getfield 36, 3) := by decide +kernel
theorem dX8_read_62 : decode cX8_read 62 = .ok (.aload_n 0, 1) := by decide +kernel
theorem dX8_read_63 : decode cX8_read 63 = .ok (.getfield 72, 3) := by decide +kernel
theorem dX8_read_66 : decode cX8_read 66 = .ok (.iaload, 1) := by decide +kernel
theorem dX8_read_67 : decode cX8_read 67 = .ok (.ireturn, 1) := by decide +kernel
theorem dX8_read_68 : decode cX8_read 68 = .ok (.iinc 2 1, 3) := by decide +kernel
theorem dX8_read_71 : decode cX8_read 71 = .ok (.goto (-49), 3) := by decide +kernel
theorem dX8_read_74 : decode cX8_read 74 = .ok (.bipush (-3), 2) := by decide +kernel
theorem dX8_read_76 : decode cX8_read 76 = .ok (.ireturn, 1) := by decide +kernel
theorem dX8_cut_0 : decode cX8_cut 0 = .ok (.iconst 0, 1) := by decide +kernel
theorem dX8_cut_1 : decode cX8_cut 1 = .ok (.istore_n 2, 1) := by decide +kernel
theorem dX8_cut_2 : decode cX8_cut 2 = .ok (.iconst 0, 1) := by decide +kernel
theorem dX8_cut_3 : decode cX8_cut 3 = .ok (.istore_n 3, 1) := by decide +kernel
theorem dX8_cut_4 : decode cX8_cut 4 = .ok (.iload_n 3, 1) := by decide +kernel
theorem dX8_cut_5 : decode cX8_cut 5 = .ok (.iload_n 1, 1) := by decide +kernel
theorem dX8_cut_6 : decode cX8_cut 6 = .ok (.if_icmp .ge 42, 3) := by decide +kernel
theorem dX8_cut_9 : decode cX8_cut 9 = .ok (.aload_n 0, 1) := by decide +kernel
theorem dX8_cut_10 : decode cX8_cut 10 = .ok (.iload_n 3, 1) := by decide +kernel
theorem dX8_cut_11 : decode cX8_cut 11 = .ok (.invokevirtual 79, 3) := by decide +kernel
theorem dX8_cut_14 : decode cX8_cut 14 = .ok (.ifCond .ne 6, 3) := by decide +kernel
theorem dX8_cut_17 : decode cX8_cut 17 = .ok (.goto 25, 3) := by decide +kernel
theorem dX8_cut_20 : decode cX8_cut 20 = .ok (.aload_n 0, 1) := by decide +kernel
theorem dX8_cut_21 : decode cX8_cut 21 = .ok (.getfield 33, 3) := by decide +kernel
theorem dX8_cut_24 : decode cX8_cut 24 = .ok (.iload_n 2, 1) := by decide +kernel
theorem dX8_cut_25 : decode cX8_cut 25 = .ok (.aload_n 0, 1) := by decide +kernel
theorem dX8_cut_26 : decode cX8_cut 26 = .ok (.iload_n 3, 1) := by decide +kernel
theorem dX8_cut_27 : decode cX8_cut 27 = .ok (.iload_n 1, 1) := by decide +kernel
theorem dX8_cut_28 : decode cX8_cut 28 = .ok (.invokevirtual 83, 3) := by decide +kernel
theorem dX8_cut_31 : decode cX8_cut 31 = .ok (.iastore, 1) := by decide +kernel
theorem dX8_cut_32 : decode cX8_cut 32 = .ok (.aload_n 0, 1) := by decide +kernel
theorem dX8_cut_33 : decode cX8_cut 33 = .ok (.getfield 36, 3) := by decide +kernel
theorem dX8_cut_36 : decode cX8_cut 36 = .ok (.iload_n 2, 1) := by decide +kernel
theorem dX8_cut_37 : decode cX8_cut 37 = .ok (.iload_n 3, 1) := by decide +kernel
theorem dX8_cut_38 : decode cX8_cut 38 = .ok (.iastore, 1) := by decide +kernel
theorem dX8_cut_39 : decode cX8_cut 39 = .ok (.iinc 2 1, 3) := by decide +kernel
theorem dX8_cut_42 : decode cX8_cut 42 = .ok (.iinc 3 1, 3) := by decide +kernel
theorem dX8_cut_45 : decode cX8_cut 45 = .ok (.goto (-41), 3) := by decide +kernel
theorem dX8_cut_48 : decode cX8_cut 48 = .ok (.aload_n 0, 1) := by decide +kernel
theorem dX8_cut_49 : decode cX8_cut 49 = .ok (.getfield 33, 3) := by decide +kernel
theorem dX8_cut_52 : decode cX8_cut 52 = .ok (.iload_n 2, 1) := by decide +kernel
theorem dX8_cut_53 : decode cX8_cut 53 = .ok (.iconst (-1), 1) := by decide +kernel
theorem dX8_cut_54 : decode cX8_cut 54 = .ok (.iastore, 1) := by decide +kernel
theorem dX8_cut_55 : decode cX8_cut 55 = .ok (.aload_n 0, 1) := by decide +kernel
theorem dX8_cut_56 : decode cX8_cut 56 = .ok (.getfield 36, 3) := by decide +kernel
theorem dX8_cut_59 : decode cX8_cut 59 = .ok (.iload_n 2, 1) := by decide +kernel
theorem dX8_cut_60 : decode cX8_cut 60 = .ok (.iload_n 1, 1) := by decide +kernel
theorem dX8_cut_61 : decode cX8_cut 61 = .ok (.iastore, 1) := by decide +kernel
theorem dX8_cut_62 : decode cX8_cut 62 = .ok (.return_, 1) := by decide +kernel
theorem dX8_beginsAt_0 : decode cX8_beginsAt 0 = .ok (.aload_n 0, 1) := by decide +kernel
theorem dX8_beginsAt_1 : decode cX8_beginsAt 1 = .ok (.getfield 39, 3) := by decide +kernel
theorem dX8_beginsAt_4 : decode cX8_beginsAt 4 = .ok (.iload_n 1, 1) := by decide +kernel
theorem dX8_beginsAt_5 : decode cX8_beginsAt 5 = .ok (.baload, 1) := by decide +kernel
theorem dX8_beginsAt_6 : decode cX8_beginsAt 6 = .ok (.invokestatic 87, 3) := by decide +kernel
theorem dX8_beginsAt_9 : decode cX8_beginsAt 9 = .ok (.ifCond .eq 27, 3) := by decide +kernel
theorem dX8_beginsAt_12 : decode cX8_beginsAt 12 = .ok (.iload_n 1, 1) := by decide +kernel
theorem dX8_beginsAt_13 : decode cX8_beginsAt 13 = .ok (.ifCond .eq 17, 3) := by decide +kernel
theorem dX8_beginsAt_16 : decode cX8_beginsAt 16 = .ok (.aload_n 0, 1) := by decide +kernel
theorem dX8_beginsAt_17 : decode cX8_beginsAt 17 = .ok (.getfield 39, 3) := by decide +kernel
theorem dX8_beginsAt_20 : decode cX8_beginsAt 20 = .ok (.iload_n 1, 1) := by decide +kernel
theorem dX8_beginsAt_21 : decode cX8_beginsAt 21 = .ok (.iconst 1, 1) := by decide +kernel
theorem dX8_beginsAt_22 : decode cX8_beginsAt 22 = .ok (.isub, 1) := by decide +kernel
theorem dX8_beginsAt_23 : decode cX8_beginsAt 23 = .ok (.baload, 1) := by decide +kernel
theorem dX8_beginsAt_24 : decode cX8_beginsAt 24 = .ok (.invokestatic 87, 3) := by decide +kernel
theorem dX8_beginsAt_27 : decode cX8_beginsAt 27 = .ok (.ifCond .ne 7, 3) := by decide +kernel
theorem dX8_beginsAt_30 : decode cX8_beginsAt 30 = .ok (.iconst 1, 1) := by decide +kernel
theorem dX8_beginsAt_31 : decode cX8_beginsAt 31 = .ok (.goto 4, 3) := by decide +kernel
theorem dX8_beginsAt_34 : decode cX8_beginsAt 34 = .ok (.iconst 0, 1) := by decide +kernel
theorem dX8_beginsAt_35 : decode cX8_beginsAt 35 = .ok (.ireturn, 1) := by decide +kernel
theorem dX8_beginsAt_36 : decode cX8_beginsAt 36 = .ok (.aload_n 0, 1) := by decide +kernel
theorem dX8_beginsAt_37 : decode cX8_beginsAt 37 = .ok (.getfield 39, 3) := by decide +kernel
theorem dX8_beginsAt_40 : decode cX8_beginsAt 40 = .ok (.iload_n 1, 1) := by decide +kernel
theorem dX8_beginsAt_41 : decode cX8_beginsAt 41 = .ok (.baload, 1) := by decide +kernel
theorem dX8_beginsAt_42 : decode cX8_beginsAt 42 = .ok (.invokestatic 90, 3) := by decide +kernel
theorem dX8_beginsAt_45 : decode cX8_beginsAt 45 = .ok (.ifCond .eq 27, 3) := by decide +kernel
theorem dX8_beginsAt_48 : decode cX8_beginsAt 48 = .ok (.iload_n 1, 1) := by decide +kernel
theorem dX8_beginsAt_49 : decode cX8_beginsAt 49 = .ok (.ifCond .eq 17, 3) := by decide +kernel
theorem dX8_beginsAt_52 : decode cX8_beginsAt 52 = .ok (.aload_n 0, 1) := by decide +kernel
theorem dX8_beginsAt_53 : decode cX8_beginsAt 53 = .ok (.getfield 39, 3) := by decide +kernel
theorem dX8_beginsAt_56 : decode cX8_beginsAt 56 = .ok (.iload_n 1, 1) := by decide +kernel
theorem dX8_beginsAt_57 : decode cX8_beginsAt 57 = .ok (.iconst 1, 1) := by decide +kernel
theorem dX8_beginsAt_58 : decode cX8_beginsAt 58 = .ok (.isub, 1) := by decide +kernel
theorem dX8_beginsAt_59 : decode cX8_beginsAt 59 = .ok (.baload, 1) := by decide +kernel
theorem dX8_beginsAt_60 : decode cX8_beginsAt 60 = .ok (.invokestatic 90, 3) := by decide +kernel
theorem dX8_beginsAt_63 : decode cX8_beginsAt 63 = .ok (.ifCond .ne 7, 3) := by decide +kernel
theorem dX8_beginsAt_66 : decode cX8_beginsAt 66 = .ok (.iconst 1, 1) := by decide +kernel
theorem dX8_beginsAt_67 : decode cX8_beginsAt 67 = .ok (.goto 4, 3) := by decide +kernel
theorem dX8_beginsAt_70 : decode cX8_beginsAt 70 = .ok (.iconst 0, 1) := by decide +kernel
theorem dX8_beginsAt_71 : decode cX8_beginsAt 71 = .ok (.ireturn, 1) := by decide +kernel
theorem dX8_beginsAt_72 : decode cX8_beginsAt 72 = .ok (.aload_n 0, 1) := by decide +kernel
theorem dX8_beginsAt_73 : decode cX8_beginsAt 73 = .ok (.getfield 39, 3) := by decide +kernel
theorem dX8_beginsAt_76 : decode cX8_beginsAt 76 = .ok (.iload_n 1, 1) := by decide +kernel
theorem dX8_beginsAt_77 : decode cX8_beginsAt 77 = .ok (.baload, 1) := by decide +kernel
theorem dX8_beginsAt_78 : decode cX8_beginsAt 78 = .ok (.bipush 32, 2) := by decide +kernel
theorem dX8_beginsAt_80 : decode cX8_beginsAt 80 = .ok (.if_icmp .eq 7, 3) := by decide +kernel
theorem dX8_beginsAt_83 : decode cX8_beginsAt 83 = .ok (.iconst 1, 1) := by decide +kernel
theorem dX8_beginsAt_84 : decode cX8_beginsAt 84 = .ok (.goto 4, 3) := by decide +kernel
theorem dX8_beginsAt_87 : decode cX8_beginsAt 87 = .ok (.iconst 0, 1) := by decide +kernel
theorem dX8_beginsAt_88 : decode cX8_beginsAt 88 = .ok (.ireturn, 1) := by decide +kernel
theorem dX8_tokenAt_0 : decode cX8_tokenAt 0 = .ok (.aload_n 0, 1) := by decide +kernel
theorem dX8_tokenAt_1 : decode cX8_tokenAt 1 = .ok (.getfield 39, 3) := by decide +kernel
theorem dX8_tokenAt_4 : decode cX8_tokenAt 4 = .ok (.iload_n 1, 1) := by decide +kernel
theorem dX8_tokenAt_5 : decode cX8_tokenAt 5 = .ok (.baload, 1) := by decide +kernel
theorem dX8_tokenAt_6 : decode cX8_tokenAt 6 = .ok (.invokestatic 87, 3) := by decide +kernel
theorem dX8_tokenAt_9 : decode cX8_tokenAt 9 = .ok (.ifCond .eq 10, 3) := by decide +kernel
theorem dX8_tokenAt_12 : decode cX8_tokenAt 12 = .ok (.aload_n 0, 1) := by decide +kernel
theorem dX8_tokenAt_13 : decode cX8_tokenAt 13 = .ok (.iload_n 1, 1) := by decide +kernel
theorem dX8_tokenAt_14 : decode cX8_tokenAt 14 = .ok (.iload_n 2, 1) := by decide +kernel
theorem dX8_tokenAt_15 : decode cX8_tokenAt 15 = .ok (.invokevirtual 93, 3) := by decide +kernel
theorem dX8_tokenAt_18 : decode cX8_tokenAt 18 = .ok (.ireturn, 1) := by decide +kernel
theorem dX8_tokenAt_19 : decode cX8_tokenAt 19 = .ok (.aload_n 0, 1) := by decide +kernel
theorem dX8_tokenAt_20 : decode cX8_tokenAt 20 = .ok (.getfield 39, 3) := by decide +kernel
theorem dX8_tokenAt_23 : decode cX8_tokenAt 23 = .ok (.iload_n 1, 1) := by decide +kernel
theorem dX8_tokenAt_24 : decode cX8_tokenAt 24 = .ok (.baload, 1) := by decide +kernel
theorem dX8_tokenAt_25 : decode cX8_tokenAt 25 = .ok (.invokestatic 90, 3) := by decide +kernel
theorem dX8_tokenAt_28 : decode cX8_tokenAt 28 = .ok (.ifCond .eq 12, 3) := by decide +kernel
theorem dX8_tokenAt_31 : decode cX8_tokenAt 31 = .ok (.aload_n 0, 1) := by decide +kernel
theorem dX8_tokenAt_32 : decode cX8_tokenAt 32 = .ok (.iload_n 1, 1) := by decide +kernel
theorem dX8_tokenAt_33 : decode cX8_tokenAt 33 = .ok (.iload_n 2, 1) := by decide +kernel
theorem dX8_tokenAt_34 : decode cX8_tokenAt 34 = .ok (.invokevirtual 96, 3) := by decide +kernel
theorem dX8_tokenAt_37 : decode cX8_tokenAt 37 = .ok (.goto 17, 3) := by decide +kernel
theorem dX8_tokenAt_40 : decode cX8_tokenAt 40 = .ok (.sipush 256, 3) := by decide +kernel
theorem dX8_tokenAt_43 : decode cX8_tokenAt 43 = .ok (.aload_n 0, 1) := by decide +kernel
theorem dX8_tokenAt_44 : decode cX8_tokenAt 44 = .ok (.getfield 39, 3) := by decide +kernel
theorem dX8_tokenAt_47 : decode cX8_tokenAt 47 = .ok (.iload_n 1, 1) := by decide +kernel
theorem dX8_tokenAt_48 : decode cX8_tokenAt 48 = .ok (.baload, 1) := by decide +kernel
theorem dX8_tokenAt_49 : decode cX8_tokenAt 49 = .ok (.sipush 255, 3) := by decide +kernel
theorem dX8_tokenAt_52 : decode cX8_tokenAt 52 = .ok (.iand, 1) := by decide +kernel
theorem dX8_tokenAt_53 : decode cX8_tokenAt 53 = .ok (.iadd, 1) := by decide +kernel
theorem dX8_tokenAt_54 : decode cX8_tokenAt 54 = .ok (.ireturn, 1) := by decide +kernel
theorem dX8_wordAt_0 : decode cX8_wordAt 0 = .ok (.iload_n 1, 1) := by decide +kernel
theorem dX8_wordAt_1 : decode cX8_wordAt 1 = .ok (.istore_n 3, 1) := by decide +kernel
theorem dX8_wordAt_2 : decode cX8_wordAt 2 = .ok (.iload_n 3, 1) := by decide +kernel
theorem dX8_wordAt_3 : decode cX8_wordAt 3 = .ok (.iload_n 2, 1) := by decide +kernel
theorem dX8_wordAt_4 : decode cX8_wordAt 4 = .ok (.if_icmp .ge 21, 3) := by decide +kernel
theorem dX8_wordAt_7 : decode cX8_wordAt 7 = .ok (.aload_n 0, 1) := by decide +kernel
theorem dX8_wordAt_8 : decode cX8_wordAt 8 = .ok (.getfield 39, 3) := by decide +kernel
theorem dX8_wordAt_11 : decode cX8_wordAt 11 = .ok (.iload_n 3, 1) := by decide +kernel
theorem dX8_wordAt_12 : decode cX8_wordAt 12 = .ok (.baload, 1) := by decide +kernel
theorem dX8_wordAt_13 : decode cX8_wordAt 13 = .ok (.invokestatic 87, 3) := by decide +kernel
theorem dX8_wordAt_16 : decode cX8_wordAt 16 = .ok (.ifCond .eq 9, 3) := by decide +kernel
theorem dX8_wordAt_19 : decode cX8_wordAt 19 = .ok (.iinc 3 1, 3) := by decide +kernel
theorem dX8_wordAt_22 : decode cX8_wordAt 22 = .ok (.goto (-20), 3) := by decide +kernel
theorem dX8_wordAt_25 : decode cX8_wordAt 25 = .ok (.iconst 0, 1) := by decide +kernel
theorem dX8_wordAt_26 : decode cX8_wordAt 26 = .ok (.istore 4, 2) := by decide +kernel
theorem dX8_wordAt_28 : decode cX8_wordAt 28 = .ok (.iload 4, 2) := by decide +kernel
theorem dX8_wordAt_30 : decode cX8_wordAt 30 = .ok (.bipush 18, 2) := by decide +kernel
theorem dX8_wordAt_32 : decode cX8_wordAt 32 = .ok (.if_icmp .ge 25, 3) := by decide +kernel
theorem dX8_wordAt_35 : decode cX8_wordAt 35 = .ok (.aload_n 0, 1) := by decide +kernel
theorem dX8_wordAt_36 : decode cX8_wordAt 36 = .ok (.iload 4, 2) := by decide +kernel
theorem dX8_wordAt_38 : decode cX8_wordAt 38 = .ok (.iload_n 1, 1) := by decide +kernel
theorem dX8_wordAt_39 : decode cX8_wordAt 39 = .ok (.iload_n 3, 1) := by decide +kernel
theorem dX8_wordAt_40 : decode cX8_wordAt 40 = .ok (.iload_n 1, 1) := by decide +kernel
theorem dX8_wordAt_41 : decode cX8_wordAt 41 = .ok (.isub, 1) := by decide +kernel
theorem dX8_wordAt_42 : decode cX8_wordAt 42 = .ok (.invokevirtual 99, 3) := by decide +kernel
theorem dX8_wordAt_45 : decode cX8_wordAt 45 = .ok (.ifCond .eq 6, 3) := by decide +kernel
theorem dX8_wordAt_48 : decode cX8_wordAt 48 = .ok (.iload 4, 2) := by decide +kernel
theorem dX8_wordAt_50 : decode cX8_wordAt 50 = .ok (.ireturn, 1) := by decide +kernel
theorem dX8_wordAt_51 : decode cX8_wordAt 51 = .ok (.iinc 4 1, 3) := by decide +kernel
theorem dX8_wordAt_54 : decode cX8_wordAt 54 = .ok (.goto (-26), 3) := by decide +kernel
theorem dX8_wordAt_57 : decode cX8_wordAt 57 = .ok (.bipush (-2), 2) := by decide +kernel
theorem dX8_wordAt_59 : decode cX8_wordAt 59 = .ok (.ireturn, 1) := by decide +kernel
theorem dX8_isWord_0 : decode cX8_isWord 0 = .ok (.iload_n 3, 1) := by decide +kernel
theorem dX8_isWord_1 : decode cX8_isWord 1 = .ok (.bipush 8, 2) := by decide +kernel
theorem dX8_isWord_3 : decode cX8_isWord 3 = .ok (.if_icmp .ge 19, 3) := by decide +kernel
theorem dX8_isWord_6 : decode cX8_isWord 6 = .ok (.ldc 103, 2) := by decide +kernel
theorem dX8_isWord_8 : decode cX8_isWord 8 = .ok (.iload_n 1, 1) := by decide +kernel
theorem dX8_isWord_9 : decode cX8_isWord 9 = .ok (.bipush 8, 2) := by decide +kernel
theorem dX8_isWord_11 : decode cX8_isWord 11 = .ok (.imul, 1) := by decide +kernel
theorem dX8_isWord_12 : decode cX8_isWord 12 = .ok (.iload_n 3, 1) := by decide +kernel
theorem dX8_isWord_13 : decode cX8_isWord 13 = .ok (.iadd, 1) := by decide +kernel
theorem dX8_isWord_14 : decode cX8_isWord 14 = .ok (.invokevirtual 105, 3) := by decide +kernel
theorem dX8_isWord_17 : decode cX8_isWord 17 = .ok (.bipush 32, 2) := by decide +kernel
theorem dX8_isWord_19 : decode cX8_isWord 19 = .ok (.if_icmp .eq 5, 3) := by decide +kernel
theorem dX8_isWord_22 : decode cX8_isWord 22 = .ok (.iconst 0, 1) := by decide +kernel
theorem dX8_isWord_23 : decode cX8_isWord 23 = .ok (.ireturn, 1) := by decide +kernel
theorem dX8_isWord_24 : decode cX8_isWord 24 = .ok (.iconst 0, 1) := by decide +kernel
theorem dX8_isWord_25 : decode cX8_isWord 25 = .ok (.istore 4, 2) := by decide +kernel
theorem dX8_isWord_27 : decode cX8_isWord 27 = .ok (.iload 4, 2) := by decide +kernel
theorem dX8_isWord_29 : decode cX8_isWord 29 = .ok (.iload_n 3, 1) := by decide +kernel
theorem dX8_isWord_30 : decode cX8_isWord 30 = .ok (.if_icmp .ge 35, 3) := by decide +kernel
theorem dX8_isWord_33 : decode cX8_isWord 33 = .ok (.ldc 103, 2) := by decide +kernel
theorem dX8_isWord_35 : decode cX8_isWord 35 = .ok (.iload_n 1, 1) := by decide +kernel
theorem dX8_isWord_36 : decode cX8_isWord 36 = .ok (.bipush 8, 2) := by decide +kernel
theorem dX8_isWord_38 : decode cX8_isWord 38 = .ok (.imul, 1) := by decide +kernel
theorem dX8_isWord_39 : decode cX8_isWord 39 = .ok (.iload 4, 2) := by decide +kernel
theorem dX8_isWord_41 : decode cX8_isWord 41 = .ok (.iadd, 1) := by decide +kernel
theorem dX8_isWord_42 : decode cX8_isWord 42 = .ok (.invokevirtual 105, 3) := by decide +kernel
theorem dX8_isWord_45 : decode cX8_isWord 45 = .ok (.aload_n 0, 1) := by decide +kernel
theorem dX8_isWord_46 : decode cX8_isWord 46 = .ok (.getfield 39, 3) := by decide +kernel
theorem dX8_isWord_49 : decode cX8_isWord 49 = .ok (.iload_n 2, 1) := by decide +kernel
theorem dX8_isWord_50 : decode cX8_isWord 50 = .ok (.iload 4, 2) := by decide +kernel
theorem dX8_isWord_52 : decode cX8_isWord 52 = .ok (.iadd, 1) := by decide +kernel
theorem dX8_isWord_53 : decode cX8_isWord 53 = .ok (.baload, 1) := by decide +kernel
theorem dX8_isWord_54 : decode cX8_isWord 54 = .ok (.if_icmp .eq 5, 3) := by decide +kernel
theorem dX8_isWord_57 : decode cX8_isWord 57 = .ok (.iconst 0, 1) := by decide +kernel
theorem dX8_isWord_58 : decode cX8_isWord 58 = .ok (.ireturn, 1) := by decide +kernel
theorem dX8_isWord_59 : decode cX8_isWord 59 = .ok (.iinc 4 1, 3) := by decide +kernel
theorem dX8_isWord_62 : decode cX8_isWord 62 = .ok (.goto (-35), 3) := by decide +kernel
theorem dX8_isWord_65 : decode cX8_isWord 65 = .ok (.iconst 1, 1) := by decide +kernel
theorem dX8_isWord_66 : decode cX8_isWord 66 = .ok (.ireturn, 1) := by decide +kernel
theorem dX8_numberAt_0 : decode cX8_numberAt 0 = .ok (.iconst 0, 1) := by decide +kernel
theorem dX8_numberAt_1 : decode cX8_numberAt 1 = .ok (.istore_n 3, 1) := by decide +kernel
theorem dX8_numberAt_2 : decode cX8_numberAt 2 = .ok (.iload_n 1, 1) := by decide +kernel
theorem dX8_numberAt_3 : decode cX8_numberAt 3 = .ok (.istore 4, 2) := by decide +kernel
theorem dX8_numberAt_5 : decode cX8_numberAt 5 = .ok (.iload 4, 2) := by decide +kernel
theorem dX8_numberAt_7 : decode cX8_numberAt 7 = .ok (.iload_n 2, 1) := by decide +kernel
theorem dX8_numberAt_8 : decode cX8_numberAt 8 = .ok (.if_icmp .ge 38, 3) := by decide +kernel
theorem dX8_numberAt_11 : decode cX8_numberAt 11 = .ok (.aload_n 0, 1) := by decide +kernel
theorem dX8_numberAt_12 : decode cX8_numberAt 12 = .ok (.getfield 39, 3) := by decide +kernel
theorem dX8_numberAt_15 : decode cX8_numberAt 15 = .ok (.iload 4, 2) := by decide +kernel
theorem dX8_numberAt_17 : decode cX8_numberAt 17 = .ok (.baload, 1) := by decide +kernel
theorem dX8_numberAt_18 : decode cX8_numberAt 18 = .ok (.invokestatic 90, 3) := by decide +kernel
theorem dX8_numberAt_21 : decode cX8_numberAt 21 = .ok (.ifCond .eq 25, 3) := by decide +kernel
theorem dX8_numberAt_24 : decode cX8_numberAt 24 = .ok (.iload_n 3, 1) := by decide +kernel
theorem dX8_numberAt_25 : decode cX8_numberAt 25 = .ok (.bipush 10, 2) := by decide +kernel
theorem dX8_numberAt_27 : decode cX8_numberAt 27 = .ok (.imul, 1) := by decide +kernel
theorem dX8_numberAt_28 : decode cX8_numberAt 28 = .ok (.aload_n 0, 1) := by decide +kernel
theorem dX8_numberAt_29 : decode cX8_numberAt 29 = .ok (.getfield 39, 3) := by decide +kernel
theorem dX8_numberAt_32 : decode cX8_numberAt 32 = .ok (.iload 4, 2) := by decide +kernel
theorem dX8_numberAt_34 : decode cX8_numberAt 34 = .ok (.baload, 1) := by decide +kernel
theorem dX8_numberAt_35 : decode cX8_numberAt 35 = .ok (.iadd, 1) := by decide +kernel
theorem dX8_numberAt_36 : decode cX8_numberAt 36 = .ok (.bipush 48, 2) := by decide +kernel
theorem dX8_numberAt_38 : decode cX8_numberAt 38 = .ok (.isub, 1) := by decide +kernel
theorem dX8_numberAt_39 : decode cX8_numberAt 39 = .ok (.istore_n 3, 1) := by decide +kernel
theorem dX8_numberAt_40 : decode cX8_numberAt 40 = .ok (.iinc 4 1, 3) := by decide +kernel
theorem dX8_numberAt_43 : decode cX8_numberAt 43 = .ok (.goto (-38), 3) := by decide +kernel
theorem dX8_numberAt_46 : decode cX8_numberAt 46 = .ok (.iload 4, 2) := by decide +kernel
theorem dX8_numberAt_48 : decode cX8_numberAt 48 = .ok (.iload_n 1, 1) := by decide +kernel
theorem dX8_numberAt_49 : decode cX8_numberAt 49 = .ok (.isub, 1) := by decide +kernel
theorem dX8_numberAt_50 : decode cX8_numberAt 50 = .ok (.iconst 4, 1) := by decide +kernel
theorem dX8_numberAt_51 : decode cX8_numberAt 51 = .ok (.if_icmp .le 8, 3) := by decide +kernel
theorem dX8_numberAt_54 : decode cX8_numberAt 54 = .ok (.bipush (-2), 2) := by decide +kernel
theorem dX8_numberAt_56 : decode cX8_numberAt 56 = .ok (.goto 8, 3) := by decide +kernel
theorem dX8_numberAt_59 : decode cX8_numberAt 59 = .ok (.sipush 1000, 3) := by decide +kernel
theorem dX8_numberAt_62 : decode cX8_numberAt 62 = .ok (.iload_n 3, 1) := by decide +kernel
theorem dX8_numberAt_63 : decode cX8_numberAt 63 = .ok (.iadd, 1) := by decide +kernel
theorem dX8_numberAt_64 : decode cX8_numberAt 64 = .ok (.ireturn, 1) := by decide +kernel
theorem dX8_readRule_0 : decode cX8_readRule 0 = .ok (.aload_n 0, 1) := by decide +kernel
theorem dX8_readRule_1 : decode cX8_readRule 1 = .ok (.getfield 33, 3) := by decide +kernel
theorem dX8_readRule_4 : decode cX8_readRule 4 = .ok (.aload_n 0, 1) := by decide +kernel
theorem dX8_readRule_5 : decode cX8_readRule 5 = .ok (.getfield 72, 3) := by decide +kernel
theorem dX8_readRule_8 : decode cX8_readRule 8 = .ok (.iaload, 1) := by decide +kernel
theorem dX8_readRule_9 : decode cX8_readRule 9 = .ok (.istore_n 1, 1) := by decide +kernel
theorem dX8_readRule_10 : decode cX8_readRule 10 = .ok (.iload_n 1, 1) := by decide +kernel
theorem dX8_readRule_11 : decode cX8_readRule 11 = .ok (.ifCond .lt 8, 3) := by decide +kernel
theorem dX8_readRule_14 : decode cX8_readRule 14 = .ok (.iload_n 1, 1) := by decide +kernel
theorem dX8_readRule_15 : decode cX8_readRule 15 = .ok (.iconst 5, 1) := by decide +kernel
theorem dX8_readRule_16 : decode cX8_readRule 16 = .ok (.if_icmp .le 5, 3) := by decide +kernel
theorem dX8_readRule_19 : decode cX8_readRule 19 = .ok (.iconst 0, 1) := by decide +kernel
theorem dX8_readRule_20 : decode cX8_readRule 20 = .ok (.ireturn, 1) := by decide +kernel
theorem dX8_readRule_21 : decode cX8_readRule 21 = .ok (.aload_n 0, 1) := by decide +kernel
theorem dX8_readRule_22 : decode cX8_readRule 22 = .ok (.invokevirtual 111, 3) := by decide +kernel
theorem dX8_readRule_25 : decode cX8_readRule 25 = .ok (.aload_n 0, 1) := by decide +kernel
theorem dX8_readRule_26 : decode cX8_readRule 26 = .ok (.getfield 47, 3) := by decide +kernel
theorem dX8_readRule_29 : decode cX8_readRule 29 = .ok (.istore_n 2, 1) := by decide +kernel
theorem dX8_readRule_30 : decode cX8_readRule 30 = .ok (.aload_n 0, 1) := by decide +kernel
theorem dX8_readRule_31 : decode cX8_readRule 31 = .ok (.getfield 33, 3) := by decide +kernel
theorem dX8_readRule_34 : decode cX8_readRule 34 = .ok (.aload_n 0, 1) := by decide +kernel
theorem dX8_readRule_35 : decode cX8_readRule 35 = .ok (.getfield 72, 3) := by decide +kernel
theorem dX8_readRule_38 : decode cX8_readRule 38 = .ok (.iaload, 1) := by decide +kernel
theorem dX8_readRule_39 : decode cX8_readRule 39 = .ok (.bipush 9, 2) := by decide +kernel
theorem dX8_readRule_41 : decode cX8_readRule 41 = .ok (.if_icmp .ne 17, 3) := by decide +kernel
theorem dX8_readRule_44 : decode cX8_readRule 44 = .ok (.aload_n 0, 1) := by decide +kernel
theorem dX8_readRule_45 : decode cX8_readRule 45 = .ok (.invokevirtual 111, 3) := by decide +kernel
theorem dX8_readRule_48 : decode cX8_readRule 48 = .ok (.aload_n 0, 1) := by decide +kernel
theorem dX8_readRule_49 : decode cX8_readRule 49 = .ok (.iconst 0, 1) := by decide +kernel
theorem dX8_readRule_50 : decode cX8_readRule 50 = .ok (.invokevirtual 114, 3) := by decide +kernel
theorem dX8_readRule_53 : decode cX8_readRule 53 = .ok (.ifCond .ne 5, 3) := by decide +kernel
theorem dX8_readRule_56 : decode cX8_readRule 56 = .ok (.iconst 0, 1) := by decide +kernel
theorem dX8_readRule_57 : decode cX8_readRule 57 = .ok (.ireturn, 1) := by decide +kernel
theorem dX8_readRule_58 : decode cX8_readRule 58 = .ok (.aload_n 0, 1) := by decide +kernel
theorem dX8_readRule_59 : decode cX8_readRule 59 = .ok (.getfield 33, 3) := by decide +kernel
theorem dX8_readRule_62 : decode cX8_readRule 62 = .ok (.aload_n 0, 1) := by decide +kernel
theorem dX8_readRule_63 : decode cX8_readRule 63 = .ok (.getfield 72, 3) := by decide +kernel
theorem dX8_readRule_66 : decode cX8_readRule 66 = .ok (.iaload, 1) := by decide +kernel
theorem dX8_readRule_67 : decode cX8_readRule 67 = .ok (.istore_n 3, 1) := by decide +kernel
theorem dX8_readRule_68 : decode cX8_readRule 68 = .ok (.iload_n 3, 1) := by decide +kernel
theorem dX8_readRule_69 : decode cX8_readRule 69 = .ok (.bipush 6, 2) := by decide +kernel
theorem dX8_readRule_71 : decode cX8_readRule 71 = .ok (.if_icmp .lt 9, 3) := by decide +kernel
theorem dX8_readRule_74 : decode cX8_readRule 74 = .ok (.iload_n 3, 1) := by decide +kernel
theorem dX8_readRule_75 : decode cX8_readRule 75 = .ok (.bipush 8, 2) := by decide +kernel
theorem dX8_readRule_77 : decode cX8_readRule 77 = .ok (.if_icmp .le 5, 3) := by decide +kernel
theorem dX8_readRule_80 : decode cX8_readRule 80 = .ok (.iconst 0, 1) := by decide +kernel
theorem dX8_readRule_81 : decode cX8_readRule 81 = .ok (.ireturn, 1) := by decide +kernel
theorem dX8_readRule_82 : decode cX8_readRule 82 = .ok (.aload_n 0, 1) := by decide +kernel
theorem dX8_readRule_83 : decode cX8_readRule 83 = .ok (.invokevirtual 111, 3) := by decide +kernel
theorem dX8_readRule_86 : decode cX8_readRule 86 = .ok (.aload_n 0, 1) := by decide +kernel
theorem dX8_readRule_87 : decode cX8_readRule 87 = .ok (.getfield 33, 3) := by decide +kernel
theorem dX8_readRule_90 : decode cX8_readRule 90 = .ok (.aload_n 0, 1) := by decide +kernel
theorem dX8_readRule_91 : decode cX8_readRule 91 = .ok (.getfield 72, 3) := by decide +kernel
theorem dX8_readRule_94 : decode cX8_readRule 94 = .ok (.iaload, 1) := by decide +kernel
theorem dX8_readRule_95 : decode cX8_readRule 95 = .ok (.sipush 315, 3) := by decide +kernel
theorem dX8_readRule_98 : decode cX8_readRule 98 = .ok (.if_icmp .eq 5, 3) := by decide +kernel
theorem dX8_readRule_101 : decode cX8_readRule 101 = .ok (.iconst 0, 1) := by decide +kernel
theorem dX8_readRule_102 : decode cX8_readRule 102 = .ok (.ireturn, 1) := by decide +kernel
theorem dX8_readRule_103 : decode cX8_readRule 103 = .ok (.aload_n 0, 1) := by decide +kernel
theorem dX8_readRule_104 : decode cX8_readRule 104 = .ok (.invokevirtual 111, 3) := by decide +kernel
theorem dX8_readRule_107 : decode cX8_readRule 107 = .ok (.aload_n 0, 1) := by decide +kernel
theorem dX8_readRule_108 : decode cX8_readRule 108 = .ok (.getfield 11, 3) := by decide +kernel
theorem dX8_readRule_111 : decode cX8_readRule 111 = .ok (.aload_n 0, 1) := by decide +kernel
theorem dX8_readRule_112 : decode cX8_readRule 112 = .ok (.getfield 43, 3) := by decide +kernel
theorem dX8_readRule_115 : decode cX8_readRule 115 = .ok (.iload_n 1, 1) := by decide +kernel
theorem dX8_readRule_116 : decode cX8_readRule 116 = .ok (.iastore, 1) := by decide +kernel
theorem dX8_readRule_117 : decode cX8_readRule 117 = .ok (.aload_n 0, 1) := by decide +kernel
theorem dX8_readRule_118 : decode cX8_readRule 118 = .ok (.getfield 15, 3) := by decide +kernel
theorem dX8_readRule_121 : decode cX8_readRule 121 = .ok (.aload_n 0, 1) := by decide +kernel
theorem dX8_readRule_122 : decode cX8_readRule 122 = .ok (.getfield 43, 3) := by decide +kernel
theorem dX8_readRule_125 : decode cX8_readRule 125 = .ok (.iload_n 3, 1) := by decide +kernel
theorem dX8_readRule_126 : decode cX8_readRule 126 = .ok (.bipush 6, 2) := by decide +kernel
theorem dX8_readRule_128 : decode cX8_readRule 128 = .ok (.isub, 1) := by decide +kernel
theorem dX8_readRule_129 : decode cX8_readRule 129 = .ok (.iastore, 1) := by decide +kernel
theorem dX8_readRule_130 : decode cX8_readRule 130 = .ok (.aload_n 0, 1) := by decide +kernel
theorem dX8_readRule_131 : decode cX8_readRule 131 = .ok (.getfield 18, 3) := by decide +kernel
theorem dX8_readRule_134 : decode cX8_readRule 134 = .ok (.aload_n 0, 1) := by decide +kernel
theorem dX8_readRule_135 : decode cX8_readRule 135 = .ok (.getfield 43, 3) := by decide +kernel
theorem dX8_readRule_138 : decode cX8_readRule 138 = .ok (.iload_n 2, 1) := by decide +kernel
theorem dX8_readRule_139 : decode cX8_readRule 139 = .ok (.iastore, 1) := by decide +kernel
theorem dX8_readRule_140 : decode cX8_readRule 140 = .ok (.aload_n 0, 1) := by decide +kernel
theorem dX8_readRule_141 : decode cX8_readRule 141 = .ok (.getfield 21, 3) := by decide +kernel
theorem dX8_readRule_144 : decode cX8_readRule 144 = .ok (.aload_n 0, 1) := by decide +kernel
theorem dX8_readRule_145 : decode cX8_readRule 145 = .ok (.getfield 43, 3) := by decide +kernel
theorem dX8_readRule_148 : decode cX8_readRule 148 = .ok (.aload_n 0, 1) := by decide +kernel
theorem dX8_readRule_149 : decode cX8_readRule 149 = .ok (.getfield 47, 3) := by decide +kernel
theorem dX8_readRule_152 : decode cX8_readRule 152 = .ok (.iastore, 1) := by decide +kernel
theorem dX8_readRule_153 : decode cX8_readRule 153 = .ok (.aload_n 0, 1) := by decide +kernel
theorem dX8_readRule_154 : decode cX8_readRule 154 = .ok (.dup, 1) := by decide +kernel
theorem dX8_readRule_155 : decode cX8_readRule 155 = .ok (.getfield 43, 3) := by decide +kernel
theorem dX8_readRule_158 : decode cX8_readRule 158 = .ok (.iconst 1, 1) := by decide +kernel
theorem dX8_readRule_159 : decode cX8_readRule 159 = .ok (.iadd, 1) := by decide +kernel
theorem dX8_readRule_160 : decode cX8_readRule 160 = .ok (.putfield 43, 3) := by decide +kernel
theorem dX8_readRule_163 : decode cX8_readRule 163 = .ok (.iconst 1, 1) := by decide +kernel
theorem dX8_readRule_164 : decode cX8_readRule 164 = .ok (.ireturn, 1) := by decide +kernel
theorem dX8_readAny_0 : decode cX8_readAny 0 = .ok (.aload_n 0, 1) := by decide +kernel
theorem dX8_readAny_1 : decode cX8_readAny 1 = .ok (.iload_n 1, 1) := by decide +kernel
theorem dX8_readAny_2 : decode cX8_readAny 2 = .ok (.invokevirtual 117, 3) := by decide +kernel
theorem dX8_readAny_5 : decode cX8_readAny 5 = .ok (.ifCond .ne 5, 3) := by decide +kernel
theorem dX8_readAny_8 : decode cX8_readAny 8 = .ok (.iconst 0, 1) := by decide +kernel
theorem dX8_readAny_9 : decode cX8_readAny 9 = .ok (.ireturn, 1) := by decide +kernel
theorem dX8_readAny_10 : decode cX8_readAny 10 = .ok (.iconst 0, 1) := by decide +kernel
theorem dX8_readAny_11 : decode cX8_readAny 11 = .ok (.istore_n 2, 1) := by decide +kernel
theorem dX8_readAny_12 : decode cX8_readAny 12 = .ok (.iload_n 2, 1) := by decide +kernel
theorem dX8_readAny_13 : decode cX8_readAny 13 = .ok (.sipush 200, 3) := by decide +kernel
theorem dX8_readAny_16 : decode cX8_readAny 16 = .ok (.if_icmp .ge 45, 3) := by decide +kernel
theorem dX8_readAny_19 : decode cX8_readAny 19 = .ok (.aload_n 0, 1) := by decide +kernel
theorem dX8_readAny_20 : decode cX8_readAny 20 = .ok (.getfield 33, 3) := by decide +kernel
theorem dX8_readAny_23 : decode cX8_readAny 23 = .ok (.aload_n 0, 1) := by decide +kernel
theorem dX8_readAny_24 : decode cX8_readAny 24 = .ok (.getfield 72, 3) := by decide +kernel
theorem dX8_readAny_27 : decode cX8_readAny 27 = .ok (.iaload, 1) := by decide +kernel
theorem dX8_readAny_28 : decode cX8_readAny 28 = .ok (.bipush 10, 2) := by decide +kernel
theorem dX8_readAny_30 : decode cX8_readAny 30 = .ok (.if_icmp .ne 31, 3) := by decide +kernel
theorem dX8_readAny_33 : decode cX8_readAny 33 = .ok (.aload_n 0, 1) := by decide +kernel
theorem dX8_readAny_34 : decode cX8_readAny 34 = .ok (.invokevirtual 111, 3) := by decide +kernel
theorem dX8_readAny_37 : decode cX8_readAny 37 = .ok (.aload_n 0, 1) := by decide +kernel
theorem dX8_readAny_38 : decode cX8_readAny 38 = .ok (.iload_n 1, 1) := by decide +kernel
theorem dX8_readAny_39 : decode cX8_readAny 39 = .ok (.invokevirtual 117, 3) := by decide +kernel
theorem dX8_readAny_42 : decode cX8_readAny 42 = .ok (.ifCond .ne 5, 3) := by decide +kernel
theorem dX8_readAny_45 : decode cX8_readAny 45 = .ok (.iconst 0, 1) := by decide +kernel
theorem dX8_readAny_46 : decode cX8_readAny 46 = .ok (.ireturn, 1) := by decide +kernel
theorem dX8_readAny_47 : decode cX8_readAny 47 = .ok (.aload_n 0, 1) := by decide +kernel
theorem dX8_readAny_48 : decode cX8_readAny 48 = .ok (.bipush 10, 2) := by decide +kernel
theorem dX8_readAny_50 : decode cX8_readAny 50 = .ok (.iconst 0, 1) := by decide +kernel
theorem dX8_readAny_51 : decode cX8_readAny 51 = .ok (.iconst 0, 1) := by decide +kernel
theorem dX8_readAny_52 : decode cX8_readAny 52 = .ok (.invokevirtual 120, 3) := by decide +kernel
theorem dX8_readAny_55 : decode cX8_readAny 55 = .ok (.iinc 2 1, 3) := by decide +kernel
theorem dX8_readAny_58 : decode cX8_readAny 58 = .ok (.goto (-46), 3) := by decide +kernel
theorem dX8_readAny_61 : decode cX8_readAny 61 = .ok (.iconst 1, 1) := by decide +kernel
theorem dX8_readAny_62 : decode cX8_readAny 62 = .ok (.ireturn, 1) := by decide +kernel
theorem dX8_readAll_0 : decode cX8_readAll 0 = .ok (.aload_n 0, 1) := by decide +kernel
theorem dX8_readAll_1 : decode cX8_readAll 1 = .ok (.iload_n 1, 1) := by decide +kernel
theorem dX8_readAll_2 : decode cX8_readAll 2 = .ok (.invokevirtual 124, 3) := by decide +kernel
theorem dX8_readAll_5 : decode cX8_readAll 5 = .ok (.ifCond .ne 5, 3) := by decide +kernel
theorem dX8_readAll_8 : decode cX8_readAll 8 = .ok (.iconst 0, 1) := by decide +kernel
theorem dX8_readAll_9 : decode cX8_readAll 9 = .ok (.ireturn, 1) := by decide +kernel
theorem dX8_readAll_10 : decode cX8_readAll 10 = .ok (.iconst 0, 1) := by decide +kernel
theorem dX8_readAll_11 : decode cX8_readAll 11 = .ok (.istore_n 2, 1) := by decide +kernel
theorem dX8_readAll_12 : decode cX8_readAll 12 = .ok (.iload_n 2, 1) := by decide +kernel
theorem dX8_readAll_13 : decode cX8_readAll 13 = .ok (.sipush 200, 3) := by decide +kernel
theorem dX8_readAll_16 : decode cX8_readAll 16 = .ok (.if_icmp .ge 45, 3) := by decide +kernel
theorem dX8_readAll_19 : decode cX8_readAll 19 = .ok (.aload_n 0, 1) := by decide +kernel
theorem dX8_readAll_20 : decode cX8_readAll 20 = .ok (.getfield 33, 3) := by decide +kernel
theorem dX8_readAll_23 : decode cX8_readAll 23 = .ok (.aload_n 0, 1) := by decide +kernel
theorem dX8_readAll_24 : decode cX8_readAll 24 = .ok (.getfield 72, 3) := by decide +kernel
theorem dX8_readAll_27 : decode cX8_readAll 27 = .ok (.iaload, 1) := by decide +kernel
theorem dX8_readAll_28 : decode cX8_readAll 28 = .ok (.bipush 11, 2) := by decide +kernel
theorem dX8_readAll_30 : decode cX8_readAll 30 = .ok (.if_icmp .ne 31, 3) := by decide +kernel
theorem dX8_readAll_33 : decode cX8_readAll 33 = .ok (.aload_n 0, 1) := by decide +kernel
theorem dX8_readAll_34 : decode cX8_readAll 34 = .ok (.invokevirtual 111, 3) := by decide +kernel
theorem dX8_readAll_37 : decode cX8_readAll 37 = .ok (.aload_n 0, 1) := by decide +kernel
theorem dX8_readAll_38 : decode cX8_readAll 38 = .ok (.iload_n 1, 1) := by decide +kernel
theorem dX8_readAll_39 : decode cX8_readAll 39 = .ok (.invokevirtual 124, 3) := by decide +kernel
theorem dX8_readAll_42 : decode cX8_readAll 42 = .ok (.ifCond .ne 5, 3) := by decide +kernel
theorem dX8_readAll_45 : decode cX8_readAll 45 = .ok (.iconst 0, 1) := by decide +kernel
theorem dX8_readAll_46 : decode cX8_readAll 46 = .ok (.ireturn, 1) := by decide +kernel
theorem dX8_readAll_47 : decode cX8_readAll 47 = .ok (.aload_n 0, 1) := by decide +kernel
theorem dX8_readAll_48 : decode cX8_readAll 48 = .ok (.bipush 11, 2) := by decide +kernel
theorem dX8_readAll_50 : decode cX8_readAll 50 = .ok (.iconst 0, 1) := by decide +kernel
theorem dX8_readAll_51 : decode cX8_readAll 51 = .ok (.iconst 0, 1) := by decide +kernel
theorem dX8_readAll_52 : decode cX8_readAll 52 = .ok (.invokevirtual 120, 3) := by decide +kernel
theorem dX8_readAll_55 : decode cX8_readAll 55 = .ok (.iinc 2 1, 3) := by decide +kernel
theorem dX8_readAll_58 : decode cX8_readAll 58 = .ok (.goto (-46), 3) := by decide +kernel
theorem dX8_readAll_61 : decode cX8_readAll 61 = .ok (.iconst 1, 1) := by decide +kernel
theorem dX8_readAll_62 : decode cX8_readAll 62 = .ok (.ireturn, 1) := by decide +kernel
theorem dX8_readOne_0 : decode cX8_readOne 0 = .ok (.iconst 0, 1) := by decide +kernel
theorem dX8_readOne_1 : decode cX8_readOne 1 = .ok (.istore_n 2, 1) := by decide +kernel
theorem dX8_readOne_2 : decode cX8_readOne 2 = .ok (.iconst 0, 1) := by decide +kernel
theorem dX8_readOne_3 : decode cX8_readOne 3 = .ok (.istore_n 3, 1) := by decide +kernel
theorem dX8_readOne_4 : decode cX8_readOne 4 = .ok (.iload_n 3, 1) := by decide +kernel
theorem dX8_readOne_5 : decode cX8_readOne 5 = .ok (.sipush 200, 3) := by decide +kernel
theorem dX8_readOne_8 : decode cX8_readOne 8 = .ok (.if_icmp .ge 37, 3) := by decide +kernel
theorem dX8_readOne_11 : decode cX8_readOne 11 = .ok (.aload_n 0, 1) := by decide +kernel
theorem dX8_readOne_12 : decode cX8_readOne 12 = .ok (.getfield 33, 3) := by decide +kernel
theorem dX8_readOne_15 : decode cX8_readOne 15 = .ok (.aload_n 0, 1) := by decide +kernel
theorem dX8_readOne_16 : decode cX8_readOne 16 = .ok (.getfield 72, 3) := by decide +kernel
theorem dX8_readOne_19 : decode cX8_readOne 19 = .ok (.iaload, 1) := by decide +kernel
theorem dX8_readOne_20 : decode cX8_readOne 20 = .ok (.bipush 12, 2) := by decide +kernel
theorem dX8_readOne_22 : decode cX8_readOne 22 = .ok (.if_icmp .ne 23, 3) := by decide +kernel
theorem dX8_readOne_25 : decode cX8_readOne 25 = .ok (.iload_n 2, 1) := by decide +kernel
theorem dX8_readOne_26 : decode cX8_readOne 26 = .ok (.ifCond .ne 7, 3) := by decide +kernel
theorem dX8_readOne_29 : decode cX8_readOne 29 = .ok (.iconst 1, 1) := by decide +kernel
theorem dX8_readOne_30 : decode cX8_readOne 30 = .ok (.goto 4, 3) := by decide +kernel
theorem dX8_readOne_33 : decode cX8_readOne 33 = .ok (.iconst 0, 1) := by decide +kernel
theorem dX8_readOne_34 : decode cX8_readOne 34 = .ok (.istore_n 2, 1) := by decide +kernel
theorem dX8_readOne_35 : decode cX8_readOne 35 = .ok (.aload_n 0, 1) := by decide +kernel
theorem dX8_readOne_36 : decode cX8_readOne 36 = .ok (.invokevirtual 111, 3) := by decide +kernel
theorem dX8_readOne_39 : decode cX8_readOne 39 = .ok (.iinc 3 1, 3) := by decide +kernel
theorem dX8_readOne_42 : decode cX8_readOne 42 = .ok (.goto (-38), 3) := by decide +kernel
theorem dX8_readOne_45 : decode cX8_readOne 45 = .ok (.aload_n 0, 1) := by decide +kernel
theorem dX8_readOne_46 : decode cX8_readOne 46 = .ok (.getfield 33, 3) := by decide +kernel
theorem dX8_readOne_49 : decode cX8_readOne 49 = .ok (.aload_n 0, 1) := by decide +kernel
theorem dX8_readOne_50 : decode cX8_readOne 50 = .ok (.getfield 72, 3) := by decide +kernel
theorem dX8_readOne_53 : decode cX8_readOne 53 = .ok (.iaload, 1) := by decide +kernel
theorem dX8_readOne_54 : decode cX8_readOne 54 = .ok (.sipush 296, 3) := by decide +kernel
theorem dX8_readOne_57 : decode cX8_readOne 57 = .ok (.if_icmp .ne 11, 3) := by decide +kernel
theorem dX8_readOne_60 : decode cX8_readOne 60 = .ok (.aload_n 0, 1) := by decide +kernel
theorem dX8_readOne_61 : decode cX8_readOne 61 = .ok (.iload_n 1, 1) := by decide +kernel
theorem dX8_readOne_62 : decode cX8_readOne 62 = .ok (.invokevirtual 127, 3) := by decide +kernel
theorem dX8_readOne_65 : decode cX8_readOne 65 = .ok (.goto 7, 3) := by decide +kernel
theorem dX8_readOne_68 : decode cX8_readOne 68 = .ok (.aload_n 0, 1) := by decide +kernel
theorem dX8_readOne_69 : decode cX8_readOne 69 = .ok (.invokevirtual 130, 3) := by decide +kernel
theorem dX8_readOne_72 : decode cX8_readOne 72 = .ok (.istore_n 3, 1) := by decide +kernel
theorem dX8_readOne_73 : decode cX8_readOne 73 = .ok (.iload_n 3, 1) := by decide +kernel
theorem dX8_readOne_74 : decode cX8_readOne 74 = .ok (.ifCond .eq 15, 3) := by decide +kernel
theorem dX8_readOne_77 : decode cX8_readOne 77 = .ok (.iload_n 2, 1) := by decide +kernel
theorem dX8_readOne_78 : decode cX8_readOne 78 = .ok (.ifCond .eq 11, 3) := by decide +kernel
theorem dX8_readOne_81 : decode cX8_readOne 81 = .ok (.aload_n 0, 1) := by decide +kernel
theorem dX8_readOne_82 : decode cX8_readOne 82 = .ok (.bipush 12, 2) := by decide +kernel
theorem dX8_readOne_84 : decode cX8_readOne 84 = .ok (.iconst 0, 1) := by decide +kernel
theorem dX8_readOne_85 : decode cX8_readOne 85 = .ok (.iconst 0, 1) := by decide +kernel
theorem dX8_readOne_86 : decode cX8_readOne 86 = .ok (.invokevirtual 120, 3) := by decide +kernel
theorem dX8_readOne_89 : decode cX8_readOne 89 = .ok (.iload_n 3, 1) := by decide +kernel
theorem dX8_readOne_90 : decode cX8_readOne 90 = .ok (.ireturn, 1) := by decide +kernel
theorem dX8_readInner_0 : decode cX8_readInner 0 = .ok (.iload_n 1, 1) := by decide +kernel
theorem dX8_readInner_1 : decode cX8_readInner 1 = .ok (.iconst 3, 1) := by decide +kernel
theorem dX8_readInner_2 : decode cX8_readInner 2 = .ok (.if_icmp .lt 5, 3) := by decide +kernel
theorem dX8_readInner_5 : decode cX8_readInner 5 = .ok (.iconst 0, 1) := by decide +kernel
theorem dX8_readInner_6 : decode cX8_readInner 6 = .ok (.ireturn, 1) := by decide +kernel
theorem dX8_readInner_7 : decode cX8_readInner 7 = .ok (.aload_n 0, 1) := by decide +kernel
theorem dX8_readInner_8 : decode cX8_readInner 8 = .ok (.invokevirtual 111, 3) := by decide +kernel
theorem dX8_readInner_11 : decode cX8_readInner 11 = .ok (.aload_n 0, 1) := by decide +kernel
theorem dX8_readInner_12 : decode cX8_readInner 12 = .ok (.iload_n 1, 1) := by decide +kernel
theorem dX8_readInner_13 : decode cX8_readInner 13 = .ok (.iconst 1, 1) := by decide +kernel
theorem dX8_readInner_14 : decode cX8_readInner 14 = .ok (.iadd, 1) := by decide +kernel
theorem dX8_readInner_15 : decode cX8_readInner 15 = .ok (.invokevirtual 114, 3) := by decide +kernel
theorem dX8_readInner_18 : decode cX8_readInner 18 = .ok (.ifCond .eq 18, 3) := by decide +kernel
theorem dX8_readInner_21 : decode cX8_readInner 21 = .ok (.aload_n 0, 1) := by decide +kernel
theorem dX8_readInner_22 : decode cX8_readInner 22 = .ok (.getfield 33, 3) := by decide +kernel
theorem dX8_readInner_25 : decode cX8_readInner 25 = .ok (.aload_n 0, 1) := by decide +kernel
theorem dX8_readInner_26 : decode cX8_readInner 26 = .ok (.getfield 72, 3) := by decide +kernel
theorem dX8_readInner_29 : decode cX8_readInner 29 = .ok (.iaload, 1) := by decide +kernel
theorem dX8_readInner_30 : decode cX8_readInner 30 = .ok (.sipush 297, 3) := by decide +kernel
theorem dX8_readInner_33 : decode cX8_readInner 33 = .ok (.if_icmp .eq 5, 3) := by decide +kernel
theorem dX8_readInner_36 : decode cX8_readInner 36 = .ok (.iconst 0, 1) := by decide +kernel
theorem dX8_readInner_37 : decode cX8_readInner 37 = .ok (.ireturn, 1) := by decide +kernel
theorem dX8_readInner_38 : decode cX8_readInner 38 = .ok (.aload_n 0, 1) := by decide +kernel
theorem dX8_readInner_39 : decode cX8_readInner 39 = .ok (.invokevirtual 111, 3) := by decide +kernel
theorem dX8_readInner_42 : decode cX8_readInner 42 = .ok (.iconst 1, 1) := by decide +kernel
theorem dX8_readInner_43 : decode cX8_readInner 43 = .ok (.ireturn, 1) := by decide +kernel
theorem dX8_readCompare_0 : decode cX8_readCompare 0 = .ok (.aload_n 0, 1) := by decide +kernel
theorem dX8_readCompare_1 : decode cX8_readCompare 1 = .ok (.getfield 33, 3) := by decide +kernel
theorem dX8_readCompare_4 : decode cX8_readCompare 4 = .ok (.aload_n 0, 1) := by decide +kernel
theorem dX8_readCompare_5 : decode cX8_readCompare 5 = .ok (.getfield 72, 3) := by decide +kernel
theorem dX8_readCompare_8 : decode cX8_readCompare 8 = .ok (.iaload, 1) := by decide +kernel
theorem dX8_readCompare_9 : decode cX8_readCompare 9 = .ok (.istore_n 1, 1) := by decide +kernel
theorem dX8_readCompare_10 : decode cX8_readCompare 10 = .ok (.iload_n 1, 1) := by decide +kernel
theorem dX8_readCompare_11 : decode cX8_readCompare 11 = .ok (.invokestatic 133, 3) := by decide +kernel
theorem dX8_readCompare_14 : decode cX8_readCompare 14 = .ok (.ifCond .ne 5, 3) := by decide +kernel
theorem dX8_readCompare_17 : decode cX8_readCompare 17 = .ok (.iconst 0, 1) := by decide +kernel
theorem dX8_readCompare_18 : decode cX8_readCompare 18 = .ok (.ireturn, 1) := by decide +kernel
theorem dX8_readCompare_19 : decode cX8_readCompare 19 = .ok (.aload_n 0, 1) := by decide +kernel
theorem dX8_readCompare_20 : decode cX8_readCompare 20 = .ok (.invokevirtual 111, 3) := by decide +kernel
theorem dX8_readCompare_23 : decode cX8_readCompare 23 = .ok (.aload_n 0, 1) := by decide +kernel
theorem dX8_readCompare_24 : decode cX8_readCompare 24 = .ok (.getfield 33, 3) := by decide +kernel
theorem dX8_readCompare_27 : decode cX8_readCompare 27 = .ok (.aload_n 0, 1) := by decide +kernel
theorem dX8_readCompare_28 : decode cX8_readCompare 28 = .ok (.getfield 72, 3) := by decide +kernel
theorem dX8_readCompare_31 : decode cX8_readCompare 31 = .ok (.iaload, 1) := by decide +kernel
theorem dX8_readCompare_32 : decode cX8_readCompare 32 = .ok (.istore_n 2, 1) := by decide +kernel
theorem dX8_readCompare_33 : decode cX8_readCompare 33 = .ok (.iload_n 2, 1) := by decide +kernel
theorem dX8_readCompare_34 : decode cX8_readCompare 34 = .ok (.sipush 316, 3) := by decide +kernel
theorem dX8_readCompare_37 : decode cX8_readCompare 37 = .ok (.if_icmp .lt 10, 3) := by decide +kernel
theorem dX8_readCompare_40 : decode cX8_readCompare 40 = .ok (.iload_n 2, 1) := by decide +kernel
theorem dX8_readCompare_41 : decode cX8_readCompare 41 = .ok (.sipush 318, 3) := by decide +kernel
theorem dX8_readCompare_44 : decode cX8_readCompare 44 = .ok (.if_icmp .le 5, 3) := by decide +kernel
theorem dX8_readCompare_47 : decode cX8_readCompare 47 = .ok (.iconst 0, 1) := by decide +kernel
theorem dX8_readCompare_48 : decode cX8_readCompare 48 = .ok (.ireturn, 1) := by decide +kernel
theorem dX8_readCompare_49 : decode cX8_readCompare 49 = .ok (.aload_n 0, 1) := by decide +kernel
theorem dX8_readCompare_50 : decode cX8_readCompare 50 = .ok (.invokevirtual 111, 3) := by decide +kernel
theorem dX8_readCompare_53 : decode cX8_readCompare 53 = .ok (.aload_n 0, 1) := by decide +kernel
theorem dX8_readCompare_54 : decode cX8_readCompare 54 = .ok (.getfield 33, 3) := by decide +kernel
theorem dX8_readCompare_57 : decode cX8_readCompare 57 = .ok (.aload_n 0, 1) := by decide +kernel
theorem dX8_readCompare_58 : decode cX8_readCompare 58 = .ok (.getfield 72, 3) := by decide +kernel
theorem dX8_readCompare_61 : decode cX8_readCompare 61 = .ok (.iaload, 1) := by decide +kernel
theorem dX8_readCompare_62 : decode cX8_readCompare 62 = .ok (.istore_n 3, 1) := by decide +kernel
theorem dX8_readCompare_63 : decode cX8_readCompare 63 = .ok (.iload_n 3, 1) := by decide +kernel
theorem dX8_readCompare_64 : decode cX8_readCompare 64 = .ok (.invokestatic 133, 3) := by decide +kernel
theorem dX8_readCompare_67 : decode cX8_readCompare 67 = .ok (.ifCond .ne 5, 3) := by decide +kernel
theorem dX8_readCompare_70 : decode cX8_readCompare 70 = .ok (.iconst 0, 1) := by decide +kernel
theorem dX8_readCompare_71 : decode cX8_readCompare 71 = .ok (.ireturn, 1) := by decide +kernel
theorem dX8_readCompare_72 : decode cX8_readCompare 72 = .ok (.aload_n 0, 1) := by decide +kernel
theorem dX8_readCompare_73 : decode cX8_readCompare 73 = .ok (.invokevirtual 111, 3) := by decide +kernel
theorem dX8_readCompare_76 : decode cX8_readCompare 76 = .ok (.aload_n 0, 1) := by decide +kernel
theorem dX8_readCompare_77 : decode cX8_readCompare 77 = .ok (.iload_n 2, 1) := by decide +kernel
theorem dX8_readCompare_78 : decode cX8_readCompare 78 = .ok (.iload_n 1, 1) := by decide +kernel
theorem dX8_readCompare_79 : decode cX8_readCompare 79 = .ok (.invokestatic 136, 3) := by decide +kernel
theorem dX8_readCompare_82 : decode cX8_readCompare 82 = .ok (.iload_n 3, 1) := by decide +kernel
theorem dX8_readCompare_83 : decode cX8_readCompare 83 = .ok (.invokestatic 136, 3) := by decide +kernel
theorem dX8_readCompare_86 : decode cX8_readCompare 86 = .ok (.invokevirtual 120, 3) := by decide +kernel
theorem dX8_readCompare_89 : decode cX8_readCompare 89 = .ok (.iconst 1, 1) := by decide +kernel
theorem dX8_readCompare_90 : decode cX8_readCompare 90 = .ok (.ireturn, 1) := by decide +kernel
theorem dX8_isValue_0 : decode cX8_isValue 0 = .ok (.iload_n 0, 1) := by decide +kernel
theorem dX8_isValue_1 : decode cX8_isValue 1 = .ok (.sipush 1000, 3) := by decide +kernel
theorem dX8_isValue_4 : decode cX8_isValue 4 = .ok (.if_icmp .ge 15, 3) := by decide +kernel
theorem dX8_isValue_7 : decode cX8_isValue 7 = .ok (.iload_n 0, 1) := by decide +kernel
theorem dX8_isValue_8 : decode cX8_isValue 8 = .ok (.bipush 13, 2) := by decide +kernel
theorem dX8_isValue_10 : decode cX8_isValue 10 = .ok (.if_icmp .lt 13, 3) := by decide +kernel
theorem dX8_isValue_13 : decode cX8_isValue 13 = .ok (.iload_n 0, 1) := by decide +kernel
theorem dX8_isValue_14 : decode cX8_isValue 14 = .ok (.bipush 17, 2) := by decide +kernel
theorem dX8_isValue_16 : decode cX8_isValue 16 = .ok (.if_icmp .gt 7, 3) := by decide +kernel
theorem dX8_isValue_19 : decode cX8_isValue 19 = .ok (.iconst 1, 1) := by decide +kernel
theorem dX8_isValue_20 : decode cX8_isValue 20 = .ok (.goto 4, 3) := by decide +kernel
theorem dX8_isValue_23 : decode cX8_isValue 23 = .ok (.iconst 0, 1) := by decide +kernel
theorem dX8_isValue_24 : decode cX8_isValue 24 = .ok (.ireturn, 1) := by decide +kernel
theorem dX8_operand_0 : decode cX8_operand 0 = .ok (.iload_n 0, 1) := by decide +kernel
theorem dX8_operand_1 : decode cX8_operand 1 = .ok (.sipush 1000, 3) := by decide +kernel
theorem dX8_operand_4 : decode cX8_operand 4 = .ok (.if_icmp .lt 11, 3) := by decide +kernel
theorem dX8_operand_7 : decode cX8_operand 7 = .ok (.iload_n 0, 1) := by decide +kernel
theorem dX8_operand_8 : decode cX8_operand 8 = .ok (.sipush 1000, 3) := by decide +kernel
theorem dX8_operand_11 : decode cX8_operand 11 = .ok (.isub, 1) := by decide +kernel
theorem dX8_operand_12 : decode cX8_operand 12 = .ok (.goto 7, 3) := by decide +kernel
theorem dX8_operand_15 : decode cX8_operand 15 = .ok (.bipush 12, 2) := by decide +kernel
theorem dX8_operand_17 : decode cX8_operand 17 = .ok (.iload_n 0, 1) := by decide +kernel
theorem dX8_operand_18 : decode cX8_operand 18 = .ok (.isub, 1) := by decide +kernel
theorem dX8_operand_19 : decode cX8_operand 19 = .ok (.ireturn, 1) := by decide +kernel
theorem dX8_add_0 : decode cX8_add 0 = .ok (.aload_n 0, 1) := by decide +kernel
theorem dX8_add_1 : decode cX8_add 1 = .ok (.getfield 47, 3) := by decide +kernel
theorem dX8_add_4 : decode cX8_add 4 = .ok (.sipush 200, 3) := by decide +kernel
theorem dX8_add_7 : decode cX8_add 7 = .ok (.if_icmp .lt 4, 3) := by decide +kernel
theorem dX8_add_10 : decode cX8_add 10 = .ok (.return_, 1) := by decide +kernel
theorem dX8_add_11 : decode cX8_add 11 = .ok (.aload_n 0, 1) := by decide +kernel
theorem dX8_add_12 : decode cX8_add 12 = .ok (.getfield 24, 3) := by decide +kernel
theorem dX8_add_15 : decode cX8_add 15 = .ok (.aload_n 0, 1) := by decide +kernel
theorem dX8_add_16 : decode cX8_add 16 = .ok (.getfield 47, 3) := by decide +kernel
theorem dX8_add_19 : decode cX8_add 19 = .ok (.iload_n 1, 1) := by decide +kernel
theorem dX8_add_20 : decode cX8_add 20 = .ok (.iastore, 1) := by decide +kernel
theorem dX8_add_21 : decode cX8_add 21 = .ok (.aload_n 0, 1) := by decide +kernel
theorem dX8_add_22 : decode cX8_add 22 = .ok (.getfield 27, 3) := by decide +kernel
theorem dX8_add_25 : decode cX8_add 25 = .ok (.aload_n 0, 1) := by decide +kernel
theorem dX8_add_26 : decode cX8_add 26 = .ok (.getfield 47, 3) := by decide +kernel
theorem dX8_add_29 : decode cX8_add 29 = .ok (.iload_n 2, 1) := by decide +kernel
theorem dX8_add_30 : decode cX8_add 30 = .ok (.iastore, 1) := by decide +kernel
theorem dX8_add_31 : decode cX8_add 31 = .ok (.aload_n 0, 1) := by decide +kernel
theorem dX8_add_32 : decode cX8_add 32 = .ok (.getfield 30, 3) := by decide +kernel
theorem dX8_add_35 : decode cX8_add 35 = .ok (.aload_n 0, 1) := by decide +kernel
theorem dX8_add_36 : decode cX8_add 36 = .ok (.getfield 47, 3) := by decide +kernel
theorem dX8_add_39 : decode cX8_add 39 = .ok (.iload_n 3, 1) := by decide +kernel
theorem dX8_add_40 : decode cX8_add 40 = .ok (.iastore, 1) := by decide +kernel
theorem dX8_add_41 : decode cX8_add 41 = .ok (.aload_n 0, 1) := by decide +kernel
theorem dX8_add_42 : decode cX8_add 42 = .ok (.dup, 1) := by decide +kernel
theorem dX8_add_43 : decode cX8_add 43 = .ok (.getfield 47, 3) := by decide +kernel
theorem dX8_add_46 : decode cX8_add 46 = .ok (.iconst 1, 1) := by decide +kernel
theorem dX8_add_47 : decode cX8_add 47 = .ok (.iadd, 1) := by decide +kernel
theorem dX8_add_48 : decode cX8_add 48 = .ok (.putfield 47, 3) := by decide +kernel
theorem dX8_add_51 : decode cX8_add 51 = .ok (.return_, 1) := by decide +kernel
theorem dX8_next_0 : decode cX8_next 0 = .ok (.aload_n 0, 1) := by decide +kernel
theorem dX8_next_1 : decode cX8_next 1 = .ok (.getfield 72, 3) := by decide +kernel
theorem dX8_next_4 : decode cX8_next 4 = .ok (.sipush 200, 3) := by decide +kernel
theorem dX8_next_7 : decode cX8_next 7 = .ok (.if_icmp .ge 13, 3) := by decide +kernel
theorem dX8_next_10 : decode cX8_next 10 = .ok (.aload_n 0, 1) := by decide +kernel
theorem dX8_next_11 : decode cX8_next 11 = .ok (.dup, 1) := by decide +kernel
theorem dX8_next_12 : decode cX8_next 12 = .ok (.getfield 72, 3) := by decide +kernel
theorem dX8_next_15 : decode cX8_next 15 = .ok (.iconst 1, 1) := by decide +kernel
theorem dX8_next_16 : decode cX8_next 16 = .ok (.iadd, 1) := by decide +kernel
theorem dX8_next_17 : decode cX8_next 17 = .ok (.putfield 72, 3) := by decide +kernel
theorem dX8_next_20 : decode cX8_next 20 = .ok (.return_, 1) := by decide +kernel
theorem dX8_isLetter_0 : decode cX8_isLetter 0 = .ok (.iload_n 0, 1) := by decide +kernel
theorem dX8_isLetter_1 : decode cX8_isLetter 1 = .ok (.bipush 97, 2) := by decide +kernel
theorem dX8_isLetter_3 : decode cX8_isLetter 3 = .ok (.if_icmp .lt 13, 3) := by decide +kernel
theorem dX8_isLetter_6 : decode cX8_isLetter 6 = .ok (.iload_n 0, 1) := by decide +kernel
theorem dX8_isLetter_7 : decode cX8_isLetter 7 = .ok (.bipush 122, 2) := by decide +kernel
theorem dX8_isLetter_9 : decode cX8_isLetter 9 = .ok (.if_icmp .gt 7, 3) := by decide +kernel
theorem dX8_isLetter_12 : decode cX8_isLetter 12 = .ok (.iconst 1, 1) := by decide +kernel
theorem dX8_isLetter_13 : decode cX8_isLetter 13 = .ok (.goto 4, 3) := by decide +kernel
theorem dX8_isLetter_16 : decode cX8_isLetter 16 = .ok (.iconst 0, 1) := by decide +kernel
theorem dX8_isLetter_17 : decode cX8_isLetter 17 = .ok (.ireturn, 1) := by decide +kernel
theorem dX8_isDigit_0 : decode cX8_isDigit 0 = .ok (.iload_n 0, 1) := by decide +kernel
theorem dX8_isDigit_1 : decode cX8_isDigit 1 = .ok (.bipush 48, 2) := by decide +kernel
theorem dX8_isDigit_3 : decode cX8_isDigit 3 = .ok (.if_icmp .lt 13, 3) := by decide +kernel
theorem dX8_isDigit_6 : decode cX8_isDigit 6 = .ok (.iload_n 0, 1) := by decide +kernel
theorem dX8_isDigit_7 : decode cX8_isDigit 7 = .ok (.bipush 57, 2) := by decide +kernel
theorem dX8_isDigit_9 : decode cX8_isDigit 9 = .ok (.if_icmp .gt 7, 3) := by decide +kernel
theorem dX8_isDigit_12 : decode cX8_isDigit 12 = .ok (.iconst 1, 1) := by decide +kernel
theorem dX8_isDigit_13 : decode cX8_isDigit 13 = .ok (.goto 4, 3) := by decide +kernel
theorem dX8_isDigit_16 : decode cX8_isDigit 16 = .ok (.iconst 0, 1) := by decide +kernel
theorem dX8_isDigit_17 : decode cX8_isDigit 17 = .ok (.ireturn, 1) := by decide +kernel
theorem dX9_init_0 : decode cX9_init 0 = .ok (.aload_n 0, 1) := by decide +kernel
theorem dX9_init_1 : decode cX9_init 1 = .ok (.invokespecial 1, 3) := by decide +kernel
theorem dX9_init_4 : decode cX9_init 4 = .ok (.return_, 1) := by decide +kernel
theorem dX9_may_0 : decode cX9_may 0 = .ok (.iload_n 2, 1) := by decide +kernel
theorem dX9_may_1 : decode cX9_may 1 = .ok (.iconst 2, 1) := by decide +kernel
theorem dX9_may_2 : decode cX9_may 2 = .ok (.irem, 1) := by decide +kernel
theorem dX9_may_3 : decode cX9_may 3 = .ok (.iconst 1, 1) := by decide +kernel
theorem dX9_may_4 : decode cX9_may 4 = .ok (.if_icmp .eq 12, 3) := by decide +kernel
theorem dX9_may_7 : decode cX9_may 7 = .ok (.aload_n 0, 1) := by decide +kernel
theorem dX9_may_8 : decode cX9_may 8 = .ok (.iload_n 1, 1) := by decide +kernel
theorem dX9_may_9 : decode cX9_may 9 = .ok (.iload_n 2, 1) := by decide +kernel
theorem dX9_may_10 : decode cX9_may 10 = .ok (.invokespecial 7, 3) := by decide +kernel
theorem dX9_may_13 : decode cX9_may 13 = .ok (.ifCond .eq 7, 3) := by decide +kernel
theorem dX9_may_16 : decode cX9_may 16 = .ok (.iconst 1, 1) := by decide +kernel
theorem dX9_may_17 : decode cX9_may 17 = .ok (.goto 4, 3) := by decide +kernel
theorem dX9_may_20 : decode cX9_may 20 = .ok (.iconst 0, 1) := by decide +kernel
theorem dX9_may_21 : decode cX9_may 21 = .ok (.ireturn, 1) := by decide +kernel
theorem dX9_gains_0 : decode cX9_gains 0 = .ok (.aload_n 0, 1) := by decide +kernel
theorem dX9_gains_1 : decode cX9_gains 1 = .ok (.iload_n 1, 1) := by decide +kernel
theorem dX9_gains_2 : decode cX9_gains 2 = .ok (.iload_n 2, 1) := by decide +kernel
theorem dX9_gains_3 : decode cX9_gains 3 = .ok (.invokespecial 11, 3) := by decide +kernel
theorem dX9_gains_6 : decode cX9_gains 6 = .ok (.iconst 1, 1) := by decide +kernel
theorem dX9_gains_7 : decode cX9_gains 7 = .ok (.isub, 1) := by decide +kernel
theorem dX9_gains_8 : decode cX9_gains 8 = .ok (.ireturn, 1) := by decide +kernel
theorem dX9_tires_0 : decode cX9_tires 0 = .ok (.iconst 1, 1) := by decide +kernel
theorem dX9_tires_1 : decode cX9_tires 1 = .ok (.ireturn, 1) := by decide +kernel
theorem dX9_groans_0 : decode cX9_groans 0 = .ok (.aload_n 1, 1) := by decide +kernel
theorem dX9_groans_1 : decode cX9_groans 1 = .ok (.bipush 30, 2) := by decide +kernel
theorem dX9_groans_3 : decode cX9_groans 3 = .ok (.invokevirtual 15, 3) := by decide +kernel
theorem dX9_groans_6 : decode cX9_groans 6 = .ok (.ifCond .eq 14, 3) := by decide +kernel
theorem dX9_groans_9 : decode cX9_groans 9 = .ok (.aload_n 0, 1) := by decide +kernel
theorem dX9_groans_10 : decode cX9_groans 10 = .ok (.aload_n 1, 1) := by decide +kernel
theorem dX9_groans_11 : decode cX9_groans 11 = .ok (.iload_n 2, 1) := by decide +kernel
theorem dX9_groans_12 : decode cX9_groans 12 = .ok (.invokespecial 21, 3) := by decide +kernel
theorem dX9_groans_15 : decode cX9_groans 15 = .ok (.iconst 3, 1) := by decide +kernel
theorem dX9_groans_16 : decode cX9_groans 16 = .ok (.imul, 1) := by decide +kernel
theorem dX9_groans_17 : decode cX9_groans 17 = .ok (.goto 4, 3) := by decide +kernel
theorem dX9_groans_20 : decode cX9_groans 20 = .ok (.iconst 0, 1) := by decide +kernel
theorem dX9_groans_21 : decode cX9_groans 21 = .ok (.ireturn, 1) := by decide +kernel
theorem dX10_init_0 : decode cX10_init 0 = .ok (.aload_n 0, 1) := by decide +kernel
theorem dX10_init_1 : decode cX10_init 1 = .ok (.invokespecial 1, 3) := by decide +kernel
theorem dX10_init_4 : decode cX10_init 4 = .ok (.return_, 1) := by decide +kernel
theorem dX10_may_0 : decode cX10_may 0 = .ok (.iload_n 1, 1) := by decide +kernel
theorem dX10_may_1 : decode cX10_may 1 = .ok (.iload_n 2, 1) := by decide +kernel
theorem dX10_may_2 : decode cX10_may 2 = .ok (.invokestatic 7, 3) := by decide +kernel
theorem dX10_may_5 : decode cX10_may 5 = .ok (.ireturn, 1) := by decide +kernel
theorem dX10_gains_0 : decode cX10_gains 0 = .ok (.aload_n 0, 1) := by decide +kernel
theorem dX10_gains_1 : decode cX10_gains 1 = .ok (.iload_n 1, 1) := by decide +kernel
theorem dX10_gains_2 : decode cX10_gains 2 = .ok (.iload_n 2, 1) := by decide +kernel
theorem dX10_gains_3 : decode cX10_gains 3 = .ok (.invokespecial 13, 3) := by decide +kernel
theorem dX10_gains_6 : decode cX10_gains 6 = .ok (.iconst 2, 1) := by decide +kernel
theorem dX10_gains_7 : decode cX10_gains 7 = .ok (.imul, 1) := by decide +kernel
theorem dX10_gains_8 : decode cX10_gains 8 = .ok (.ireturn, 1) := by decide +kernel
theorem dX10_tires_0 : decode cX10_tires 0 = .ok (.aload_n 0, 1) := by decide +kernel
theorem dX10_tires_1 : decode cX10_tires 1 = .ok (.invokespecial 17, 3) := by decide +kernel
theorem dX10_tires_4 : decode cX10_tires 4 = .ok (.iconst 1, 1) := by decide +kernel
theorem dX10_tires_5 : decode cX10_tires 5 = .ok (.iadd, 1) := by decide +kernel
theorem dX10_tires_6 : decode cX10_tires 6 = .ok (.ireturn, 1) := by decide +kernel
theorem dX10_groans_0 : decode cX10_groans 0 = .ok (.aload_n 1, 1) := by decide +kernel
theorem dX10_groans_1 : decode cX10_groans 1 = .ok (.bipush 60, 2) := by decide +kernel
theorem dX10_groans_3 : decode cX10_groans 3 = .ok (.invokevirtual 21, 3) := by decide +kernel
theorem dX10_groans_6 : decode cX10_groans 6 = .ok (.ifCond .eq 14, 3) := by decide +kernel
theorem dX10_groans_9 : decode cX10_groans 9 = .ok (.aload_n 0, 1) := by decide +kernel
theorem dX10_groans_10 : decode cX10_groans 10 = .ok (.aload_n 1, 1) := by decide +kernel
theorem dX10_groans_11 : decode cX10_groans 11 = .ok (.iload_n 2, 1) := by decide +kernel
theorem dX10_groans_12 : decode cX10_groans 12 = .ok (.iconst 4, 1) := by decide +kernel
theorem dX10_groans_13 : decode cX10_groans 13 = .ok (.iadd, 1) := by decide +kernel
theorem dX10_groans_14 : decode cX10_groans 14 = .ok (.invokespecial 27, 3) := by decide +kernel
theorem dX10_groans_17 : decode cX10_groans 17 = .ok (.goto 4, 3) := by decide +kernel
theorem dX10_groans_20 : decode cX10_groans 20 = .ok (.iconst 0, 1) := by decide +kernel
theorem dX10_groans_21 : decode cX10_groans 21 = .ok (.ireturn, 1) := by decide +kernel
theorem dX10_parts_0 : decode cX10_parts 0 = .ok (.aload_n 1, 1) := by decide +kernel
theorem dX10_parts_1 : decode cX10_parts 1 = .ok (.bipush 61, 2) := by decide +kernel
theorem dX10_parts_3 : decode cX10_parts 3 = .ok (.invokevirtual 21, 3) := by decide +kernel
theorem dX10_parts_6 : decode cX10_parts 6 = .ok (.ifCond .eq 19, 3) := by decide +kernel
theorem dX10_parts_9 : decode cX10_parts 9 = .ok (.aload_n 0, 1) := by decide +kernel
theorem dX10_parts_10 : decode cX10_parts 10 = .ok (.aload_n 1, 1) := by decide +kernel
theorem dX10_parts_11 : decode cX10_parts 11 = .ok (.iload_n 2, 1) := by decide +kernel
theorem dX10_parts_12 : decode cX10_parts 12 = .ok (.invokespecial 31, 3) := by decide +kernel
theorem dX10_parts_15 : decode cX10_parts 15 = .ok (.aload_n 0, 1) := by decide +kernel
theorem dX10_parts_16 : decode cX10_parts 16 = .ok (.aload_n 1, 1) := by decide +kernel
theorem dX10_parts_17 : decode cX10_parts 17 = .ok (.iconst 1, 1) := by decide +kernel
theorem dX10_parts_18 : decode cX10_parts 18 = .ok (.invokevirtual 34, 3) := by decide +kernel
theorem dX10_parts_21 : decode cX10_parts 21 = .ok (.imul, 1) := by decide +kernel
theorem dX10_parts_22 : decode cX10_parts 22 = .ok (.goto 4, 3) := by decide +kernel
theorem dX10_parts_25 : decode cX10_parts 25 = .ok (.iconst 0, 1) := by decide +kernel
theorem dX10_parts_26 : decode cX10_parts 26 = .ok (.ireturn, 1) := by decide +kernel
theorem dX11_init_0 : decode cX11_init 0 = .ok (.aload_n 0, 1) := by decide +kernel
theorem dX11_init_1 : decode cX11_init 1 = .ok (.invokespecial 1, 3) := by decide +kernel
theorem dX11_init_4 : decode cX11_init 4 = .ok (.aload_n 0, 1) := by decide +kernel
theorem dX11_init_5 : decode cX11_init 5 = .ok (.sipush 200, 3) := by decide +kernel
theorem dX11_init_8 : decode cX11_init 8 = .ok (.newarray .byte, 2) := by decide +kernel
theorem dX11_init_10 : decode cX11_init 10 = .ok (.putfield 9, 3) := by decide +kernel
theorem dX11_init_13 : decode cX11_init 13 = .ok (.aload_n 0, 1) := by decide +kernel
theorem dX11_init_14 : decode cX11_init 14 = .ok (.new 13, 3) := by decide +kernel
theorem dX11_init_17 : decode cX11_init 17 = .ok (.dup, 1) := by decide +kernel
theorem dX11_init_18 : decode cX11_init 18 = .ok (.aload_n 0, 1) := by decide +kernel
theorem dX11_init_19 : decode cX11_init 19 = .ok (.getfield 9, 3) := by decide +kernel
theorem dX11_init_22 : decode cX11_init 22 = .ok (.invokespecial 15, 3) := by decide +kernel
theorem dX11_init_25 : decode cX11_init 25 = .ok (.putfield 18, 3) := by decide +kernel
theorem dX11_init_28 : decode cX11_init 28 = .ok (.aload_n 0, 1) := by decide +kernel
theorem dX11_init_29 : decode cX11_init 29 = .ok (.new 13, 3) := by decide +kernel
theorem dX11_init_32 : decode cX11_init 32 = .ok (.dup, 1) := by decide +kernel
theorem dX11_init_33 : decode cX11_init 33 = .ok (.aload_n 0, 1) := by decide +kernel
theorem dX11_init_34 : decode cX11_init 34 = .ok (.getfield 9, 3) := by decide +kernel
theorem dX11_init_37 : decode cX11_init 37 = .ok (.invokespecial 15, 3) := by decide +kernel
theorem dX11_init_40 : decode cX11_init 40 = .ok (.putfield 22, 3) := by decide +kernel
theorem dX11_init_43 : decode cX11_init 43 = .ok (.aload_n 0, 1) := by decide +kernel
theorem dX11_init_44 : decode cX11_init 44 = .ok (.new 13, 3) := by decide +kernel
theorem dX11_init_47 : decode cX11_init 47 = .ok (.dup, 1) := by decide +kernel
theorem dX11_init_48 : decode cX11_init 48 = .ok (.aload_n 0, 1) := by decide +kernel
theorem dX11_init_49 : decode cX11_init 49 = .ok (.getfield 9, 3) := by decide +kernel
theorem dX11_init_52 : decode cX11_init 52 = .ok (.invokespecial 15, 3) := by decide +kernel
theorem dX11_init_55 : decode cX11_init 55 = .ok (.putfield 25, 3) := by decide +kernel
theorem dX11_init_58 : decode cX11_init 58 = .ok (.aload_n 0, 1) := by decide +kernel
theorem dX11_init_59 : decode cX11_init 59 = .ok (.new 28, 3) := by decide +kernel
theorem dX11_init_62 : decode cX11_init 62 = .ok (.dup, 1) := by decide +kernel
theorem dX11_init_63 : decode cX11_init 63 = .ok (.invokespecial 30, 3) := by decide +kernel
theorem dX11_init_66 : decode cX11_init 66 = .ok (.putfield 31, 3) := by decide +kernel
theorem dX11_init_69 : decode cX11_init 69 = .ok (.aload_n 0, 1) := by decide +kernel
theorem dX11_init_70 : decode cX11_init 70 = .ok (.new 28, 3) := by decide +kernel
theorem dX11_init_73 : decode cX11_init 73 = .ok (.dup, 1) := by decide +kernel
theorem dX11_init_74 : decode cX11_init 74 = .ok (.invokespecial 30, 3) := by decide +kernel
theorem dX11_init_77 : decode cX11_init 77 = .ok (.putfield 35, 3) := by decide +kernel
theorem dX11_init_80 : decode cX11_init 80 = .ok (.aload_n 0, 1) := by decide +kernel
theorem dX11_init_81 : decode cX11_init 81 = .ok (.iconst 4, 1) := by decide +kernel
theorem dX11_init_82 : decode cX11_init 82 = .ok (.iconst 3, 1) := by decide +kernel
theorem dX11_init_83 : decode cX11_init 83 = .ok (.multianewarray 38 2, 4) := by decide +kernel
theorem dX11_init_87 : decode cX11_init 87 = .ok (.putfield 40, 3) := by decide +kernel
theorem dX11_init_90 : decode cX11_init 90 = .ok (.bipush 6, 2) := by decide +kernel
theorem dX11_init_92 : decode cX11_init 92 = .ok (.anewarray 43, 3) := by decide +kernel
theorem dX11_init_95 : decode cX11_init 95 = .ok (.dup, 1) := by decide +kernel
theorem dX11_init_96 : decode cX11_init 96 = .ok (.iconst 0, 1) := by decide +kernel
theorem dX11_init_97 : decode cX11_init 97 = .ok (.new 43, 3) := by decide +kernel
theorem dX11_init_100 : decode cX11_init 100 = .ok (.dup, 1) := by decide +kernel
theorem dX11_init_101 : decode cX11_init 101 = .ok (.invokespecial 45, 3) := by decide +kernel
theorem dX11_init_104 : decode cX11_init 104 = .ok (.aastore, 1) := by decide +kernel
theorem dX11_init_105 : decode cX11_init 105 = .ok (.dup, 1) := by decide +kernel
theorem dX11_init_106 : decode cX11_init 106 = .ok (.iconst 1, 1) := by decide +kernel
theorem dX11_init_107 : decode cX11_init 107 = .ok (.new 46, 3) := by decide +kernel
theorem dX11_init_110 : decode cX11_init 110 = .ok (.dup, 1) := by decide +kernel
theorem dX11_init_111 : decode cX11_init 111 = .ok (.invokespecial 48, 3) := by decide +kernel
theorem dX11_init_114 : decode cX11_init 114 = .ok (.aastore, 1) := by decide +kernel
theorem dX11_init_115 : decode cX11_init 115 = .ok (.dup, 1) := by decide +kernel
theorem dX11_init_116 : decode cX11_init 116 = .ok (.iconst 2, 1) := by decide +kernel
theorem dX11_init_117 : decode cX11_init 117 = .ok (.new 49, 3) := by decide +kernel
theorem dX11_init_120 : decode cX11_init 120 = .ok (.dup, 1) := by decide +kernel
theorem dX11_init_121 : decode cX11_init 121 = .ok (.invokespecial 51, 3) := by decide +kernel
theorem dX11_init_124 : decode cX11_init 124 = .ok (.aastore, 1) := by decide +kernel
theorem dX11_init_125 : decode cX11_init 125 = .ok (.dup, 1) := by decide +kernel
theorem dX11_init_126 : decode cX11_init 126 = .ok (.iconst 3, 1) := by decide +kernel
theorem dX11_init_127 : decode cX11_init 127 = .ok (.new 52, 3) := by decide +kernel
theorem dX11_init_130 : decode cX11_init 130 = .ok (.dup, 1) := by decide +kernel
theorem dX11_init_131 : decode cX11_init 131 = .ok (.invokespecial 54, 3) := by decide +kernel
theorem dX11_init_134 : decode cX11_init 134 = .ok (.aastore, 1) := by decide +kernel
theorem dX11_init_135 : decode cX11_init 135 = .ok (.dup, 1) := by decide +kernel
theorem dX11_init_136 : decode cX11_init 136 = .ok (.iconst 4, 1) := by decide +kernel
theorem dX11_init_137 : decode cX11_init 137 = .ok (.new 55, 3) := by decide +kernel
theorem dX11_init_140 : decode cX11_init 140 = .ok (.dup, 1) := by decide +kernel
theorem dX11_init_141 : decode cX11_init 141 = .ok (.invokespecial 57, 3) := by decide +kernel
theorem dX11_init_144 : decode cX11_init 144 = .ok (.aastore, 1) := by decide +kernel
theorem dX11_init_145 : decode cX11_init 145 = .ok (.dup, 1) := by decide +kernel
theorem dX11_init_146 : decode cX11_init 146 = .ok (.iconst 5, 1) := by decide +kernel
theorem dX11_init_147 : decode cX11_init 147 = .ok (.new 58, 3) := by decide +kernel
theorem dX11_init_150 : decode cX11_init 150 = .ok (.dup, 1) := by decide +kernel
theorem dX11_init_151 : decode cX11_init 151 = .ok (.invokespecial 60, 3) := by decide +kernel
theorem dX11_init_154 : decode cX11_init 154 = .ok (.aastore, 1) := by decide +kernel
theorem dX11_init_155 : decode cX11_init 155 = .ok (.astore_n 1, 1) := by decide +kernel
theorem dX11_init_156 : decode cX11_init 156 = .ok (.aload_n 0, 1) := by decide +kernel
theorem dX11_init_157 : decode cX11_init 157 = .ok (.new 61, 3) := by decide +kernel
theorem dX11_init_160 : decode cX11_init 160 = .ok (.dup, 1) := by decide +kernel
theorem dX11_init_161 : decode cX11_init 161 = .ok (.aload_n 1, 1) := by decide +kernel
theorem dX11_init_162 : decode cX11_init 162 = .ok (.aload_n 0, 1) := by decide +kernel
theorem dX11_init_163 : decode cX11_init 163 = .ok (.getfield 18, 3) := by decide +kernel
theorem dX11_init_166 : decode cX11_init 166 = .ok (.invokespecial 63, 3) := by decide +kernel
theorem dX11_init_169 : decode cX11_init 169 = .ok (.putfield 66, 3) := by decide +kernel
theorem dX11_init_172 : decode cX11_init 172 = .ok (.aload_n 0, 1) := by decide +kernel
theorem dX11_init_173 : decode cX11_init 173 = .ok (.new 61, 3) := by decide +kernel
theorem dX11_init_176 : decode cX11_init 176 = .ok (.dup, 1) := by decide +kernel
theorem dX11_init_177 : decode cX11_init 177 = .ok (.aload_n 1, 1) := by decide +kernel
theorem dX11_init_178 : decode cX11_init 178 = .ok (.aload_n 0, 1) := by decide +kernel
theorem dX11_init_179 : decode cX11_init 179 = .ok (.getfield 25, 3) := by decide +kernel
theorem dX11_init_182 : decode cX11_init 182 = .ok (.invokespecial 63, 3) := by decide +kernel
theorem dX11_init_185 : decode cX11_init 185 = .ok (.putfield 70, 3) := by decide +kernel
theorem dX11_init_188 : decode cX11_init 188 = .ok (.aload_n 0, 1) := by decide +kernel
theorem dX11_init_189 : decode cX11_init 189 = .ok (.new 61, 3) := by decide +kernel
theorem dX11_init_192 : decode cX11_init 192 = .ok (.dup, 1) := by decide +kernel
theorem dX11_init_193 : decode cX11_init 193 = .ok (.aload_n 1, 1) := by decide +kernel
theorem dX11_init_194 : decode cX11_init 194 = .ok (.aload_n 0, 1) := by decide +kernel
theorem dX11_init_195 : decode cX11_init 195 = .ok (.getfield 18, 3) := by decide +kernel
theorem dX11_init_198 : decode cX11_init 198 = .ok (.invokespecial 63, 3) := by decide +kernel
theorem dX11_init_201 : decode cX11_init 201 = .ok (.putfield 73, 3) := by decide +kernel
theorem dX11_init_204 : decode cX11_init 204 = .ok (.aload_n 0, 1) := by decide +kernel
theorem dX11_init_205 : decode cX11_init 205 = .ok (.new 76, 3) := by decide +kernel
theorem dX11_init_208 : decode cX11_init 208 = .ok (.dup, 1) := by decide +kernel
theorem dX11_init_209 : decode cX11_init 209 = .ok (.aload_n 1, 1) := by decide +kernel
theorem dX11_init_210 : decode cX11_init 210 = .ok (.aload_n 0, 1) := by decide +kernel
theorem dX11_init_211 : decode cX11_init 211 = .ok (.getfield 18, 3) := by decide +kernel
theorem dX11_init_214 : decode cX11_init 214 = .ok (.invokespecial 78, 3) := by decide +kernel
theorem dX11_init_217 : decode cX11_init 217 = .ok (.putfield 79, 3) := by decide +kernel
theorem dX11_init_220 : decode cX11_init 220 = .ok (.aload_n 0, 1) := by decide +kernel
theorem dX11_init_221 : decode cX11_init 221 = .ok (.new 83, 3) := by decide +kernel
theorem dX11_init_224 : decode cX11_init 224 = .ok (.dup, 1) := by decide +kernel
theorem dX11_init_225 : decode cX11_init 225 = .ok (.aload_n 1, 1) := by decide +kernel
theorem dX11_init_226 : decode cX11_init 226 = .ok (.invokespecial 85, 3) := by decide +kernel
theorem dX11_init_229 : decode cX11_init 229 = .ok (.putfield 88, 3) := by decide +kernel
theorem dX11_init_232 : decode cX11_init 232 = .ok (.return_, 1) := by decide +kernel
theorem dX11_set_0 : decode cX11_set 0 = .ok (.iconst 0, 1) := by decide +kernel
theorem dX11_set_1 : decode cX11_set 1 = .ok (.iload_n 1, 1) := by decide +kernel
theorem dX11_set_2 : decode cX11_set 2 = .ok (.invokestatic 92, 3) := by decide +kernel
theorem dX11_set_5 : decode cX11_set 5 = .ok (.ifCond .eq 32, 3) := by decide +kernel
theorem dX11_set_8 : decode cX11_set 8 = .ok (.iconst 1, 1) := by decide +kernel
theorem dX11_set_9 : decode cX11_set 9 = .ok (.iload_n 2, 1) := by decide +kernel
theorem dX11_set_10 : decode cX11_set 10 = .ok (.invokestatic 92, 3) := by decide +kernel
theorem dX11_set_13 : decode cX11_set 13 = .ok (.ifCond .eq 24, 3) := by decide +kernel
theorem dX11_set_16 : decode cX11_set 16 = .ok (.iconst 2, 1) := by decide +kernel
theorem dX11_set_17 : decode cX11_set 17 = .ok (.iload_n 3, 1) := by decide +kernel
theorem dX11_set_18 : decode cX11_set 18 = .ok (.invokestatic 92, 3) := by decide +kernel
theorem dX11_set_21 : decode cX11_set 21 = .ok (.ifCond .eq 16, 3) := by decide +kernel
theorem dX11_set_24 : decode cX11_set 24 = .ok (.iconst 3, 1) := by decide +kernel
theorem dX11_set_25 : decode cX11_set 25 = .ok (.iload 4, 2) := by decide +kernel
theorem dX11_set_27 : decode cX11_set 27 = .ok (.invokestatic 92, 3) := by decide +kernel
theorem dX11_set_30 : decode cX11_set 30 = .ok (.ifCond .eq 7, 3) := by decide +kernel
theorem dX11_set_33 : decode cX11_set 33 = .ok (.iconst 1, 1) := by decide +kernel
theorem dX11_set_34 : decode cX11_set 34 = .ok (.goto 4, 3) := by decide +kernel
theorem dX11_set_37 : decode cX11_set 37 = .ok (.iconst 0, 1) := by decide +kernel
theorem dX11_set_38 : decode cX11_set 38 = .ok (.istore 5, 2) := by decide +kernel
theorem dX11_set_40 : decode cX11_set 40 = .ok (.iload 5, 2) := by decide +kernel
theorem dX11_set_42 : decode cX11_set 42 = .ok (.ifCond .ne 5, 3) := by decide +kernel
theorem dX11_set_45 : decode cX11_set 45 = .ok (.iconst (-1), 1) := by decide +kernel
theorem dX11_set_46 : decode cX11_set 46 = .ok (.ireturn, 1) := by decide +kernel
theorem dX11_set_47 : decode cX11_set 47 = .ok (.aload_n 0, 1) := by decide +kernel
theorem dX11_set_48 : decode cX11_set 48 = .ok (.getfield 66, 3) := by decide +kernel
theorem dX11_set_51 : decode cX11_set 51 = .ok (.getfield 96, 3) := by decide +kernel
theorem dX11_set_54 : decode cX11_set 54 = .ok (.bipush 6, 2) := by decide +kernel
theorem dX11_set_56 : decode cX11_set 56 = .ok (.if_icmp .lt 8, 3) := by decide +kernel
theorem dX11_set_59 : decode cX11_set 59 = .ok (.bipush (-2), 2) := by decide +kernel
theorem dX11_set_61 : decode cX11_set 61 = .ok (.goto 15, 3) := by decide +kernel
theorem dX11_set_64 : decode cX11_set 64 = .ok (.aload_n 0, 1) := by decide +kernel
theorem dX11_set_65 : decode cX11_set 65 = .ok (.getfield 66, 3) := by decide +kernel
theorem dX11_set_68 : decode cX11_set 68 = .ok (.iload_n 1, 1) := by decide +kernel
theorem dX11_set_69 : decode cX11_set 69 = .ok (.iload_n 2, 1) := by decide +kernel
theorem dX11_set_70 : decode cX11_set 70 = .ok (.iload_n 3, 1) := by decide +kernel
theorem dX11_set_71 : decode cX11_set 71 = .ok (.iload 4, 2) := by decide +kernel
theorem dX11_set_73 : decode cX11_set 73 = .ok (.invokevirtual 100, 3) := by decide +kernel
theorem dX11_set_76 : decode cX11_set 76 = .ok (.ireturn, 1) := by decide +kernel
theorem dX11_setOf_0 : decode cX11_setOf 0 = .ok (.aload_n 0, 1) := by decide +kernel
theorem dX11_setOf_1 : decode cX11_setOf 1 = .ok (.getfield 66, 3) := by decide +kernel
theorem dX11_setOf_4 : decode cX11_setOf 4 = .ok (.iload_n 1, 1) := by decide +kernel
theorem dX11_setOf_5 : decode cX11_setOf 5 = .ok (.invokevirtual 104, 3) := by decide +kernel
theorem dX11_setOf_8 : decode cX11_setOf 8 = .ok (.ifCond .eq 13, 3) := by decide +kernel
theorem dX11_setOf_11 : decode cX11_setOf 11 = .ok (.iload_n 2, 1) := by decide +kernel
theorem dX11_setOf_12 : decode cX11_setOf 12 = .ok (.ifCond .lt 9, 3) := by decide +kernel
theorem dX11_setOf_15 : decode cX11_setOf 15 = .ok (.iload_n 2, 1) := by decide +kernel
theorem dX11_setOf_16 : decode cX11_setOf 16 = .ok (.bipush 8, 2) := by decide +kernel
theorem dX11_setOf_18 : decode cX11_setOf 18 = .ok (.if_icmp .le 5, 3) := by decide +kernel
theorem dX11_setOf_21 : decode cX11_setOf 21 = .ok (.iconst (-1), 1) := by decide +kernel
theorem dX11_setOf_22 : decode cX11_setOf 22 = .ok (.ireturn, 1) := by decide +kernel
theorem dX11_setOf_23 : decode cX11_setOf 23 = .ok (.iload_n 2, 1) := by decide +kernel
theorem dX11_setOf_24 : decode cX11_setOf 24 = .ok (.iconst 4, 1) := by decide +kernel
theorem dX11_setOf_25 : decode cX11_setOf 25 = .ok (.if_icmp .gt 15, 3) := by decide +kernel
theorem dX11_setOf_28 : decode cX11_setOf 28 = .ok (.aload_n 0, 1) := by decide +kernel
theorem dX11_setOf_29 : decode cX11_setOf 29 = .ok (.getfield 66, 3) := by decide +kernel
theorem dX11_setOf_32 : decode cX11_setOf 32 = .ok (.getfield 108, 3) := by decide +kernel
theorem dX11_setOf_35 : decode cX11_setOf 35 = .ok (.iload_n 2, 1) := by decide +kernel
theorem dX11_setOf_36 : decode cX11_setOf 36 = .ok (.aaload, 1) := by decide +kernel
theorem dX11_setOf_37 : decode cX11_setOf 37 = .ok (.iload_n 1, 1) := by decide +kernel
theorem dX11_setOf_38 : decode cX11_setOf 38 = .ok (.iaload, 1) := by decide +kernel
theorem dX11_setOf_39 : decode cX11_setOf 39 = .ok (.ireturn, 1) := by decide +kernel
theorem dX11_setOf_40 : decode cX11_setOf 40 = .ok (.iload_n 2, 1) := by decide +kernel
theorem dX11_setOf_41 : decode cX11_setOf 41 = .ok (.iconst 5, 1) := by decide +kernel
theorem dX11_setOf_42 : decode cX11_setOf 42 = .ok (.if_icmp .ne 27, 3) := by decide +kernel
theorem dX11_setOf_45 : decode cX11_setOf 45 = .ok (.aload_n 0, 1) := by decide +kernel
theorem dX11_setOf_46 : decode cX11_setOf 46 = .ok (.getfield 66, 3) := by decide +kernel
theorem dX11_setOf_49 : decode cX11_setOf 49 = .ok (.iload_n 1, 1) := by decide +kernel
theorem dX11_setOf_50 : decode cX11_setOf 50 = .ok (.aload_n 0, 1) := by decide +kernel
theorem dX11_setOf_51 : decode cX11_setOf 51 = .ok (.getfield 66, 3) := by decide +kernel
theorem dX11_setOf_54 : decode cX11_setOf 54 = .ok (.getfield 111, 3) := by decide +kernel
theorem dX11_setOf_57 : decode cX11_setOf 57 = .ok (.invokevirtual 114, 3) := by decide +kernel
theorem dX11_setOf_60 : decode cX11_setOf 60 = .ok (.ifCond .eq 7, 3) := by decide +kernel
theorem dX11_setOf_63 : decode cX11_setOf 63 = .ok (.iconst 1, 1) := by decide +kernel
theorem dX11_setOf_64 : decode cX11_setOf 64 = .ok (.goto 4, 3) := by decide +kernel
theorem dX11_setOf_67 : decode cX11_setOf 67 = .ok (.iconst 0, 1) := by decide +kernel
theorem dX11_setOf_68 : decode cX11_setOf 68 = .ok (.ireturn, 1) := by decide +kernel
theorem dX11_setOf_69 : decode cX11_setOf 69 = .ok (.iload_n 2, 1) := by decide +kernel
theorem dX11_setOf_70 : decode cX11_setOf 70 = .ok (.bipush 6, 2) := by decide +kernel
theorem dX11_setOf_72 : decode cX11_setOf 72 = .ok (.if_icmp .ne 12, 3) := by decide +kernel
theorem dX11_setOf_75 : decode cX11_setOf 75 = .ok (.aload_n 0, 1) := by decide +kernel
theorem dX11_setOf_76 : decode cX11_setOf 76 = .ok (.getfield 66, 3) := by decide +kernel
theorem dX11_setOf_79 : decode cX11_setOf 79 = .ok (.iload_n 1, 1) := by decide +kernel
theorem dX11_setOf_80 : decode cX11_setOf 80 = .ok (.invokevirtual 117, 3) := by decide +kernel
theorem dX11_setOf_83 : decode cX11_setOf 83 = .ok (.ireturn, 1) := by decide +kernel
theorem dX11_setOf_84 : decode cX11_setOf 84 = .ok (.iload_n 2, 1) := by decide +kernel
theorem dX11_setOf_85 : decode cX11_setOf 85 = .ok (.bipush 7, 2) := by decide +kernel
theorem dX11_setOf_87 : decode cX11_setOf 87 = .ok (.if_icmp .ne 14, 3) := by decide +kernel
theorem dX11_setOf_90 : decode cX11_setOf 90 = .ok (.aload_n 0, 1) := by decide +kernel
theorem dX11_setOf_91 : decode cX11_setOf 91 = .ok (.getfield 66, 3) := by decide +kernel
theorem dX11_setOf_94 : decode cX11_setOf 94 = .ok (.iload_n 1, 1) := by decide +kernel
theorem dX11_setOf_95 : decode cX11_setOf 95 = .ok (.invokevirtual 121, 3) := by decide +kernel
theorem dX11_setOf_98 : decode cX11_setOf 98 = .ok (.goto 11, 3) := by decide +kernel
theorem dX11_setOf_101 : decode cX11_setOf 101 = .ok (.aload_n 0, 1) := by decide +kernel
theorem dX11_setOf_102 : decode cX11_setOf 102 = .ok (.getfield 66, 3) := by decide +kernel
theorem dX11_setOf_105 : decode cX11_setOf 105 = .ok (.iload_n 1, 1) := by decide +kernel
theorem dX11_setOf_106 : decode cX11_setOf 106 = .ok (.invokevirtual 124, 3) := by decide +kernel
theorem dX11_setOf_109 : decode cX11_setOf 109 = .ok (.ireturn, 1) := by decide +kernel
theorem dX11_change_0 : decode cX11_change 0 = .ok (.aload_n 0, 1) := by decide +kernel
theorem dX11_change_1 : decode cX11_change 1 = .ok (.getfield 66, 3) := by decide +kernel
theorem dX11_change_4 : decode cX11_change 4 = .ok (.iload_n 1, 1) := by decide +kernel
theorem dX11_change_5 : decode cX11_change 5 = .ok (.invokevirtual 104, 3) := by decide +kernel
theorem dX11_change_8 : decode cX11_change 8 = .ok (.ifCond .eq 16, 3) := by decide +kernel
theorem dX11_change_11 : decode cX11_change 11 = .ok (.iload_n 2, 1) := by decide +kernel
theorem dX11_change_12 : decode cX11_change 12 = .ok (.iconst 1, 1) := by decide +kernel
theorem dX11_change_13 : decode cX11_change 13 = .ok (.if_icmp .lt 11, 3) := by decide +kernel
theorem dX11_change_16 : decode cX11_change 16 = .ok (.iload_n 2, 1) := by decide +kernel
theorem dX11_change_17 : decode cX11_change 17 = .ok (.iload_n 3, 1) := by decide +kernel
theorem dX11_change_18 : decode cX11_change 18 = .ok (.invokestatic 92, 3) := by decide +kernel
theorem dX11_change_21 : decode cX11_change 21 = .ok (.ifCond .ne 5, 3) := by decide +kernel
theorem dX11_change_24 : decode cX11_change 24 = .ok (.iconst (-1), 1) := by decide +kernel
theorem dX11_change_25 : decode cX11_change 25 = .ok (.ireturn, 1) := by decide +kernel
theorem dX11_change_26 : decode cX11_change 26 = .ok (.aload_n 0, 1) := by decide +kernel
theorem dX11_change_27 : decode cX11_change 27 = .ok (.getfield 66, 3) := by decide +kernel
theorem dX11_change_30 : decode cX11_change 30 = .ok (.iload_n 1, 1) := by decide +kernel
theorem dX11_change_31 : decode cX11_change 31 = .ok (.iload_n 2, 1) := by decide +kernel
theorem dX11_change_32 : decode cX11_change 32 = .ok (.iload_n 3, 1) := by decide +kernel
theorem dX11_change_33 : decode cX11_change 33 = .ok (.invokevirtual 127, 3) := by decide +kernel
theorem dX11_change_36 : decode cX11_change 36 = .ok (.ireturn, 1) := by decide +kernel
theorem dX11_remake_0 : decode cX11_remake 0 = .ok (.aload_n 0, 1) := by decide +kernel
theorem dX11_remake_1 : decode cX11_remake 1 = .ok (.getfield 66, 3) := by decide +kernel
theorem dX11_remake_4 : decode cX11_remake 4 = .ok (.iload_n 1, 1) := by decide +kernel
theorem dX11_remake_5 : decode cX11_remake 5 = .ok (.invokevirtual 104, 3) := by decide +kernel
theorem dX11_remake_8 : decode cX11_remake 8 = .ok (.ifCond .eq 11, 3) := by decide +kernel
theorem dX11_remake_11 : decode cX11_remake 11 = .ok (.iconst 0, 1) := by decide +kernel
theorem dX11_remake_12 : decode cX11_remake 12 = .ok (.iload_n 2, 1) := by decide +kernel
theorem dX11_remake_13 : decode cX11_remake 13 = .ok (.invokestatic 92, 3) := by decide +kernel
theorem dX11_remake_16 : decode cX11_remake 16 = .ok (.ifCond .ne 5, 3) := by decide +kernel
theorem dX11_remake_19 : decode cX11_remake 19 = .ok (.iconst (-1), 1) := by decide +kernel
theorem dX11_remake_20 : decode cX11_remake 20 = .ok (.ireturn, 1) := by decide +kernel
theorem dX11_remake_21 : decode cX11_remake 21 = .ok (.aload_n 0, 1) := by decide +kernel
theorem dX11_remake_22 : decode cX11_remake 22 = .ok (.getfield 66, 3) := by decide +kernel
theorem dX11_remake_25 : decode cX11_remake 25 = .ok (.iload_n 1, 1) := by decide +kernel
theorem dX11_remake_26 : decode cX11_remake 26 = .ok (.iconst 0, 1) := by decide +kernel
theorem dX11_remake_27 : decode cX11_remake 27 = .ok (.iload_n 2, 1) := by decide +kernel
theorem dX11_remake_28 : decode cX11_remake 28 = .ok (.invokevirtual 127, 3) := by decide +kernel
theorem dX11_remake_31 : decode cX11_remake 31 = .ok (.ireturn, 1) := by decide +kernel
theorem dX11_machine_0 : decode cX11_machine 0 = .ok (.iload_n 1, 1) := by decide +kernel
theorem dX11_machine_1 : decode cX11_machine 1 = .ok (.iload_n 2, 1) := by decide +kernel
theorem dX11_machine_2 : decode cX11_machine 2 = .ok (.invokestatic 131, 3) := by decide +kernel
theorem dX11_machine_5 : decode cX11_machine 5 = .ok (.ifCond .eq 16, 3) := by decide +kernel
theorem dX11_machine_8 : decode cX11_machine 8 = .ok (.iload_n 3, 1) := by decide +kernel
theorem dX11_machine_9 : decode cX11_machine 9 = .ok (.ifCond .lt 12, 3) := by decide +kernel
theorem dX11_machine_12 : decode cX11_machine 12 = .ok (.iload_n 3, 1) := by decide +kernel
theorem dX11_machine_13 : decode cX11_machine 13 = .ok (.getstatic 134, 3) := by decide +kernel
theorem dX11_machine_16 : decode cX11_machine 16 = .ok (.iload_n 2, 1) := by decide +kernel
theorem dX11_machine_17 : decode cX11_machine 17 = .ok (.iaload, 1) := by decide +kernel
theorem dX11_machine_18 : decode cX11_machine 18 = .ok (.if_icmp .le 5, 3) := by decide +kernel
theorem dX11_machine_21 : decode cX11_machine 21 = .ok (.iconst (-1), 1) := by decide +kernel
theorem dX11_machine_22 : decode cX11_machine 22 = .ok (.ireturn, 1) := by decide +kernel
theorem dX11_machine_23 : decode cX11_machine 23 = .ok (.aload_n 0, 1) := by decide +kernel
theorem dX11_machine_24 : decode cX11_machine 24 = .ok (.getfield 66, 3) := by decide +kernel
theorem dX11_machine_27 : decode cX11_machine 27 = .ok (.getfield 138, 3) := by decide +kernel
theorem dX11_machine_30 : decode cX11_machine 30 = .ok (.iload_n 2, 1) := by decide +kernel
theorem dX11_machine_31 : decode cX11_machine 31 = .ok (.aaload, 1) := by decide +kernel
theorem dX11_machine_32 : decode cX11_machine 32 = .ok (.iload_n 1, 1) := by decide +kernel
theorem dX11_machine_33 : decode cX11_machine 33 = .ok (.iaload, 1) := by decide +kernel
theorem dX11_machine_34 : decode cX11_machine 34 = .ok (.istore 4, 2) := by decide +kernel
theorem dX11_machine_36 : decode cX11_machine 36 = .ok (.aload_n 0, 1) := by decide +kernel
theorem dX11_machine_37 : decode cX11_machine 37 = .ok (.getfield 66, 3) := by decide +kernel
theorem dX11_machine_40 : decode cX11_machine 40 = .ok (.getfield 138, 3) := by decide +kernel
theorem dX11_machine_43 : decode cX11_machine 43 = .ok (.iload_n 2, 1) := by decide +kernel
theorem dX11_machine_44 : decode cX11_machine 44 = .ok (.aaload, 1) := by decide +kernel
theorem dX11_machine_45 : decode cX11_machine 45 = .ok (.iload_n 1, 1) := by decide +kernel
theorem dX11_machine_46 : decode cX11_machine 46 = .ok (.iload_n 3, 1) := by decide +kernel
theorem dX11_machine_47 : decode cX11_machine 47 = .ok (.iastore, 1) := by decide +kernel
theorem dX11_machine_48 : decode cX11_machine 48 = .ok (.iload 4, 2) := by decide +kernel
theorem dX11_machine_50 : decode cX11_machine 50 = .ok (.ireturn, 1) := by decide +kernel
theorem dX11_machineOf_0 : decode cX11_machineOf 0 = .ok (.iload_n 1, 1) := by decide +kernel
theorem dX11_machineOf_1 : decode cX11_machineOf 1 = .ok (.iload_n 2, 1) := by decide +kernel
theorem dX11_machineOf_2 : decode cX11_machineOf 2 = .ok (.invokestatic 131, 3) := by decide +kernel
theorem dX11_machineOf_5 : decode cX11_machineOf 5 = .ok (.ifCond .eq 17, 3) := by decide +kernel
theorem dX11_machineOf_8 : decode cX11_machineOf 8 = .ok (.aload_n 0, 1) := by decide +kernel
theorem dX11_machineOf_9 : decode cX11_machineOf 9 = .ok (.getfield 66, 3) := by decide +kernel
theorem dX11_machineOf_12 : decode cX11_machineOf 12 = .ok (.getfield 138, 3) := by decide +kernel
theorem dX11_machineOf_15 : decode cX11_machineOf 15 = .ok (.iload_n 2, 1) := by decide +kernel
theorem dX11_machineOf_16 : decode cX11_machineOf 16 = .ok (.aaload, 1) := by decide +kernel
theorem dX11_machineOf_17 : decode cX11_machineOf 17 = .ok (.iload_n 1, 1) := by decide +kernel
theorem dX11_machineOf_18 : decode cX11_machineOf 18 = .ok (.iaload, 1) := by decide +kernel
theorem dX11_machineOf_19 : decode cX11_machineOf 19 = .ok (.goto 4, 3) := by decide +kernel
theorem dX11_machineOf_22 : decode cX11_machineOf 22 = .ok (.iconst (-1), 1) := by decide +kernel
theorem dX11_machineOf_23 : decode cX11_machineOf 23 = .ok (.ireturn, 1) := by decide +kernel
theorem dX11_tire_0 : decode cX11_tire 0 = .ok (.iload_n 1, 1) := by decide +kernel
theorem dX11_tire_1 : decode cX11_tire 1 = .ok (.ifCond .lt 18, 3) := by decide +kernel
theorem dX11_tire_4 : decode cX11_tire 4 = .ok (.iload_n 1, 1) := by decide +kernel
theorem dX11_tire_5 : decode cX11_tire 5 = .ok (.iconst 3, 1) := by decide +kernel
theorem dX11_tire_6 : decode cX11_tire 6 = .ok (.if_icmp .ge 13, 3) := by decide +kernel
theorem dX11_tire_9 : decode cX11_tire 9 = .ok (.iload_n 2, 1) := by decide +kernel
theorem dX11_tire_10 : decode cX11_tire 10 = .ok (.ifCond .lt 9, 3) := by decide +kernel
theorem dX11_tire_13 : decode cX11_tire 13 = .ok (.iload_n 2, 1) := by decide +kernel
theorem dX11_tire_14 : decode cX11_tire 14 = .ok (.bipush 9, 2) := by decide +kernel
theorem dX11_tire_16 : decode cX11_tire 16 = .ok (.if_icmp .le 5, 3) := by decide +kernel
theorem dX11_tire_19 : decode cX11_tire 19 = .ok (.iconst (-1), 1) := by decide +kernel
theorem dX11_tire_20 : decode cX11_tire 20 = .ok (.ireturn, 1) := by decide +kernel
theorem dX11_tire_21 : decode cX11_tire 21 = .ok (.aload_n 0, 1) := by decide +kernel
theorem dX11_tire_22 : decode cX11_tire 22 = .ok (.getfield 66, 3) := by decide +kernel
theorem dX11_tire_25 : decode cX11_tire 25 = .ok (.getfield 141, 3) := by decide +kernel
theorem dX11_tire_28 : decode cX11_tire 28 = .ok (.iload_n 1, 1) := by decide +kernel
theorem dX11_tire_29 : decode cX11_tire 29 = .ok (.iaload, 1) := by decide +kernel
theorem dX11_tire_30 : decode cX11_tire 30 = .ok (.istore_n 3, 1) := by decide +kernel
theorem dX11_tire_31 : decode cX11_tire 31 = .ok (.aload_n 0, 1) := by decide +kernel
theorem dX11_tire_32 : decode cX11_tire 32 = .ok (.getfield 66, 3) := by decide +kernel
theorem dX11_tire_35 : decode cX11_tire 35 = .ok (.getfield 141, 3) := by decide +kernel
theorem dX11_tire_38 : decode cX11_tire 38 = .ok (.iload_n 1, 1) := by decide +kernel
theorem dX11_tire_39 : decode cX11_tire 39 = .ok (.iload_n 2, 1) := by decide +kernel
theorem dX11_tire_40 : decode cX11_tire 40 = .ok (.iastore, 1) := by decide +kernel
theorem dX11_tire_41 : decode cX11_tire 41 = .ok (.iload_n 3, 1) := by decide +kernel
theorem dX11_tire_42 : decode cX11_tire 42 = .ok (.ireturn, 1) := by decide +kernel
theorem dX11_ends_0 : decode cX11_ends 0 = .ok (.iload_n 1, 1) := by decide +kernel
theorem dX11_ends_1 : decode cX11_ends 1 = .ok (.iconst 1, 1) := by decide +kernel
theorem dX11_ends_2 : decode cX11_ends 2 = .ok (.if_icmp .lt 9, 3) := by decide +kernel
theorem dX11_ends_5 : decode cX11_ends 5 = .ok (.iload_n 1, 1) := by decide +kernel
theorem dX11_ends_6 : decode cX11_ends 6 = .ok (.bipush 16, 2) := by decide +kernel
theorem dX11_ends_8 : decode cX11_ends 8 = .ok (.if_icmp .le 5, 3) := by decide +kernel
theorem dX11_ends_11 : decode cX11_ends 11 = .ok (.iconst (-1), 1) := by decide +kernel
theorem dX11_ends_12 : decode cX11_ends 12 = .ok (.ireturn, 1) := by decide +kernel
theorem dX11_ends_13 : decode cX11_ends 13 = .ok (.iload_n 1, 1) := by decide +kernel
theorem dX11_ends_14 : decode cX11_ends 14 = .ok (.aload_n 0, 1) := by decide +kernel
theorem dX11_ends_15 : decode cX11_ends 15 = .ok (.getfield 66, 3) := by decide +kernel
theorem dX11_ends_18 : decode cX11_ends 18 = .ok (.getfield 111, 3) := by decide +kernel
theorem dX11_ends_21 : decode cX11_ends 21 = .ok (.if_icmp .ge 6, 3) := by decide +kernel
theorem dX11_ends_24 : decode cX11_ends 24 = .ok (.bipush (-4), 2) := by decide +kernel
theorem dX11_ends_26 : decode cX11_ends 26 = .ok (.ireturn, 1) := by decide +kernel
theorem dX11_ends_27 : decode cX11_ends 27 = .ok (.aload_n 0, 1) := by decide +kernel
theorem dX11_ends_28 : decode cX11_ends 28 = .ok (.getfield 66, 3) := by decide +kernel
theorem dX11_ends_31 : decode cX11_ends 31 = .ok (.getfield 144, 3) := by decide +kernel
theorem dX11_ends_34 : decode cX11_ends 34 = .ok (.istore_n 2, 1) := by decide +kernel
theorem dX11_ends_35 : decode cX11_ends 35 = .ok (.aload_n 0, 1) := by decide +kernel
theorem dX11_ends_36 : decode cX11_ends 36 = .ok (.getfield 66, 3) := by decide +kernel
theorem dX11_ends_39 : decode cX11_ends 39 = .ok (.iload_n 1, 1) := by decide +kernel
theorem dX11_ends_40 : decode cX11_ends 40 = .ok (.putfield 144, 3) := by decide +kernel
theorem dX11_ends_43 : decode cX11_ends 43 = .ok (.iload_n 2, 1) := by decide +kernel
theorem dX11_ends_44 : decode cX11_ends 44 = .ok (.ireturn, 1) := by decide +kernel
theorem dX11_anew_0 : decode cX11_anew 0 = .ok (.aload_n 0, 1) := by decide +kernel
theorem dX11_anew_1 : decode cX11_anew 1 = .ok (.getfield 66, 3) := by decide +kernel
theorem dX11_anew_4 : decode cX11_anew 4 = .ok (.getfield 111, 3) := by decide +kernel
theorem dX11_anew_7 : decode cX11_anew 7 = .ok (.istore_n 1, 1) := by decide +kernel
theorem dX11_anew_8 : decode cX11_anew 8 = .ok (.aload_n 0, 1) := by decide +kernel
theorem dX11_anew_9 : decode cX11_anew 9 = .ok (.getfield 66, 3) := by decide +kernel
theorem dX11_anew_12 : decode cX11_anew 12 = .ok (.invokevirtual 147, 3) := by decide +kernel
theorem dX11_anew_15 : decode cX11_anew 15 = .ok (.iload_n 1, 1) := by decide +kernel
theorem dX11_anew_16 : decode cX11_anew 16 = .ok (.ireturn, 1) := by decide +kernel
theorem dX11_state_0 : decode cX11_state 0 = .ok (.iload_n 1, 1) := by decide +kernel
theorem dX11_state_1 : decode cX11_state 1 = .ok (.tableswitch 83 0 4 #[35, 43, 51, 59, 75], 35) := by decide +kernel
theorem dX11_state_36 : decode cX11_state 36 = .ok (.aload_n 0, 1) := by decide +kernel
theorem dX11_state_37 : decode cX11_state 37 = .ok (.getfield 66, 3) := by decide +kernel
theorem dX11_state_40 : decode cX11_state 40 = .ok (.getfield 111, 3) := by decide +kernel
theorem dX11_state_43 : decode cX11_state 43 = .ok (.ireturn, 1) := by decide +kernel
theorem dX11_state_44 : decode cX11_state 44 = .ok (.aload_n 0, 1) := by decide +kernel
theorem dX11_state_45 : decode cX11_state 45 = .ok (.getfield 66, 3) := by decide +kernel
theorem dX11_state_48 : decode cX11_state 48 = .ok (.getfield 144, 3) := by decide +kernel
theorem dX11_state_51 : decode cX11_state 51 = .ok (.ireturn, 1) := by decide +kernel
theorem dX11_state_52 : decode cX11_state 52 = .ok (.aload_n 0, 1) := by decide +kernel
theorem dX11_state_53 : decode cX11_state 53 = .ok (.getfield 66, 3) := by decide +kernel
theorem dX11_state_56 : decode cX11_state 56 = .ok (.getfield 150, 3) := by decide +kernel
theorem dX11_state_59 : decode cX11_state 59 = .ok (.ireturn, 1) := by decide +kernel
theorem dX11_state_60 : decode cX11_state 60 = .ok (.aload_n 0, 1) := by decide +kernel
theorem dX11_state_61 : decode cX11_state 61 = .ok (.getfield 66, 3) := by decide +kernel
theorem dX11_state_64 : decode cX11_state 64 = .ok (.invokevirtual 153, 3) := by decide +kernel
theorem dX11_state_67 : decode cX11_state 67 = .ok (.ifCond .eq 7, 3) := by decide +kernel
theorem dX11_state_70 : decode cX11_state 70 = .ok (.iconst 1, 1) := by decide +kernel
theorem dX11_state_71 : decode cX11_state 71 = .ok (.goto 4, 3) := by decide +kernel
theorem dX11_state_74 : decode cX11_state 74 = .ok (.iconst 0, 1) := by decide +kernel
theorem dX11_state_75 : decode cX11_state 75 = .ok (.ireturn, 1) := by decide +kernel
theorem dX11_state_76 : decode cX11_state 76 = .ok (.aload_n 0, 1) := by decide +kernel
theorem dX11_state_77 : decode cX11_state 77 = .ok (.getfield 66, 3) := by decide +kernel
theorem dX11_state_80 : decode cX11_state 80 = .ok (.invokevirtual 157, 3) := by decide +kernel
theorem dX11_state_83 : decode cX11_state 83 = .ok (.ireturn, 1) := by decide +kernel
theorem dX11_state_84 : decode cX11_state 84 = .ok (.iload_n 1, 1) := by decide +kernel
theorem dX11_state_85 : decode cX11_state 85 = .ok (.iconst 5, 1) := by decide +kernel
theorem dX11_state_86 : decode cX11_state 86 = .ok (.if_icmp .lt 23, 3) := by decide +kernel
theorem dX11_state_89 : decode cX11_state 89 = .ok (.iload_n 1, 1) := by decide +kernel
theorem dX11_state_90 : decode cX11_state 90 = .ok (.bipush 8, 2) := by decide +kernel
theorem dX11_state_92 : decode cX11_state 92 = .ok (.if_icmp .ge 17, 3) := by decide +kernel
theorem dX11_state_95 : decode cX11_state 95 = .ok (.aload_n 0, 1) := by decide +kernel
theorem dX11_state_96 : decode cX11_state 96 = .ok (.getfield 66, 3) := by decide +kernel
theorem dX11_state_99 : decode cX11_state 99 = .ok (.getfield 141, 3) := by decide +kernel
theorem dX11_state_102 : decode cX11_state 102 = .ok (.iload_n 1, 1) := by decide +kernel
theorem dX11_state_103 : decode cX11_state 103 = .ok (.iconst 5, 1) := by decide +kernel
theorem dX11_state_104 : decode cX11_state 104 = .ok (.isub, 1) := by decide +kernel
theorem dX11_state_105 : decode cX11_state 105 = .ok (.iaload, 1) := by decide +kernel
theorem dX11_state_106 : decode cX11_state 106 = .ok (.goto 4, 3) := by decide +kernel
theorem dX11_state_109 : decode cX11_state 109 = .ok (.iconst (-1), 1) := by decide +kernel
theorem dX11_state_110 : decode cX11_state 110 = .ok (.ireturn, 1) := by decide +kernel
theorem dX11_feed_0 : decode cX11_feed 0 = .ok (.iload_n 3, 1) := by decide +kernel
theorem dX11_feed_1 : decode cX11_feed 1 = .ok (.iconst 1, 1) := by decide +kernel
theorem dX11_feed_2 : decode cX11_feed 2 = .ok (.if_icmp .lt 9, 3) := by decide +kernel
theorem dX11_feed_5 : decode cX11_feed 5 = .ok (.iload_n 3, 1) := by decide +kernel
theorem dX11_feed_6 : decode cX11_feed 6 = .ok (.bipush 8, 2) := by decide +kernel
theorem dX11_feed_8 : decode cX11_feed 8 = .ok (.if_icmp .le 5, 3) := by decide +kernel
theorem dX11_feed_11 : decode cX11_feed 11 = .ok (.iconst (-1), 1) := by decide +kernel
theorem dX11_feed_12 : decode cX11_feed 12 = .ok (.ireturn, 1) := by decide +kernel
theorem dX11_feed_13 : decode cX11_feed 13 = .ok (.aload_n 0, 1) := by decide +kernel
theorem dX11_feed_14 : decode cX11_feed 14 = .ok (.getfield 161, 3) := by decide +kernel
theorem dX11_feed_17 : decode cX11_feed 17 = .ok (.iload_n 3, 1) := by decide +kernel
theorem dX11_feed_18 : decode cX11_feed 18 = .ok (.iadd, 1) := by decide +kernel
theorem dX11_feed_19 : decode cX11_feed 19 = .ok (.sipush 200, 3) := by decide +kernel
theorem dX11_feed_22 : decode cX11_feed 22 = .ok (.if_icmp .le 6, 3) := by decide +kernel
theorem dX11_feed_25 : decode cX11_feed 25 = .ok (.bipush (-2), 2) := by decide +kernel
theorem dX11_feed_27 : decode cX11_feed 27 = .ok (.ireturn, 1) := by decide +kernel
theorem dX11_feed_28 : decode cX11_feed 28 = .ok (.iconst 0, 1) := by decide +kernel
theorem dX11_feed_29 : decode cX11_feed 29 = .ok (.istore 4, 2) := by decide +kernel
theorem dX11_feed_31 : decode cX11_feed 31 = .ok (.iload 4, 2) := by decide +kernel
theorem dX11_feed_33 : decode cX11_feed 33 = .ok (.iload_n 3, 1) := by decide +kernel
theorem dX11_feed_34 : decode cX11_feed 34 = .ok (.if_icmp .ge 30, 3) := by decide +kernel
theorem dX11_feed_37 : decode cX11_feed 37 = .ok (.aload_n 0, 1) := by decide +kernel
theorem dX11_feed_38 : decode cX11_feed 38 = .ok (.getfield 9, 3) := by decide +kernel
theorem dX11_feed_41 : decode cX11_feed 41 = .ok (.aload_n 0, 1) := by decide +kernel
theorem dX11_feed_42 : decode cX11_feed 42 = .ok (.getfield 161, 3) := by decide +kernel
theorem dX11_feed_45 : decode cX11_feed 45 = .ok (.iload 4, 2) := by decide +kernel
theorem dX11_feed_47 : decode cX11_feed 47 = .ok (.iadd, 1) := by decide +kernel
theorem dX11_feed_48 : decode cX11_feed 48 = .ok (.lload_n 1, 1) := by decide +kernel
theorem dX11_feed_49 : decode cX11_feed 49 = .ok (.bipush 8, 2) := by decide +kernel
theorem dX11_feed_51 : decode cX11_feed 51 = .ok (.iload 4, 2) := by decide +kernel
theorem dX11_feed_53 : decode cX11_feed 53 = .ok (.imul, 1) := by decide +kernel
theorem dX11_feed_54 : decode cX11_feed 54 = .ok (.lushr, 1) := by decide +kernel
theorem dX11_feed_55 : decode cX11_feed 55 = .ok (.l2i, 1) := by decide +kernel
theorem dX11_feed_56 : decode cX11_feed 56 = .ok (.i2b, 1) := by decide +kernel
theorem dX11_feed_57 : decode cX11_feed 57 = .ok (.bastore, 1) := by decide +kernel
theorem dX11_feed_58 : decode cX11_feed 58 = .ok (.iinc 4 1, 3) := by decide +kernel
theorem dX11_feed_61 : decode cX11_feed 61 = .ok (.goto (-30), 3) := by decide +kernel
theorem dX11_feed_64 : decode cX11_feed 64 = .ok (.aload_n 0, 1) := by decide +kernel
theorem dX11_feed_65 : decode cX11_feed 65 = .ok (.dup, 1) := by decide +kernel
theorem dX11_feed_66 : decode cX11_feed 66 = .ok (.getfield 161, 3) := by decide +kernel
theorem dX11_feed_69 : decode cX11_feed 69 = .ok (.iload_n 3, 1) := by decide +kernel
theorem dX11_feed_70 : decode cX11_feed 70 = .ok (.iadd, 1) := by decide +kernel
theorem dX11_feed_71 : decode cX11_feed 71 = .ok (.putfield 161, 3) := by decide +kernel
theorem dX11_feed_74 : decode cX11_feed 74 = .ok (.aload_n 0, 1) := by decide +kernel
theorem dX11_feed_75 : decode cX11_feed 75 = .ok (.getfield 161, 3) := by decide +kernel
theorem dX11_feed_78 : decode cX11_feed 78 = .ok (.ireturn, 1) := by decide +kernel
theorem dX11_rules_0 : decode cX11_rules 0 = .ok (.aload_n 0, 1) := by decide +kernel
theorem dX11_rules_1 : decode cX11_rules 1 = .ok (.getfield 22, 3) := by decide +kernel
theorem dX11_rules_4 : decode cX11_rules 4 = .ok (.aload_n 0, 1) := by decide +kernel
theorem dX11_rules_5 : decode cX11_rules 5 = .ok (.getfield 161, 3) := by decide +kernel
theorem dX11_rules_8 : decode cX11_rules 8 = .ok (.invokevirtual 164, 3) := by decide +kernel
theorem dX11_rules_11 : decode cX11_rules 11 = .ok (.istore_n 1, 1) := by decide +kernel
theorem dX11_rules_12 : decode cX11_rules 12 = .ok (.aload_n 0, 1) := by decide +kernel
theorem dX11_rules_13 : decode cX11_rules 13 = .ok (.iconst 0, 1) := by decide +kernel
theorem dX11_rules_14 : decode cX11_rules 14 = .ok (.putfield 161, 3) := by decide +kernel
theorem dX11_rules_17 : decode cX11_rules 17 = .ok (.iload_n 1, 1) := by decide +kernel
theorem dX11_rules_18 : decode cX11_rules 18 = .ok (.ifCond .lt 8, 3) := by decide +kernel
theorem dX11_rules_21 : decode cX11_rules 21 = .ok (.bipush (-100), 2) := by decide +kernel
theorem dX11_rules_23 : decode cX11_rules 23 = .ok (.iload_n 1, 1) := by decide +kernel
theorem dX11_rules_24 : decode cX11_rules 24 = .ok (.isub, 1) := by decide +kernel
theorem dX11_rules_25 : decode cX11_rules 25 = .ok (.ireturn, 1) := by decide +kernel
theorem dX11_rules_26 : decode cX11_rules 26 = .ok (.aload_n 0, 1) := by decide +kernel
theorem dX11_rules_27 : decode cX11_rules 27 = .ok (.getfield 18, 3) := by decide +kernel
theorem dX11_rules_30 : decode cX11_rules 30 = .ok (.aload_n 0, 1) := by decide +kernel
theorem dX11_rules_31 : decode cX11_rules 31 = .ok (.getfield 22, 3) := by decide +kernel
theorem dX11_rules_34 : decode cX11_rules 34 = .ok (.invokevirtual 167, 3) := by decide +kernel
theorem dX11_rules_37 : decode cX11_rules 37 = .ok (.aload_n 0, 1) := by decide +kernel
theorem dX11_rules_38 : decode cX11_rules 38 = .ok (.getfield 18, 3) := by decide +kernel
theorem dX11_rules_41 : decode cX11_rules 41 = .ok (.getfield 171, 3) := by decide +kernel
theorem dX11_rules_44 : decode cX11_rules 44 = .ok (.ireturn, 1) := by decide +kernel
theorem dX11_minute_0 : decode cX11_minute 0 = .ok (.aload_n 0, 1) := by decide +kernel
theorem dX11_minute_1 : decode cX11_minute 1 = .ok (.getfield 66, 3) := by decide +kernel
theorem dX11_minute_4 : decode cX11_minute 4 = .ok (.invokevirtual 153, 3) := by decide +kernel
theorem dX11_minute_7 : decode cX11_minute 7 = .ok (.ifCond .eq 8, 3) := by decide +kernel
theorem dX11_minute_10 : decode cX11_minute 10 = .ok (.bipush (-4), 2) := by decide +kernel
theorem dX11_minute_12 : decode cX11_minute 12 = .ok (.goto 17, 3) := by decide +kernel
theorem dX11_minute_15 : decode cX11_minute 15 = .ok (.aload_n 0, 1) := by decide +kernel
theorem dX11_minute_16 : decode cX11_minute 16 = .ok (.getfield 66, 3) := by decide +kernel
theorem dX11_minute_19 : decode cX11_minute 19 = .ok (.aload_n 0, 1) := by decide +kernel
theorem dX11_minute_20 : decode cX11_minute 20 = .ok (.getfield 66, 3) := by decide +kernel
theorem dX11_minute_23 : decode cX11_minute 23 = .ok (.invokevirtual 174, 3) := by decide +kernel
theorem dX11_minute_26 : decode cX11_minute 26 = .ok (.invokevirtual 177, 3) := by decide +kernel
theorem dX11_minute_29 : decode cX11_minute 29 = .ok (.ireturn, 1) := by decide +kernel
theorem dX11_on_0 : decode cX11_on 0 = .ok (.iload_n 1, 1) := by decide +kernel
theorem dX11_on_1 : decode cX11_on 1 = .ok (.ifCond .lt 9, 3) := by decide +kernel
theorem dX11_on_4 : decode cX11_on 4 = .ok (.iload_n 1, 1) := by decide +kernel
theorem dX11_on_5 : decode cX11_on 5 = .ok (.bipush 16, 2) := by decide +kernel
theorem dX11_on_7 : decode cX11_on 7 = .ok (.if_icmp .le 5, 3) := by decide +kernel
theorem dX11_on_10 : decode cX11_on 10 = .ok (.iconst (-1), 1) := by decide +kernel
theorem dX11_on_11 : decode cX11_on 11 = .ok (.ireturn, 1) := by decide +kernel
theorem dX11_on_12 : decode cX11_on 12 = .ok (.aload_n 0, 1) := by decide +kernel
theorem dX11_on_13 : decode cX11_on 13 = .ok (.getfield 73, 3) := by decide +kernel
theorem dX11_on_16 : decode cX11_on 16 = .ok (.aload_n 0, 1) := by decide +kernel
theorem dX11_on_17 : decode cX11_on 17 = .ok (.getfield 66, 3) := by decide +kernel
theorem dX11_on_20 : decode cX11_on 20 = .ok (.invokevirtual 180, 3) := by decide +kernel
theorem dX11_on_23 : decode cX11_on 23 = .ok (.aload_n 0, 1) := by decide +kernel
theorem dX11_on_24 : decode cX11_on 24 = .ok (.getfield 73, 3) := by decide +kernel
theorem dX11_on_27 : decode cX11_on 27 = .ok (.iload_n 1, 1) := by decide +kernel
theorem dX11_on_28 : decode cX11_on 28 = .ok (.invokevirtual 183, 3) := by decide +kernel
theorem dX11_on_31 : decode cX11_on 31 = .ok (.ireturn, 1) := by decide +kernel
theorem dX11_when_0 : decode cX11_when 0 = .ok (.aload_n 0, 1) := by decide +kernel
theorem dX11_when_1 : decode cX11_when 1 = .ok (.getfield 66, 3) := by decide +kernel
theorem dX11_when_4 : decode cX11_when 4 = .ok (.iload_n 1, 1) := by decide +kernel
theorem dX11_when_5 : decode cX11_when 5 = .ok (.invokevirtual 104, 3) := by decide +kernel
theorem dX11_when_8 : decode cX11_when 8 = .ok (.ifCond .ne 5, 3) := by decide +kernel
theorem dX11_when_11 : decode cX11_when 11 = .ok (.iconst (-1), 1) := by decide +kernel
theorem dX11_when_12 : decode cX11_when 12 = .ok (.ireturn, 1) := by decide +kernel
theorem dX11_when_13 : decode cX11_when 13 = .ok (.aload_n 0, 1) := by decide +kernel
theorem dX11_when_14 : decode cX11_when 14 = .ok (.getfield 73, 3) := by decide +kernel
theorem dX11_when_17 : decode cX11_when 17 = .ok (.aload_n 0, 1) := by decide +kernel
theorem dX11_when_18 : decode cX11_when 18 = .ok (.getfield 66, 3) := by decide +kernel
theorem dX11_when_21 : decode cX11_when 21 = .ok (.invokevirtual 180, 3) := by decide +kernel
theorem dX11_when_24 : decode cX11_when 24 = .ok (.aload_n 0, 1) := by decide +kernel
theorem dX11_when_25 : decode cX11_when 25 = .ok (.getfield 66, 3) := by decide +kernel
theorem dX11_when_28 : decode cX11_when 28 = .ok (.getfield 111, 3) := by decide +kernel
theorem dX11_when_31 : decode cX11_when 31 = .ok (.istore_n 2, 1) := by decide +kernel
theorem dX11_when_32 : decode cX11_when 32 = .ok (.iload_n 2, 1) := by decide +kernel
theorem dX11_when_33 : decode cX11_when 33 = .ok (.aload_n 0, 1) := by decide +kernel
theorem dX11_when_34 : decode cX11_when 34 = .ok (.getfield 66, 3) := by decide +kernel
theorem dX11_when_37 : decode cX11_when 37 = .ok (.getfield 144, 3) := by decide +kernel
theorem dX11_when_40 : decode cX11_when 40 = .ok (.if_icmp .ge 37, 3) := by decide +kernel
theorem dX11_when_43 : decode cX11_when 43 = .ok (.aload_n 0, 1) := by decide +kernel
theorem dX11_when_44 : decode cX11_when 44 = .ok (.getfield 73, 3) := by decide +kernel
theorem dX11_when_47 : decode cX11_when 47 = .ok (.aload_n 0, 1) := by decide +kernel
theorem dX11_when_48 : decode cX11_when 48 = .ok (.getfield 73, 3) := by decide +kernel
theorem dX11_when_51 : decode cX11_when 51 = .ok (.invokevirtual 174, 3) := by decide +kernel
theorem dX11_when_54 : decode cX11_when 54 = .ok (.invokevirtual 177, 3) := by decide +kernel
theorem dX11_when_57 : decode cX11_when 57 = .ok (.pop, 1) := by decide +kernel
theorem dX11_when_58 : decode cX11_when 58 = .ok (.aload_n 0, 1) := by decide +kernel
theorem dX11_when_59 : decode cX11_when 59 = .ok (.getfield 73, 3) := by decide +kernel
theorem dX11_when_62 : decode cX11_when 62 = .ok (.getfield 186, 3) := by decide +kernel
theorem dX11_when_65 : decode cX11_when 65 = .ok (.iload_n 1, 1) := by decide +kernel
theorem dX11_when_66 : decode cX11_when 66 = .ok (.if_icmp .ne 5, 3) := by decide +kernel
theorem dX11_when_69 : decode cX11_when 69 = .ok (.iload_n 2, 1) := by decide +kernel
theorem dX11_when_70 : decode cX11_when 70 = .ok (.ireturn, 1) := by decide +kernel
theorem dX11_when_71 : decode cX11_when 71 = .ok (.iinc 2 1, 3) := by decide +kernel
theorem dX11_when_74 : decode cX11_when 74 = .ok (.goto (-42), 3) := by decide +kernel
theorem dX11_when_77 : decode cX11_when 77 = .ok (.bipush (-3), 2) := by decide +kernel
theorem dX11_when_79 : decode cX11_when 79 = .ok (.ireturn, 1) := by decide +kernel
theorem dX11_weightFor_0 : decode cX11_weightFor 0 = .ok (.aload_n 0, 1) := by decide +kernel
theorem dX11_weightFor_1 : decode cX11_weightFor 1 = .ok (.getfield 66, 3) := by decide +kernel
theorem dX11_weightFor_4 : decode cX11_weightFor 4 = .ok (.iload_n 1, 1) := by decide +kernel
theorem dX11_weightFor_5 : decode cX11_weightFor 5 = .ok (.invokevirtual 104, 3) := by decide +kernel
theorem dX11_weightFor_8 : decode cX11_weightFor 8 = .ok (.ifCond .eq 12, 3) := by decide +kernel
theorem dX11_weightFor_11 : decode cX11_weightFor 11 = .ok (.aload_n 0, 1) := by decide +kernel
theorem dX11_weightFor_12 : decode cX11_weightFor 12 = .ok (.iload_n 1, 1) := by decide +kernel
theorem dX11_weightFor_13 : decode cX11_weightFor 13 = .ok (.iconst 2, 1) := by decide +kernel
theorem dX11_weightFor_14 : decode cX11_weightFor 14 = .ok (.invokevirtual 189, 3) := by decide +kernel
theorem dX11_weightFor_17 : decode cX11_weightFor 17 = .ok (.goto 4, 3) := by decide +kernel
theorem dX11_weightFor_20 : decode cX11_weightFor 20 = .ok (.iconst (-1), 1) := by decide +kernel
theorem dX11_weightFor_21 : decode cX11_weightFor 21 = .ok (.ireturn, 1) := by decide +kernel
theorem dX11_machineFor_0 : decode cX11_machineFor 0 = .ok (.aload_n 0, 1) := by decide +kernel
theorem dX11_machineFor_1 : decode cX11_machineFor 1 = .ok (.getfield 66, 3) := by decide +kernel
theorem dX11_machineFor_4 : decode cX11_machineFor 4 = .ok (.iload_n 1, 1) := by decide +kernel
theorem dX11_machineFor_5 : decode cX11_machineFor 5 = .ok (.invokevirtual 104, 3) := by decide +kernel
theorem dX11_machineFor_8 : decode cX11_machineFor 8 = .ok (.ifCond .eq 12, 3) := by decide +kernel
theorem dX11_machineFor_11 : decode cX11_machineFor 11 = .ok (.aload_n 0, 1) := by decide +kernel
theorem dX11_machineFor_12 : decode cX11_machineFor 12 = .ok (.iload_n 1, 1) := by decide +kernel
theorem dX11_machineFor_13 : decode cX11_machineFor 13 = .ok (.iconst 1, 1) := by decide +kernel
theorem dX11_machineFor_14 : decode cX11_machineFor 14 = .ok (.invokevirtual 189, 3) := by decide +kernel
theorem dX11_machineFor_17 : decode cX11_machineFor 17 = .ok (.goto 4, 3) := by decide +kernel
theorem dX11_machineFor_20 : decode cX11_machineFor 20 = .ok (.iconst (-1), 1) := by decide +kernel
theorem dX11_machineFor_21 : decode cX11_machineFor 21 = .ok (.ireturn, 1) := by decide +kernel
theorem dX11_gather_0 : decode cX11_gather 0 = .ok (.aload_n 0, 1) := by decide +kernel
theorem dX11_gather_1 : decode cX11_gather 1 = .ok (.getfield 66, 3) := by decide +kernel
theorem dX11_gather_4 : decode cX11_gather 4 = .ok (.iload_n 1, 1) := by decide +kernel
theorem dX11_gather_5 : decode cX11_gather 5 = .ok (.invokevirtual 193, 3) := by decide +kernel
theorem dX11_gather_8 : decode cX11_gather 8 = .ok (.ifCond .eq 14, 3) := by decide +kernel
theorem dX11_gather_11 : decode cX11_gather 11 = .ok (.aload_n 0, 1) := by decide +kernel
theorem dX11_gather_12 : decode cX11_gather 12 = .ok (.getfield 66, 3) := by decide +kernel
theorem dX11_gather_15 : decode cX11_gather 15 = .ok (.iload_n 1, 1) := by decide +kernel
theorem dX11_gather_16 : decode cX11_gather 16 = .ok (.invokevirtual 196, 3) := by decide +kernel
theorem dX11_gather_19 : decode cX11_gather 19 = .ok (.goto 4, 3) := by decide +kernel
theorem dX11_gather_22 : decode cX11_gather 22 = .ok (.iconst (-1), 1) := by decide +kernel
theorem dX11_gather_23 : decode cX11_gather 23 = .ok (.ireturn, 1) := by decide +kernel
theorem dX11_gathered_0 : decode cX11_gathered 0 = .ok (.aload_n 0, 1) := by decide +kernel
theorem dX11_gathered_1 : decode cX11_gathered 1 = .ok (.getfield 66, 3) := by decide +kernel
theorem dX11_gathered_4 : decode cX11_gathered 4 = .ok (.iload_n 1, 1) := by decide +kernel
theorem dX11_gathered_5 : decode cX11_gathered 5 = .ok (.invokevirtual 193, 3) := by decide +kernel
theorem dX11_gathered_8 : decode cX11_gathered 8 = .ok (.ifCond .eq 14, 3) := by decide +kernel
theorem dX11_gathered_11 : decode cX11_gathered 11 = .ok (.aload_n 0, 1) := by decide +kernel
theorem dX11_gathered_12 : decode cX11_gathered 12 = .ok (.getfield 66, 3) := by decide +kernel
theorem dX11_gathered_15 : decode cX11_gathered 15 = .ok (.iload_n 2, 1) := by decide +kernel
theorem dX11_gathered_16 : decode cX11_gathered 16 = .ok (.invokevirtual 104, 3) := by decide +kernel
theorem dX11_gathered_19 : decode cX11_gathered 19 = .ok (.ifCond .ne 5, 3) := by decide +kernel
theorem dX11_gathered_22 : decode cX11_gathered 22 = .ok (.iconst (-1), 1) := by decide +kernel
theorem dX11_gathered_23 : decode cX11_gathered 23 = .ok (.ireturn, 1) := by decide +kernel
theorem dX11_gathered_24 : decode cX11_gathered 24 = .ok (.aload_n 0, 1) := by decide +kernel
theorem dX11_gathered_25 : decode cX11_gathered 25 = .ok (.getfield 66, 3) := by decide +kernel
theorem dX11_gathered_28 : decode cX11_gathered 28 = .ok (.iload_n 1, 1) := by decide +kernel
theorem dX11_gathered_29 : decode cX11_gathered 29 = .ok (.invokevirtual 196, 3) := by decide +kernel
theorem dX11_gathered_32 : decode cX11_gathered 32 = .ok (.istore_n 3, 1) := by decide +kernel
theorem dX11_gathered_33 : decode cX11_gathered 33 = .ok (.iload_n 3, 1) := by decide +kernel
theorem dX11_gathered_34 : decode cX11_gathered 34 = .ok (.ifCond .lt 11, 3) := by decide +kernel
theorem dX11_gathered_37 : decode cX11_gathered 37 = .ok (.iload_n 1, 1) := by decide +kernel
theorem dX11_gathered_38 : decode cX11_gathered 38 = .ok (.iload_n 2, 1) := by decide +kernel
theorem dX11_gathered_39 : decode cX11_gathered 39 = .ok (.ishr, 1) := by decide +kernel
theorem dX11_gathered_40 : decode cX11_gathered 40 = .ok (.iconst 1, 1) := by decide +kernel
theorem dX11_gathered_41 : decode cX11_gathered 41 = .ok (.iand, 1) := by decide +kernel
theorem dX11_gathered_42 : decode cX11_gathered 42 = .ok (.ifCond .ne 6, 3) := by decide +kernel
theorem dX11_gathered_45 : decode cX11_gathered 45 = .ok (.bipush (-3), 2) := by decide +kernel
theorem dX11_gathered_47 : decode cX11_gathered 47 = .ok (.ireturn, 1) := by decide +kernel
theorem dX11_gathered_48 : decode cX11_gathered 48 = .ok (.aload_n 0, 1) := by decide +kernel
theorem dX11_gathered_49 : decode cX11_gathered 49 = .ok (.getfield 66, 3) := by decide +kernel
theorem dX11_gathered_52 : decode cX11_gathered 52 = .ok (.iload_n 1, 1) := by decide +kernel
theorem dX11_gathered_53 : decode cX11_gathered 53 = .ok (.iload_n 3, 1) := by decide +kernel
theorem dX11_gathered_54 : decode cX11_gathered 54 = .ok (.iload_n 2, 1) := by decide +kernel
theorem dX11_gathered_55 : decode cX11_gathered 55 = .ok (.invokevirtual 199, 3) := by decide +kernel
theorem dX11_gathered_58 : decode cX11_gathered 58 = .ok (.ireturn, 1) := by decide +kernel
theorem dX11_free_0 : decode cX11_free 0 = .ok (.iload_n 1, 1) := by decide +kernel
theorem dX11_free_1 : decode cX11_free 1 = .ok (.ifCond .lt 20, 3) := by decide +kernel
theorem dX11_free_4 : decode cX11_free 4 = .ok (.iload_n 1, 1) := by decide +kernel
theorem dX11_free_5 : decode cX11_free 5 = .ok (.bipush 6, 2) := by decide +kernel
theorem dX11_free_7 : decode cX11_free 7 = .ok (.if_icmp .ge 14, 3) := by decide +kernel
theorem dX11_free_10 : decode cX11_free 10 = .ok (.iload_n 2, 1) := by decide +kernel
theorem dX11_free_11 : decode cX11_free 11 = .ok (.iconst 1, 1) := by decide +kernel
theorem dX11_free_12 : decode cX11_free 12 = .ok (.if_icmp .lt 9, 3) := by decide +kernel
theorem dX11_free_15 : decode cX11_free 15 = .ok (.iload_n 2, 1) := by decide +kernel
theorem dX11_free_16 : decode cX11_free 16 = .ok (.bipush 16, 2) := by decide +kernel
theorem dX11_free_18 : decode cX11_free 18 = .ok (.if_icmp .le 5, 3) := by decide +kernel
theorem dX11_free_21 : decode cX11_free 21 = .ok (.iconst (-1), 1) := by decide +kernel
theorem dX11_free_22 : decode cX11_free 22 = .ok (.ireturn, 1) := by decide +kernel
theorem dX11_free_23 : decode cX11_free 23 = .ok (.iconst 1, 1) := by decide +kernel
theorem dX11_free_24 : decode cX11_free 24 = .ok (.iload_n 2, 1) := by decide +kernel
theorem dX11_free_25 : decode cX11_free 25 = .ok (.ishl, 1) := by decide +kernel
theorem dX11_free_26 : decode cX11_free 26 = .ok (.iconst 1, 1) := by decide +kernel
theorem dX11_free_27 : decode cX11_free 27 = .ok (.isub, 1) := by decide +kernel
theorem dX11_free_28 : decode cX11_free 28 = .ok (.istore_n 3, 1) := by decide +kernel
theorem dX11_free_29 : decode cX11_free 29 = .ok (.aload_n 0, 1) := by decide +kernel
theorem dX11_free_30 : decode cX11_free 30 = .ok (.getfield 66, 3) := by decide +kernel
theorem dX11_free_33 : decode cX11_free 33 = .ok (.getfield 111, 3) := by decide +kernel
theorem dX11_free_36 : decode cX11_free 36 = .ok (.istore 4, 2) := by decide +kernel
theorem dX11_free_38 : decode cX11_free 38 = .ok (.iload 4, 2) := by decide +kernel
theorem dX11_free_40 : decode cX11_free 40 = .ok (.iload_n 2, 1) := by decide +kernel
theorem dX11_free_41 : decode cX11_free 41 = .ok (.iadd, 1) := by decide +kernel
theorem dX11_free_42 : decode cX11_free 42 = .ok (.bipush 16, 2) := by decide +kernel
theorem dX11_free_44 : decode cX11_free 44 = .ok (.if_icmp .gt 31, 3) := by decide +kernel
theorem dX11_free_47 : decode cX11_free 47 = .ok (.aload_n 0, 1) := by decide +kernel
theorem dX11_free_48 : decode cX11_free 48 = .ok (.getfield 66, 3) := by decide +kernel
theorem dX11_free_51 : decode cX11_free 51 = .ok (.getfield 138, 3) := by decide +kernel
theorem dX11_free_54 : decode cX11_free 54 = .ok (.iconst 1, 1) := by decide +kernel
theorem dX11_free_55 : decode cX11_free 55 = .ok (.aaload, 1) := by decide +kernel
theorem dX11_free_56 : decode cX11_free 56 = .ok (.iload_n 1, 1) := by decide +kernel
theorem dX11_free_57 : decode cX11_free 57 = .ok (.iaload, 1) := by decide +kernel
theorem dX11_free_58 : decode cX11_free 58 = .ok (.iload 4, 2) := by decide +kernel
theorem dX11_free_60 : decode cX11_free 60 = .ok (.ishr, 1) := by decide +kernel
theorem dX11_free_61 : decode cX11_free 61 = .ok (.iload_n 3, 1) := by decide +kernel
theorem dX11_free_62 : decode cX11_free 62 = .ok (.iand, 1) := by decide +kernel
theorem dX11_free_63 : decode cX11_free 63 = .ok (.ifCond .ne 6, 3) := by decide +kernel
theorem dX11_free_66 : decode cX11_free 66 = .ok (.iload 4, 2) := by decide +kernel
theorem dX11_free_68 : decode cX11_free 68 = .ok (.ireturn, 1) := by decide +kernel
theorem dX11_free_69 : decode cX11_free 69 = .ok (.iinc 4 1, 3) := by decide +kernel
theorem dX11_free_72 : decode cX11_free 72 = .ok (.goto (-34), 3) := by decide +kernel
theorem dX11_free_75 : decode cX11_free 75 = .ok (.bipush (-3), 2) := by decide +kernel
theorem dX11_free_77 : decode cX11_free 77 = .ok (.ireturn, 1) := by decide +kernel
theorem dX11_busiest_0 : decode cX11_busiest 0 = .ok (.iload_n 1, 1) := by decide +kernel
theorem dX11_busiest_1 : decode cX11_busiest 1 = .ok (.ifCond .lt 8, 3) := by decide +kernel
theorem dX11_busiest_4 : decode cX11_busiest 4 = .ok (.iload_n 1, 1) := by decide +kernel
theorem dX11_busiest_5 : decode cX11_busiest 5 = .ok (.iconst 1, 1) := by decide +kernel
theorem dX11_busiest_6 : decode cX11_busiest 6 = .ok (.if_icmp .le 5, 3) := by decide +kernel
theorem dX11_busiest_9 : decode cX11_busiest 9 = .ok (.iconst (-1), 1) := by decide +kernel
theorem dX11_busiest_10 : decode cX11_busiest 10 = .ok (.ireturn, 1) := by decide +kernel
theorem dX11_busiest_11 : decode cX11_busiest 11 = .ok (.iconst 0, 1) := by decide +kernel
theorem dX11_busiest_12 : decode cX11_busiest 12 = .ok (.istore_n 2, 1) := by decide +kernel
theorem dX11_busiest_13 : decode cX11_busiest 13 = .ok (.iconst 1, 1) := by decide +kernel
theorem dX11_busiest_14 : decode cX11_busiest 14 = .ok (.istore_n 3, 1) := by decide +kernel
theorem dX11_busiest_15 : decode cX11_busiest 15 = .ok (.iload_n 3, 1) := by decide +kernel
theorem dX11_busiest_16 : decode cX11_busiest 16 = .ok (.bipush 16, 2) := by decide +kernel
theorem dX11_busiest_18 : decode cX11_busiest 18 = .ok (.if_icmp .ge 30, 3) := by decide +kernel
theorem dX11_busiest_21 : decode cX11_busiest 21 = .ok (.aload_n 0, 1) := by decide +kernel
theorem dX11_busiest_22 : decode cX11_busiest 22 = .ok (.getfield 66, 3) := by decide +kernel
theorem dX11_busiest_25 : decode cX11_busiest 25 = .ok (.iload_n 3, 1) := by decide +kernel
theorem dX11_busiest_26 : decode cX11_busiest 26 = .ok (.invokevirtual 202, 3) := by decide +kernel
theorem dX11_busiest_29 : decode cX11_busiest 29 = .ok (.aload_n 0, 1) := by decide +kernel
theorem dX11_busiest_30 : decode cX11_busiest 30 = .ok (.getfield 66, 3) := by decide +kernel
theorem dX11_busiest_33 : decode cX11_busiest 33 = .ok (.iload_n 2, 1) := by decide +kernel
theorem dX11_busiest_34 : decode cX11_busiest 34 = .ok (.invokevirtual 202, 3) := by decide +kernel
theorem dX11_busiest_37 : decode cX11_busiest 37 = .ok (.if_icmp .le 5, 3) := by decide +kernel
theorem dX11_busiest_40 : decode cX11_busiest 40 = .ok (.iload_n 3, 1) := by decide +kernel
theorem dX11_busiest_41 : decode cX11_busiest 41 = .ok (.istore_n 2, 1) := by decide +kernel
theorem dX11_busiest_42 : decode cX11_busiest 42 = .ok (.iinc 3 1, 3) := by decide +kernel
theorem dX11_busiest_45 : decode cX11_busiest 45 = .ok (.goto (-30), 3) := by decide +kernel
theorem dX11_busiest_48 : decode cX11_busiest 48 = .ok (.iload_n 1, 1) := by decide +kernel
theorem dX11_busiest_49 : decode cX11_busiest 49 = .ok (.ifCond .ne 7, 3) := by decide +kernel
theorem dX11_busiest_52 : decode cX11_busiest 52 = .ok (.iload_n 2, 1) := by decide +kernel
theorem dX11_busiest_53 : decode cX11_busiest 53 = .ok (.goto 11, 3) := by decide +kernel
theorem dX11_busiest_56 : decode cX11_busiest 56 = .ok (.aload_n 0, 1) := by decide +kernel
theorem dX11_busiest_57 : decode cX11_busiest 57 = .ok (.getfield 66, 3) := by decide +kernel
theorem dX11_busiest_60 : decode cX11_busiest 60 = .ok (.iload_n 2, 1) := by decide +kernel
theorem dX11_busiest_61 : decode cX11_busiest 61 = .ok (.invokevirtual 202, 3) := by decide +kernel
theorem dX11_busiest_64 : decode cX11_busiest 64 = .ok (.ireturn, 1) := by decide +kernel
theorem dX11_best_0 : decode cX11_best 0 = .ok (.iload_n 1, 1) := by decide +kernel
theorem dX11_best_1 : decode cX11_best 1 = .ok (.ifCond .lt 8, 3) := by decide +kernel
theorem dX11_best_4 : decode cX11_best 4 = .ok (.iload_n 1, 1) := by decide +kernel
theorem dX11_best_5 : decode cX11_best 5 = .ok (.iconst 4, 1) := by decide +kernel
theorem dX11_best_6 : decode cX11_best 6 = .ok (.if_icmp .le 5, 3) := by decide +kernel
theorem dX11_best_9 : decode cX11_best 9 = .ok (.iconst (-1), 1) := by decide +kernel
theorem dX11_best_10 : decode cX11_best 10 = .ok (.ireturn, 1) := by decide +kernel
theorem dX11_best_11 : decode cX11_best 11 = .ok (.aload_n 0, 1) := by decide +kernel
theorem dX11_best_12 : decode cX11_best 12 = .ok (.getfield 79, 3) := by decide +kernel
