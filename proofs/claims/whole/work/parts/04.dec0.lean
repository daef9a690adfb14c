-- decode rows, by program
theorem dX0_init_0 : decode cX0_init 0 = .ok (.aload_n 0, 1) := by decide +kernel
theorem dX0_init_1 : decode cX0_init 1 = .ok (.invokespecial 1, 3) := by decide +kernel
theorem dX0_init_4 : decode cX0_init 4 = .ok (.return_, 1) := by decide +kernel
theorem dX0_may_0 : decode cX0_may 0 = .ok (.iload_n 2, 1) := by decide +kernel
theorem dX0_may_1 : decode cX0_may 1 = .ok (.ifCond .eq 16, 3) := by decide +kernel
theorem dX0_may_4 : decode cX0_may 4 = .ok (.aload_n 0, 1) := by decide +kernel
theorem dX0_may_5 : decode cX0_may 5 = .ok (.iload_n 1, 1) := by decide +kernel
theorem dX0_may_6 : decode cX0_may 6 = .ok (.iload_n 2, 1) := by decide +kernel
theorem dX0_may_7 : decode cX0_may 7 = .ok (.invokespecial 7, 3) := by decide +kernel
theorem dX0_may_10 : decode cX0_may 10 = .ok (.ifCond .eq 7, 3) := by decide +kernel
theorem dX0_may_13 : decode cX0_may 13 = .ok (.iconst 1, 1) := by decide +kernel
theorem dX0_may_14 : decode cX0_may 14 = .ok (.goto 4, 3) := by decide +kernel
theorem dX0_may_17 : decode cX0_may 17 = .ok (.iconst 0, 1) := by decide +kernel
theorem dX0_may_18 : decode cX0_may 18 = .ok (.ireturn, 1) := by decide +kernel
theorem dX0_gains_0 : decode cX0_gains 0 = .ok (.aload_n 0, 1) := by decide +kernel
theorem dX0_gains_1 : decode cX0_gains 1 = .ok (.iload_n 1, 1) := by decide +kernel
theorem dX0_gains_2 : decode cX0_gains 2 = .ok (.iload_n 2, 1) := by decide +kernel
theorem dX0_gains_3 : decode cX0_gains 3 = .ok (.invokespecial 11, 3) := by decide +kernel
theorem dX0_gains_6 : decode cX0_gains 6 = .ok (.iconst 2, 1) := by decide +kernel
theorem dX0_gains_7 : decode cX0_gains 7 = .ok (.iadd, 1) := by decide +kernel
theorem dX0_gains_8 : decode cX0_gains 8 = .ok (.ireturn, 1) := by decide +kernel
theorem dX0_tires_0 : decode cX0_tires 0 = .ok (.iconst 3, 1) := by decide +kernel
theorem dX0_tires_1 : decode cX0_tires 1 = .ok (.ireturn, 1) := by decide +kernel
theorem dX0_lifts_0 : decode cX0_lifts 0 = .ok (.aload_n 1, 1) := by decide +kernel
theorem dX0_lifts_1 : decode cX0_lifts 1 = .ok (.bipush 20, 2) := by decide +kernel
theorem dX0_lifts_3 : decode cX0_lifts 3 = .ok (.invokevirtual 15, 3) := by decide +kernel
theorem dX0_lifts_6 : decode cX0_lifts 6 = .ok (.ifCond .eq 14, 3) := by decide +kernel
theorem dX0_lifts_9 : decode cX0_lifts 9 = .ok (.iconst 0, 1) := by decide +kernel
theorem dX0_lifts_10 : decode cX0_lifts 10 = .ok (.aload_n 0, 1) := by decide +kernel
theorem dX0_lifts_11 : decode cX0_lifts 11 = .ok (.aload_n 1, 1) := by decide +kernel
theorem dX0_lifts_12 : decode cX0_lifts 12 = .ok (.iload_n 2, 1) := by decide +kernel
theorem dX0_lifts_13 : decode cX0_lifts 13 = .ok (.invokespecial 21, 3) := by decide +kernel
theorem dX0_lifts_16 : decode cX0_lifts 16 = .ok (.isub, 1) := by decide +kernel
theorem dX0_lifts_17 : decode cX0_lifts 17 = .ok (.goto 4, 3) := by decide +kernel
theorem dX0_lifts_20 : decode cX0_lifts 20 = .ok (.iconst 0, 1) := by decide +kernel
theorem dX0_lifts_21 : decode cX0_lifts 21 = .ok (.ireturn, 1) := by decide +kernel
theorem dX1_init_0 : decode cX1_init 0 = .ok (.aload_n 0, 1) := by decide +kernel
theorem dX1_init_1 : decode cX1_init 1 = .ok (.invokespecial 3, 3) := by decide +kernel
theorem dX1_init_4 : decode cX1_init 4 = .ok (.aload_n 0, 1) := by decide +kernel
theorem dX1_init_5 : decode cX1_init 5 = .ok (.iconst 5, 1) := by decide +kernel
theorem dX1_init_6 : decode cX1_init 6 = .ok (.bipush 6, 2) := by decide +kernel
theorem dX1_init_8 : decode cX1_init 8 = .ok (.multianewarray 9 2, 4) := by decide +kernel
theorem dX1_init_12 : decode cX1_init 12 = .ok (.putfield 11, 3) := by decide +kernel
theorem dX1_init_15 : decode cX1_init 15 = .ok (.aload_n 0, 1) := by decide +kernel
theorem dX1_init_16 : decode cX1_init 16 = .ok (.iconst 2, 1) := by decide +kernel
theorem dX1_init_17 : decode cX1_init 17 = .ok (.bipush 6, 2) := by decide +kernel
theorem dX1_init_19 : decode cX1_init 19 = .ok (.multianewarray 9 2, 4) := by decide +kernel
theorem dX1_init_23 : decode cX1_init 23 = .ok (.putfield 16, 3) := by decide +kernel
theorem dX1_init_26 : decode cX1_init 26 = .ok (.aload_n 0, 1) := by decide +kernel
theorem dX1_init_27 : decode cX1_init 27 = .ok (.iconst 3, 1) := by decide +kernel
theorem dX1_init_28 : decode cX1_init 28 = .ok (.newarray .int, 2) := by decide +kernel
theorem dX1_init_30 : decode cX1_init 30 = .ok (.putfield 19, 3) := by decide +kernel
theorem dX1_init_33 : decode cX1_init 33 = .ok (.aload_n 0, 1) := by decide +kernel
theorem dX1_init_34 : decode cX1_init 34 = .ok (.bipush 12, 2) := by decide +kernel
theorem dX1_init_36 : decode cX1_init 36 = .ok (.putfield 23, 3) := by decide +kernel
theorem dX1_init_39 : decode cX1_init 39 = .ok (.aload_n 0, 1) := by decide +kernel
theorem dX1_init_40 : decode cX1_init 40 = .ok (.iconst 1, 1) := by decide +kernel
theorem dX1_init_41 : decode cX1_init 41 = .ok (.putfield 27, 3) := by decide +kernel
theorem dX1_init_44 : decode cX1_init 44 = .ok (.aload_n 0, 1) := by decide +kernel
theorem dX1_init_45 : decode cX1_init 45 = .ok (.bipush (-3), 2) := by decide +kernel
theorem dX1_init_47 : decode cX1_init 47 = .ok (.putfield 30, 3) := by decide +kernel
theorem dX1_init_50 : decode cX1_init 50 = .ok (.aload_n 0, 1) := by decide +kernel
theorem dX1_init_51 : decode cX1_init 51 = .ok (.iconst 5, 1) := by decide +kernel
theorem dX1_init_52 : decode cX1_init 52 = .ok (.newarray .int, 2) := by decide +kernel
theorem dX1_init_54 : decode cX1_init 54 = .ok (.putfield 33, 3) := by decide +kernel
theorem dX1_init_57 : decode cX1_init 57 = .ok (.aload_n 0, 1) := by decide +kernel
theorem dX1_init_58 : decode cX1_init 58 = .ok (.bipush 6, 2) := by decide +kernel
theorem dX1_init_60 : decode cX1_init 60 = .ok (.newarray .int, 2) := by decide +kernel
theorem dX1_init_62 : decode cX1_init 62 = .ok (.putfield 36, 3) := by decide +kernel
theorem dX1_init_65 : decode cX1_init 65 = .ok (.aload_n 0, 1) := by decide +kernel
theorem dX1_init_66 : decode cX1_init 66 = .ok (.aload_n 1, 1) := by decide +kernel
theorem dX1_init_67 : decode cX1_init 67 = .ok (.putfield 39, 3) := by decide +kernel
theorem dX1_init_70 : decode cX1_init 70 = .ok (.aload_n 0, 1) := by decide +kernel
theorem dX1_init_71 : decode cX1_init 71 = .ok (.aload_n 2, 1) := by decide +kernel
theorem dX1_init_72 : decode cX1_init 72 = .ok (.putfield 43, 3) := by decide +kernel
theorem dX1_init_75 : decode cX1_init 75 = .ok (.return_, 1) := by decide +kernel
theorem dX1_copy_0 : decode cX1_copy 0 = .ok (.iconst 0, 1) := by decide +kernel
theorem dX1_copy_1 : decode cX1_copy 1 = .ok (.istore_n 2, 1) := by decide +kernel
theorem dX1_copy_2 : decode cX1_copy 2 = .ok (.iload_n 2, 1) := by decide +kernel
theorem dX1_copy_3 : decode cX1_copy 3 = .ok (.iconst 4, 1) := by decide +kernel
theorem dX1_copy_4 : decode cX1_copy 4 = .ok (.if_icmp .ge 28, 3) := by decide +kernel
theorem dX1_copy_7 : decode cX1_copy 7 = .ok (.aload_n 1, 1) := by decide +kernel
theorem dX1_copy_8 : decode cX1_copy 8 = .ok (.getfield 11, 3) := by decide +kernel
theorem dX1_copy_11 : decode cX1_copy 11 = .ok (.iload_n 2, 1) := by decide +kernel
theorem dX1_copy_12 : decode cX1_copy 12 = .ok (.aaload, 1) := by decide +kernel
theorem dX1_copy_13 : decode cX1_copy 13 = .ok (.iconst 0, 1) := by decide +kernel
theorem dX1_copy_14 : decode cX1_copy 14 = .ok (.aload_n 0, 1) := by decide +kernel
theorem dX1_copy_15 : decode cX1_copy 15 = .ok (.getfield 11, 3) := by decide +kernel
theorem dX1_copy_18 : decode cX1_copy 18 = .ok (.iload_n 2, 1) := by decide +kernel
theorem dX1_copy_19 : decode cX1_copy 19 = .ok (.aaload, 1) := by decide +kernel
theorem dX1_copy_20 : decode cX1_copy 20 = .ok (.iconst 0, 1) := by decide +kernel
theorem dX1_copy_21 : decode cX1_copy 21 = .ok (.bipush 6, 2) := by decide +kernel
theorem dX1_copy_23 : decode cX1_copy 23 = .ok (.invokestatic 47, 3) := by decide +kernel
theorem dX1_copy_26 : decode cX1_copy 26 = .ok (.iinc 2 1, 3) := by decide +kernel
theorem dX1_copy_29 : decode cX1_copy 29 = .ok (.goto (-27), 3) := by decide +kernel
theorem dX1_copy_32 : decode cX1_copy 32 = .ok (.aload_n 0, 1) := by decide +kernel
theorem dX1_copy_33 : decode cX1_copy 33 = .ok (.aload_n 1, 1) := by decide +kernel
theorem dX1_copy_34 : decode cX1_copy 34 = .ok (.getfield 53, 3) := by decide +kernel
theorem dX1_copy_37 : decode cX1_copy 37 = .ok (.putfield 53, 3) := by decide +kernel
theorem dX1_copy_40 : decode cX1_copy 40 = .ok (.aload_n 1, 1) := by decide +kernel
theorem dX1_copy_41 : decode cX1_copy 41 = .ok (.getfield 16, 3) := by decide +kernel
theorem dX1_copy_44 : decode cX1_copy 44 = .ok (.iconst 1, 1) := by decide +kernel
theorem dX1_copy_45 : decode cX1_copy 45 = .ok (.aaload, 1) := by decide +kernel
theorem dX1_copy_46 : decode cX1_copy 46 = .ok (.iconst 0, 1) := by decide +kernel
theorem dX1_copy_47 : decode cX1_copy 47 = .ok (.aload_n 0, 1) := by decide +kernel
theorem dX1_copy_48 : decode cX1_copy 48 = .ok (.getfield 16, 3) := by decide +kernel
theorem dX1_copy_51 : decode cX1_copy 51 = .ok (.iconst 1, 1) := by decide +kernel
theorem dX1_copy_52 : decode cX1_copy 52 = .ok (.aaload, 1) := by decide +kernel
theorem dX1_copy_53 : decode cX1_copy 53 = .ok (.iconst 0, 1) := by decide +kernel
theorem dX1_copy_54 : decode cX1_copy 54 = .ok (.bipush 6, 2) := by decide +kernel
theorem dX1_copy_56 : decode cX1_copy 56 = .ok (.invokestatic 47, 3) := by decide +kernel
theorem dX1_copy_59 : decode cX1_copy 59 = .ok (.aload_n 0, 1) := by decide +kernel
theorem dX1_copy_60 : decode cX1_copy 60 = .ok (.aload_n 1, 1) := by decide +kernel
theorem dX1_copy_61 : decode cX1_copy 61 = .ok (.getfield 23, 3) := by decide +kernel
theorem dX1_copy_64 : decode cX1_copy 64 = .ok (.putfield 23, 3) := by decide +kernel
theorem dX1_copy_67 : decode cX1_copy 67 = .ok (.aload_n 0, 1) := by decide +kernel
theorem dX1_copy_68 : decode cX1_copy 68 = .ok (.aload_n 1, 1) := by decide +kernel
theorem dX1_copy_69 : decode cX1_copy 69 = .ok (.getfield 27, 3) := by decide +kernel
theorem dX1_copy_72 : decode cX1_copy 72 = .ok (.putfield 27, 3) := by decide +kernel
theorem dX1_copy_75 : decode cX1_copy 75 = .ok (.aload_n 0, 1) := by decide +kernel
theorem dX1_copy_76 : decode cX1_copy 76 = .ok (.aload_n 1, 1) := by decide +kernel
theorem dX1_copy_77 : decode cX1_copy 77 = .ok (.invokevirtual 56, 3) := by decide +kernel
theorem dX1_copy_80 : decode cX1_copy 80 = .ok (.return_, 1) := by decide +kernel
theorem dX1_follow_0 : decode cX1_follow 0 = .ok (.aload_n 1, 1) := by decide +kernel
theorem dX1_follow_1 : decode cX1_follow 1 = .ok (.getfield 11, 3) := by decide +kernel
theorem dX1_follow_4 : decode cX1_follow 4 = .ok (.iconst 4, 1) := by decide +kernel
theorem dX1_follow_5 : decode cX1_follow 5 = .ok (.aaload, 1) := by decide +kernel
theorem dX1_follow_6 : decode cX1_follow 6 = .ok (.iconst 0, 1) := by decide +kernel
theorem dX1_follow_7 : decode cX1_follow 7 = .ok (.aload_n 0, 1) := by decide +kernel
theorem dX1_follow_8 : decode cX1_follow 8 = .ok (.getfield 11, 3) := by decide +kernel
theorem dX1_follow_11 : decode cX1_follow 11 = .ok (.iconst 4, 1) := by decide +kernel
theorem dX1_follow_12 : decode cX1_follow 12 = .ok (.aaload, 1) := by decide +kernel
theorem dX1_follow_13 : decode cX1_follow 13 = .ok (.iconst 0, 1) := by decide +kernel
theorem dX1_follow_14 : decode cX1_follow 14 = .ok (.bipush 6, 2) := by decide +kernel
theorem dX1_follow_16 : decode cX1_follow 16 = .ok (.invokestatic 47, 3) := by decide +kernel
theorem dX1_follow_19 : decode cX1_follow 19 = .ok (.aload_n 1, 1) := by decide +kernel
theorem dX1_follow_20 : decode cX1_follow 20 = .ok (.getfield 16, 3) := by decide +kernel
theorem dX1_follow_23 : decode cX1_follow 23 = .ok (.iconst 0, 1) := by decide +kernel
theorem dX1_follow_24 : decode cX1_follow 24 = .ok (.aaload, 1) := by decide +kernel
theorem dX1_follow_25 : decode cX1_follow 25 = .ok (.iconst 0, 1) := by decide +kernel
theorem dX1_follow_26 : decode cX1_follow 26 = .ok (.aload_n 0, 1) := by decide +kernel
theorem dX1_follow_27 : decode cX1_follow 27 = .ok (.getfield 16, 3) := by decide +kernel
theorem dX1_follow_30 : decode cX1_follow 30 = .ok (.iconst 0, 1) := by decide +kernel
theorem dX1_follow_31 : decode cX1_follow 31 = .ok (.aaload, 1) := by decide +kernel
theorem dX1_follow_32 : decode cX1_follow 32 = .ok (.iconst 0, 1) := by decide +kernel
theorem dX1_follow_33 : decode cX1_follow 33 = .ok (.bipush 6, 2) := by decide +kernel
theorem dX1_follow_35 : decode cX1_follow 35 = .ok (.invokestatic 47, 3) := by decide +kernel
theorem dX1_follow_38 : decode cX1_follow 38 = .ok (.aload_n 1, 1) := by decide +kernel
theorem dX1_follow_39 : decode cX1_follow 39 = .ok (.getfield 19, 3) := by decide +kernel
theorem dX1_follow_42 : decode cX1_follow 42 = .ok (.iconst 0, 1) := by decide +kernel
theorem dX1_follow_43 : decode cX1_follow 43 = .ok (.aload_n 0, 1) := by decide +kernel
theorem dX1_follow_44 : decode cX1_follow 44 = .ok (.getfield 19, 3) := by decide +kernel
theorem dX1_follow_47 : decode cX1_follow 47 = .ok (.iconst 0, 1) := by decide +kernel
theorem dX1_follow_48 : decode cX1_follow 48 = .ok (.iconst 3, 1) := by decide +kernel
theorem dX1_follow_49 : decode cX1_follow 49 = .ok (.invokestatic 47, 3) := by decide +kernel
theorem dX1_follow_52 : decode cX1_follow 52 = .ok (.aload_n 0, 1) := by decide +kernel
theorem dX1_follow_53 : decode cX1_follow 53 = .ok (.aload_n 1, 1) := by decide +kernel
theorem dX1_follow_54 : decode cX1_follow 54 = .ok (.getfield 60, 3) := by decide +kernel
theorem dX1_follow_57 : decode cX1_follow 57 = .ok (.putfield 60, 3) := by decide +kernel
theorem dX1_follow_60 : decode cX1_follow 60 = .ok (.aload_n 0, 1) := by decide +kernel
theorem dX1_follow_61 : decode cX1_follow 61 = .ok (.aload_n 1, 1) := by decide +kernel
theorem dX1_follow_62 : decode cX1_follow 62 = .ok (.getfield 63, 3) := by decide +kernel
theorem dX1_follow_65 : decode cX1_follow 65 = .ok (.putfield 63, 3) := by decide +kernel
theorem dX1_follow_68 : decode cX1_follow 68 = .ok (.return_, 1) := by decide +kernel
theorem dX1_add_0 : decode cX1_add 0 = .ok (.aload_n 0, 1) := by decide +kernel
theorem dX1_add_1 : decode cX1_add 1 = .ok (.getfield 53, 3) := by decide +kernel
theorem dX1_add_4 : decode cX1_add 4 = .ok (.istore 5, 2) := by decide +kernel
theorem dX1_add_6 : decode cX1_add 6 = .ok (.aload_n 0, 1) := by decide +kernel
theorem dX1_add_7 : decode cX1_add 7 = .ok (.dup, 1) := by decide +kernel
theorem dX1_add_8 : decode cX1_add 8 = .ok (.getfield 53, 3) := by decide +kernel
theorem dX1_add_11 : decode cX1_add 11 = .ok (.iconst 1, 1) := by decide +kernel
theorem dX1_add_12 : decode cX1_add 12 = .ok (.iadd, 1) := by decide +kernel
theorem dX1_add_13 : decode cX1_add 13 = .ok (.putfield 53, 3) := by decide +kernel
theorem dX1_add_16 : decode cX1_add 16 = .ok (.aload_n 0, 1) := by decide +kernel
theorem dX1_add_17 : decode cX1_add 17 = .ok (.getfield 11, 3) := by decide +kernel
theorem dX1_add_20 : decode cX1_add 20 = .ok (.iconst 0, 1) := by decide +kernel
theorem dX1_add_21 : decode cX1_add 21 = .ok (.aaload, 1) := by decide +kernel
theorem dX1_add_22 : decode cX1_add 22 = .ok (.iload 5, 2) := by decide +kernel
theorem dX1_add_24 : decode cX1_add 24 = .ok (.iload_n 1, 1) := by decide +kernel
theorem dX1_add_25 : decode cX1_add 25 = .ok (.iastore, 1) := by decide +kernel
theorem dX1_add_26 : decode cX1_add 26 = .ok (.aload_n 0, 1) := by decide +kernel
theorem dX1_add_27 : decode cX1_add 27 = .ok (.getfield 11, 3) := by decide +kernel
theorem dX1_add_30 : decode cX1_add 30 = .ok (.iconst 1, 1) := by decide +kernel
theorem dX1_add_31 : decode cX1_add 31 = .ok (.aaload, 1) := by decide +kernel
theorem dX1_add_32 : decode cX1_add 32 = .ok (.iload 5, 2) := by decide +kernel
theorem dX1_add_34 : decode cX1_add 34 = .ok (.iload_n 2, 1) := by decide +kernel
theorem dX1_add_35 : decode cX1_add 35 = .ok (.iastore, 1) := by decide +kernel
theorem dX1_add_36 : decode cX1_add 36 = .ok (.aload_n 0, 1) := by decide +kernel
theorem dX1_add_37 : decode cX1_add 37 = .ok (.getfield 11, 3) := by decide +kernel
theorem dX1_add_40 : decode cX1_add 40 = .ok (.iconst 2, 1) := by decide +kernel
theorem dX1_add_41 : decode cX1_add 41 = .ok (.aaload, 1) := by decide +kernel
theorem dX1_add_42 : decode cX1_add 42 = .ok (.iload 5, 2) := by decide +kernel
theorem dX1_add_44 : decode cX1_add 44 = .ok (.iload_n 3, 1) := by decide +kernel
theorem dX1_add_45 : decode cX1_add 45 = .ok (.iastore, 1) := by decide +kernel
theorem dX1_add_46 : decode cX1_add 46 = .ok (.aload_n 0, 1) := by decide +kernel
theorem dX1_add_47 : decode cX1_add 47 = .ok (.getfield 11, 3) := by decide +kernel
theorem dX1_add_50 : decode cX1_add 50 = .ok (.iconst 3, 1) := by decide +kernel
theorem dX1_add_51 : decode cX1_add 51 = .ok (.aaload, 1) := by decide +kernel
theorem dX1_add_52 : decode cX1_add 52 = .ok (.iload 5, 2) := by decide +kernel
theorem dX1_add_54 : decode cX1_add 54 = .ok (.iload 4, 2) := by decide +kernel
theorem dX1_add_56 : decode cX1_add 56 = .ok (.iastore, 1) := by decide +kernel
theorem dX1_add_57 : decode cX1_add 57 = .ok (.aload_n 0, 1) := by decide +kernel
theorem dX1_add_58 : decode cX1_add 58 = .ok (.getfield 11, 3) := by decide +kernel
theorem dX1_add_61 : decode cX1_add 61 = .ok (.iconst 4, 1) := by decide +kernel
theorem dX1_add_62 : decode cX1_add 62 = .ok (.aaload, 1) := by decide +kernel
theorem dX1_add_63 : decode cX1_add 63 = .ok (.iload 5, 2) := by decide +kernel
theorem dX1_add_65 : decode cX1_add 65 = .ok (.iconst 3, 1) := by decide +kernel
theorem dX1_add_66 : decode cX1_add 66 = .ok (.iastore, 1) := by decide +kernel
theorem dX1_add_67 : decode cX1_add 67 = .ok (.iload 5, 2) := by decide +kernel
theorem dX1_add_69 : decode cX1_add 69 = .ok (.ireturn, 1) := by decide +kernel
theorem dX1_alterSet_0 : decode cX1_alterSet 0 = .ok (.aload_n 0, 1) := by decide +kernel
theorem dX1_alterSet_1 : decode cX1_alterSet 1 = .ok (.getfield 11, 3) := by decide +kernel
theorem dX1_alterSet_4 : decode cX1_alterSet 4 = .ok (.iload_n 2, 1) := by decide +kernel
theorem dX1_alterSet_5 : decode cX1_alterSet 5 = .ok (.aaload, 1) := by decide +kernel
theorem dX1_alterSet_6 : decode cX1_alterSet 6 = .ok (.iload_n 1, 1) := by decide +kernel
theorem dX1_alterSet_7 : decode cX1_alterSet 7 = .ok (.iaload, 1) := by decide +kernel
theorem dX1_alterSet_8 : decode cX1_alterSet 8 = .ok (.istore 4, 2) := by decide +kernel
theorem dX1_alterSet_10 : decode cX1_alterSet 10 = .ok (.aload_n 0, 1) := by decide +kernel
theorem dX1_alterSet_11 : decode cX1_alterSet 11 = .ok (.getfield 11, 3) := by decide +kernel
theorem dX1_alterSet_14 : decode cX1_alterSet 14 = .ok (.iload_n 2, 1) := by decide +kernel
theorem dX1_alterSet_15 : decode cX1_alterSet 15 = .ok (.aaload, 1) := by decide +kernel
theorem dX1_alterSet_16 : decode cX1_alterSet 16 = .ok (.iload_n 1, 1) := by decide +kernel
theorem dX1_alterSet_17 : decode cX1_alterSet 17 = .ok (.iload_n 3, 1) := by decide +kernel
theorem dX1_alterSet_18 : decode cX1_alterSet 18 = .ok (.iastore, 1) := by decide +kernel
theorem dX1_alterSet_19 : decode cX1_alterSet 19 = .ok (.iload 4, 2) := by decide +kernel
theorem dX1_alterSet_21 : decode cX1_alterSet 21 = .ok (.ireturn, 1) := by decide +kernel
theorem dX1_beginAnew_0 : decode cX1_beginAnew 0 = .ok (.aload_n 0, 1) := by decide +kernel
theorem dX1_beginAnew_1 : decode cX1_beginAnew 1 = .ok (.iconst 0, 1) := by decide +kernel
theorem dX1_beginAnew_2 : decode cX1_beginAnew 2 = .ok (.putfield 60, 3) := by decide +kernel
theorem dX1_beginAnew_5 : decode cX1_beginAnew 5 = .ok (.aload_n 0, 1) := by decide +kernel
theorem dX1_beginAnew_6 : decode cX1_beginAnew 6 = .ok (.iconst 0, 1) := by decide +kernel
theorem dX1_beginAnew_7 : decode cX1_beginAnew 7 = .ok (.putfield 63, 3) := by decide +kernel
theorem dX1_beginAnew_10 : decode cX1_beginAnew 10 = .ok (.iconst 0, 1) := by decide +kernel
theorem dX1_beginAnew_11 : decode cX1_beginAnew 11 = .ok (.istore_n 1, 1) := by decide +kernel
theorem dX1_beginAnew_12 : decode cX1_beginAnew 12 = .ok (.iload_n 1, 1) := by decide +kernel
theorem dX1_beginAnew_13 : decode cX1_beginAnew 13 = .ok (.aload_n 0, 1) := by decide +kernel
theorem dX1_beginAnew_14 : decode cX1_beginAnew 14 = .ok (.getfield 53, 3) := by decide +kernel
theorem dX1_beginAnew_17 : decode cX1_beginAnew 17 = .ok (.if_icmp .ge 18, 3) := by decide +kernel
theorem dX1_beginAnew_20 : decode cX1_beginAnew 20 = .ok (.aload_n 0, 1) := by decide +kernel
theorem dX1_beginAnew_21 : decode cX1_beginAnew 21 = .ok (.getfield 11, 3) := by decide +kernel
theorem dX1_beginAnew_24 : decode cX1_beginAnew 24 = .ok (.iconst 4, 1) := by decide +kernel
theorem dX1_beginAnew_25 : decode cX1_beginAnew 25 = .ok (.aaload, 1) := by decide +kernel
theorem dX1_beginAnew_26 : decode cX1_beginAnew 26 = .ok (.iload_n 1, 1) := by decide +kernel
theorem dX1_beginAnew_27 : decode cX1_beginAnew 27 = .ok (.iconst 3, 1) := by decide +kernel
theorem dX1_beginAnew_28 : decode cX1_beginAnew 28 = .ok (.iastore, 1) := by decide +kernel
theorem dX1_beginAnew_29 : decode cX1_beginAnew 29 = .ok (.iinc 1 1, 3) := by decide +kernel
theorem dX1_beginAnew_32 : decode cX1_beginAnew 32 = .ok (.goto (-20), 3) := by decide +kernel
theorem dX1_beginAnew_35 : decode cX1_beginAnew 35 = .ok (.iconst 0, 1) := by decide +kernel
theorem dX1_beginAnew_36 : decode cX1_beginAnew 36 = .ok (.istore_n 1, 1) := by decide +kernel
theorem dX1_beginAnew_37 : decode cX1_beginAnew 37 = .ok (.iload_n 1, 1) := by decide +kernel
theorem dX1_beginAnew_38 : decode cX1_beginAnew 38 = .ok (.iconst 3, 1) := by decide +kernel
theorem dX1_beginAnew_39 : decode cX1_beginAnew 39 = .ok (.if_icmp .ge 16, 3) := by decide +kernel
theorem dX1_beginAnew_42 : decode cX1_beginAnew 42 = .ok (.aload_n 0, 1) := by decide +kernel
theorem dX1_beginAnew_43 : decode cX1_beginAnew 43 = .ok (.getfield 19, 3) := by decide +kernel
theorem dX1_beginAnew_46 : decode cX1_beginAnew 46 = .ok (.iload_n 1, 1) := by decide +kernel
theorem dX1_beginAnew_47 : decode cX1_beginAnew 47 = .ok (.iconst 0, 1) := by decide +kernel
theorem dX1_beginAnew_48 : decode cX1_beginAnew 48 = .ok (.iastore, 1) := by decide +kernel
theorem dX1_beginAnew_49 : decode cX1_beginAnew 49 = .ok (.iinc 1 1, 3) := by decide +kernel
theorem dX1_beginAnew_52 : decode cX1_beginAnew 52 = .ok (.goto (-15), 3) := by decide +kernel
theorem dX1_beginAnew_55 : decode cX1_beginAnew 55 = .ok (.iconst 0, 1) := by decide +kernel
theorem dX1_beginAnew_56 : decode cX1_beginAnew 56 = .ok (.istore_n 1, 1) := by decide +kernel
theorem dX1_beginAnew_57 : decode cX1_beginAnew 57 = .ok (.iload_n 1, 1) := by decide +kernel
theorem dX1_beginAnew_58 : decode cX1_beginAnew 58 = .ok (.bipush 6, 2) := by decide +kernel
theorem dX1_beginAnew_60 : decode cX1_beginAnew 60 = .ok (.if_icmp .ge 18, 3) := by decide +kernel
theorem dX1_beginAnew_63 : decode cX1_beginAnew 63 = .ok (.aload_n 0, 1) := by decide +kernel
theorem dX1_beginAnew_64 : decode cX1_beginAnew 64 = .ok (.getfield 16, 3) := by decide +kernel
theorem dX1_beginAnew_67 : decode cX1_beginAnew 67 = .ok (.iconst 0, 1) := by decide +kernel
theorem dX1_beginAnew_68 : decode cX1_beginAnew 68 = .ok (.aaload, 1) := by decide +kernel
theorem dX1_beginAnew_69 : decode cX1_beginAnew 69 = .ok (.iload_n 1, 1) := by decide +kernel
theorem dX1_beginAnew_70 : decode cX1_beginAnew 70 = .ok (.iconst 0, 1) := by decide +kernel
theorem dX1_beginAnew_71 : decode cX1_beginAnew 71 = .ok (.iastore, 1) := by decide +kernel
theorem dX1_beginAnew_72 : decode cX1_beginAnew 72 = .ok (.iinc 1 1, 3) := by decide +kernel
theorem dX1_beginAnew_75 : decode cX1_beginAnew 75 = .ok (.goto (-18), 3) := by decide +kernel
theorem dX1_beginAnew_78 : decode cX1_beginAnew 78 = .ok (.return_, 1) := by decide +kernel
theorem dX1_has_0 : decode cX1_has 0 = .ok (.iload_n 1, 1) := by decide +kernel
theorem dX1_has_1 : decode cX1_has 1 = .ok (.ifCond .lt 15, 3) := by decide +kernel
theorem dX1_has_4 : decode cX1_has 4 = .ok (.iload_n 1, 1) := by decide +kernel
theorem dX1_has_5 : decode cX1_has 5 = .ok (.aload_n 0, 1) := by decide +kernel
theorem dX1_has_6 : decode cX1_has 6 = .ok (.getfield 53, 3) := by decide +kernel
theorem dX1_has_9 : decode cX1_has 9 = .ok (.if_icmp .ge 7, 3) := by decide +kernel
theorem dX1_has_12 : decode cX1_has 12 = .ok (.iconst 1, 1) := by decide +kernel
theorem dX1_has_13 : decode cX1_has 13 = .ok (.goto 4, 3) := by decide +kernel
theorem dX1_has_16 : decode cX1_has 16 = .ok (.iconst 0, 1) := by decide +kernel
theorem dX1_has_17 : decode cX1_has 17 = .ok (.ireturn, 1) := by decide +kernel
theorem dX1_isAct_0 : decode cX1_isAct 0 = .ok (.iload_n 1, 1) := by decide +kernel
theorem dX1_isAct_1 : decode cX1_isAct 1 = .ok (.ifCond .lt 15, 3) := by decide +kernel
theorem dX1_isAct_4 : decode cX1_isAct 4 = .ok (.iload_n 1, 1) := by decide +kernel
theorem dX1_isAct_5 : decode cX1_isAct 5 = .ok (.aload_n 0, 1) := by decide +kernel
theorem dX1_isAct_6 : decode cX1_isAct 6 = .ok (.getfield 53, 3) := by decide +kernel
theorem dX1_isAct_9 : decode cX1_isAct 9 = .ok (.if_icmp .gt 7, 3) := by decide +kernel
theorem dX1_isAct_12 : decode cX1_isAct 12 = .ok (.iconst 1, 1) := by decide +kernel
theorem dX1_isAct_13 : decode cX1_isAct 13 = .ok (.goto 4, 3) := by decide +kernel
theorem dX1_isAct_16 : decode cX1_isAct 16 = .ok (.iconst 0, 1) := by decide +kernel
theorem dX1_isAct_17 : decode cX1_isAct 17 = .ok (.ireturn, 1) := by decide +kernel
theorem dX1_isOfSets_0 : decode cX1_isOfSets 0 = .ok (.iload_n 1, 1) := by decide +kernel
theorem dX1_isOfSets_1 : decode cX1_isOfSets 1 = .ok (.ifCond .lt 17, 3) := by decide +kernel
theorem dX1_isOfSets_4 : decode cX1_isOfSets 4 = .ok (.iload_n 1, 1) := by decide +kernel
theorem dX1_isOfSets_5 : decode cX1_isOfSets 5 = .ok (.iconst 1, 1) := by decide +kernel
theorem dX1_isOfSets_6 : decode cX1_isOfSets 6 = .ok (.aload_n 0, 1) := by decide +kernel
theorem dX1_isOfSets_7 : decode cX1_isOfSets 7 = .ok (.getfield 53, 3) := by decide +kernel
theorem dX1_isOfSets_10 : decode cX1_isOfSets 10 = .ok (.ishl, 1) := by decide +kernel
theorem dX1_isOfSets_11 : decode cX1_isOfSets 11 = .ok (.if_icmp .ge 7, 3) := by decide +kernel
theorem dX1_isOfSets_14 : decode cX1_isOfSets 14 = .ok (.iconst 1, 1) := by decide +kernel
theorem dX1_isOfSets_15 : decode cX1_isOfSets 15 = .ok (.goto 4, 3) := by decide +kernel
theorem dX1_isOfSets_18 : decode cX1_isOfSets 18 = .ok (.iconst 0, 1) := by decide +kernel
theorem dX1_isOfSets_19 : decode cX1_isOfSets 19 = .ok (.ireturn, 1) := by decide +kernel
theorem dX1_isOver_0 : decode cX1_isOver 0 = .ok (.aload_n 0, 1) := by decide +kernel
theorem dX1_isOver_1 : decode cX1_isOver 1 = .ok (.getfield 60, 3) := by decide +kernel
theorem dX1_isOver_4 : decode cX1_isOver 4 = .ok (.aload_n 0, 1) := by decide +kernel
theorem dX1_isOver_5 : decode cX1_isOver 5 = .ok (.getfield 23, 3) := by decide +kernel
theorem dX1_isOver_8 : decode cX1_isOver 8 = .ok (.if_icmp .lt 7, 3) := by decide +kernel
theorem dX1_isOver_11 : decode cX1_isOver 11 = .ok (.iconst 1, 1) := by decide +kernel
theorem dX1_isOver_12 : decode cX1_isOver 12 = .ok (.goto 4, 3) := by decide +kernel
theorem dX1_isOver_15 : decode cX1_isOver 15 = .ok (.iconst 0, 1) := by decide +kernel
theorem dX1_isOver_16 : decode cX1_isOver 16 = .ok (.ireturn, 1) := by decide +kernel
theorem dX1_spent_0 : decode cX1_spent 0 = .ok (.iconst 0, 1) := by decide +kernel
theorem dX1_spent_1 : decode cX1_spent 1 = .ok (.istore_n 1, 1) := by decide +kernel
theorem dX1_spent_2 : decode cX1_spent 2 = .ok (.iconst 0, 1) := by decide +kernel
theorem dX1_spent_3 : decode cX1_spent 3 = .ok (.istore_n 2, 1) := by decide +kernel
theorem dX1_spent_4 : decode cX1_spent 4 = .ok (.iload_n 2, 1) := by decide +kernel
theorem dX1_spent_5 : decode cX1_spent 5 = .ok (.aload_n 0, 1) := by decide +kernel
theorem dX1_spent_6 : decode cX1_spent 6 = .ok (.getfield 53, 3) := by decide +kernel
theorem dX1_spent_9 : decode cX1_spent 9 = .ok (.if_icmp .ge 26, 3) := by decide +kernel
theorem dX1_spent_12 : decode cX1_spent 12 = .ok (.aload_n 0, 1) := by decide +kernel
theorem dX1_spent_13 : decode cX1_spent 13 = .ok (.getfield 11, 3) := by decide +kernel
theorem dX1_spent_16 : decode cX1_spent 16 = .ok (.iconst 4, 1) := by decide +kernel
theorem dX1_spent_17 : decode cX1_spent 17 = .ok (.aaload, 1) := by decide +kernel
theorem dX1_spent_18 : decode cX1_spent 18 = .ok (.iload_n 2, 1) := by decide +kernel
theorem dX1_spent_19 : decode cX1_spent 19 = .ok (.iaload, 1) := by decide +kernel
theorem dX1_spent_20 : decode cX1_spent 20 = .ok (.ifCond .ne 9, 3) := by decide +kernel
theorem dX1_spent_23 : decode cX1_spent 23 = .ok (.iload_n 1, 1) := by decide +kernel
theorem dX1_spent_24 : decode cX1_spent 24 = .ok (.iconst 1, 1) := by decide +kernel
theorem dX1_spent_25 : decode cX1_spent 25 = .ok (.iload_n 2, 1) := by decide +kernel
theorem dX1_spent_26 : decode cX1_spent 26 = .ok (.ishl, 1) := by decide +kernel
theorem dX1_spent_27 : decode cX1_spent 27 = .ok (.ior, 1) := by decide +kernel
theorem dX1_spent_28 : decode cX1_spent 28 = .ok (.istore_n 1, 1) := by decide +kernel
theorem dX1_spent_29 : decode cX1_spent 29 = .ok (.iinc 2 1, 3) := by decide +kernel
theorem dX1_spent_32 : decode cX1_spent 32 = .ok (.goto (-28), 3) := by decide +kernel
theorem dX1_spent_35 : decode cX1_spent 35 = .ok (.iload_n 1, 1) := by decide +kernel
theorem dX1_spent_36 : decode cX1_spent 36 = .ok (.ireturn, 1) := by decide +kernel
theorem dX1_mayIn_0 : decode cX1_mayIn 0 = .ok (.aload_n 0, 1) := by decide +kernel
theorem dX1_mayIn_1 : decode cX1_mayIn 1 = .ok (.getfield 39, 3) := by decide +kernel
theorem dX1_mayIn_4 : decode cX1_mayIn 4 = .ok (.aload_n 0, 1) := by decide +kernel
theorem dX1_mayIn_5 : decode cX1_mayIn 5 = .ok (.getfield 11, 3) := by decide +kernel
theorem dX1_mayIn_8 : decode cX1_mayIn 8 = .ok (.iconst 0, 1) := by decide +kernel
theorem dX1_mayIn_9 : decode cX1_mayIn 9 = .ok (.aaload, 1) := by decide +kernel
theorem dX1_mayIn_10 : decode cX1_mayIn 10 = .ok (.iload_n 1, 1) := by decide +kernel
theorem dX1_mayIn_11 : decode cX1_mayIn 11 = .ok (.iaload, 1) := by decide +kernel
theorem dX1_mayIn_12 : decode cX1_mayIn 12 = .ok (.aaload, 1) := by decide +kernel
theorem dX1_mayIn_13 : decode cX1_mayIn 13 = .ok (.aload_n 0, 1) := by decide +kernel
theorem dX1_mayIn_14 : decode cX1_mayIn 14 = .ok (.getfield 16, 3) := by decide +kernel
theorem dX1_mayIn_17 : decode cX1_mayIn 17 = .ok (.iconst 1, 1) := by decide +kernel
theorem dX1_mayIn_18 : decode cX1_mayIn 18 = .ok (.aaload, 1) := by decide +kernel
theorem dX1_mayIn_19 : decode cX1_mayIn 19 = .ok (.aload_n 0, 1) := by decide +kernel
theorem dX1_mayIn_20 : decode cX1_mayIn 20 = .ok (.getfield 11, 3) := by decide +kernel
theorem dX1_mayIn_23 : decode cX1_mayIn 23 = .ok (.iconst 1, 1) := by decide +kernel
theorem dX1_mayIn_24 : decode cX1_mayIn 24 = .ok (.aaload, 1) := by decide +kernel
theorem dX1_mayIn_25 : decode cX1_mayIn 25 = .ok (.iload_n 1, 1) := by decide +kernel
theorem dX1_mayIn_26 : decode cX1_mayIn 26 = .ok (.iaload, 1) := by decide +kernel
theorem dX1_mayIn_27 : decode cX1_mayIn 27 = .ok (.iaload, 1) := by decide +kernel
theorem dX1_mayIn_28 : decode cX1_mayIn 28 = .ok (.iload_n 2, 1) := by decide +kernel
theorem dX1_mayIn_29 : decode cX1_mayIn 29 = .ok (.invokevirtual 66, 3) := by decide +kernel
theorem dX1_mayIn_32 : decode cX1_mayIn 32 = .ok (.ireturn, 1) := by decide +kernel
theorem dX1_gains_0 : decode cX1_gains 0 = .ok (.aload_n 0, 1) := by decide +kernel
theorem dX1_gains_1 : decode cX1_gains 1 = .ok (.getfield 39, 3) := by decide +kernel
theorem dX1_gains_4 : decode cX1_gains 4 = .ok (.aload_n 0, 1) := by decide +kernel
theorem dX1_gains_5 : decode cX1_gains 5 = .ok (.getfield 11, 3) := by decide +kernel
theorem dX1_gains_8 : decode cX1_gains 8 = .ok (.iconst 0, 1) := by decide +kernel
theorem dX1_gains_9 : decode cX1_gains 9 = .ok (.aaload, 1) := by decide +kernel
theorem dX1_gains_10 : decode cX1_gains 10 = .ok (.iload_n 1, 1) := by decide +kernel
theorem dX1_gains_11 : decode cX1_gains 11 = .ok (.iaload, 1) := by decide +kernel
theorem dX1_gains_12 : decode cX1_gains 12 = .ok (.aaload, 1) := by decide +kernel
theorem dX1_gains_13 : decode cX1_gains 13 = .ok (.aload_n 0, 1) := by decide +kernel
theorem dX1_gains_14 : decode cX1_gains 14 = .ok (.getfield 11, 3) := by decide +kernel
theorem dX1_gains_17 : decode cX1_gains 17 = .ok (.iconst 2, 1) := by decide +kernel
theorem dX1_gains_18 : decode cX1_gains 18 = .ok (.aaload, 1) := by decide +kernel
theorem dX1_gains_19 : decode cX1_gains 19 = .ok (.iload_n 1, 1) := by decide +kernel
theorem dX1_gains_20 : decode cX1_gains 20 = .ok (.iaload, 1) := by decide +kernel
theorem dX1_gains_21 : decode cX1_gains 21 = .ok (.aload_n 0, 1) := by decide +kernel
theorem dX1_gains_22 : decode cX1_gains 22 = .ok (.getfield 60, 3) := by decide +kernel
theorem dX1_gains_25 : decode cX1_gains 25 = .ok (.invokevirtual 72, 3) := by decide +kernel
theorem dX1_gains_28 : decode cX1_gains 28 = .ok (.ireturn, 1) := by decide +kernel
theorem dX1_tires_0 : decode cX1_tires 0 = .ok (.aload_n 0, 1) := by decide +kernel
theorem dX1_tires_1 : decode cX1_tires 1 = .ok (.getfield 39, 3) := by decide +kernel
theorem dX1_tires_4 : decode cX1_tires 4 = .ok (.aload_n 0, 1) := by decide +kernel
theorem dX1_tires_5 : decode cX1_tires 5 = .ok (.getfield 11, 3) := by decide +kernel
theorem dX1_tires_8 : decode cX1_tires 8 = .ok (.iconst 0, 1) := by decide +kernel
theorem dX1_tires_9 : decode cX1_tires 9 = .ok (.aaload, 1) := by decide +kernel
theorem dX1_tires_10 : decode cX1_tires 10 = .ok (.iload_n 1, 1) := by decide +kernel
theorem dX1_tires_11 : decode cX1_tires 11 = .ok (.iaload, 1) := by decide +kernel
theorem dX1_tires_12 : decode cX1_tires 12 = .ok (.aaload, 1) := by decide +kernel
theorem dX1_tires_13 : decode cX1_tires 13 = .ok (.invokevirtual 76, 3) := by decide +kernel
theorem dX1_tires_16 : decode cX1_tires 16 = .ok (.ireturn, 1) := by decide +kernel
theorem dX1_will_0 : decode cX1_will 0 = .ok (.aload_n 0, 1) := by decide +kernel
theorem dX1_will_1 : decode cX1_will 1 = .ok (.getfield 33, 3) := by decide +kernel
theorem dX1_will_4 : decode cX1_will 4 = .ok (.iconst 0, 1) := by decide +kernel
theorem dX1_will_5 : decode cX1_will 5 = .ok (.aload_n 0, 1) := by decide +kernel
theorem dX1_will_6 : decode cX1_will 6 = .ok (.getfield 60, 3) := by decide +kernel
theorem dX1_will_9 : decode cX1_will 9 = .ok (.iastore, 1) := by decide +kernel
theorem dX1_will_10 : decode cX1_will 10 = .ok (.aload_n 0, 1) := by decide +kernel
theorem dX1_will_11 : decode cX1_will 11 = .ok (.getfield 33, 3) := by decide +kernel
theorem dX1_will_14 : decode cX1_will 14 = .ok (.iconst 1, 1) := by decide +kernel
theorem dX1_will_15 : decode cX1_will 15 = .ok (.aload_n 0, 1) := by decide +kernel
theorem dX1_will_16 : decode cX1_will 16 = .ok (.getfield 11, 3) := by decide +kernel
theorem dX1_will_19 : decode cX1_will 19 = .ok (.iconst 2, 1) := by decide +kernel
theorem dX1_will_20 : decode cX1_will 20 = .ok (.aaload, 1) := by decide +kernel
theorem dX1_will_21 : decode cX1_will 21 = .ok (.iload_n 1, 1) := by decide +kernel
theorem dX1_will_22 : decode cX1_will 22 = .ok (.iaload, 1) := by decide +kernel
theorem dX1_will_23 : decode cX1_will 23 = .ok (.iastore, 1) := by decide +kernel
theorem dX1_will_24 : decode cX1_will 24 = .ok (.aload_n 0, 1) := by decide +kernel
theorem dX1_will_25 : decode cX1_will 25 = .ok (.getfield 33, 3) := by decide +kernel
theorem dX1_will_28 : decode cX1_will 28 = .ok (.iconst 2, 1) := by decide +kernel
theorem dX1_will_29 : decode cX1_will 29 = .ok (.aload_n 0, 1) := by decide +kernel
theorem dX1_will_30 : decode cX1_will 30 = .ok (.getfield 19, 3) := by decide +kernel
theorem dX1_will_33 : decode cX1_will 33 = .ok (.aload_n 0, 1) := by decide +kernel
theorem dX1_will_34 : decode cX1_will 34 = .ok (.getfield 11, 3) := by decide +kernel
theorem dX1_will_37 : decode cX1_will 37 = .ok (.iconst 3, 1) := by decide +kernel
theorem dX1_will_38 : decode cX1_will 38 = .ok (.aaload, 1) := by decide +kernel
theorem dX1_will_39 : decode cX1_will 39 = .ok (.iload_n 1, 1) := by decide +kernel
theorem dX1_will_40 : decode cX1_will 40 = .ok (.iaload, 1) := by decide +kernel
theorem dX1_will_41 : decode cX1_will 41 = .ok (.iaload, 1) := by decide +kernel
theorem dX1_will_42 : decode cX1_will 42 = .ok (.iastore, 1) := by decide +kernel
theorem dX1_will_43 : decode cX1_will 43 = .ok (.aload_n 0, 1) := by decide +kernel
theorem dX1_will_44 : decode cX1_will 44 = .ok (.getfield 33, 3) := by decide +kernel
theorem dX1_will_47 : decode cX1_will 47 = .ok (.iconst 3, 1) := by decide +kernel
theorem dX1_will_48 : decode cX1_will 48 = .ok (.aload_n 0, 1) := by decide +kernel
theorem dX1_will_49 : decode cX1_will 49 = .ok (.getfield 11, 3) := by decide +kernel
theorem dX1_will_52 : decode cX1_will 52 = .ok (.iconst 4, 1) := by decide +kernel
theorem dX1_will_53 : decode cX1_will 53 = .ok (.aaload, 1) := by decide +kernel
theorem dX1_will_54 : decode cX1_will 54 = .ok (.iload_n 1, 1) := by decide +kernel
theorem dX1_will_55 : decode cX1_will 55 = .ok (.iaload, 1) := by decide +kernel
theorem dX1_will_56 : decode cX1_will 56 = .ok (.iastore, 1) := by decide +kernel
theorem dX1_will_57 : decode cX1_will 57 = .ok (.aload_n 0, 1) := by decide +kernel
theorem dX1_will_58 : decode cX1_will 58 = .ok (.getfield 33, 3) := by decide +kernel
theorem dX1_will_61 : decode cX1_will 61 = .ok (.iconst 4, 1) := by decide +kernel
theorem dX1_will_62 : decode cX1_will 62 = .ok (.iload_n 1, 1) := by decide +kernel
theorem dX1_will_63 : decode cX1_will 63 = .ok (.iastore, 1) := by decide +kernel
theorem dX1_will_64 : decode cX1_will 64 = .ok (.aload_n 0, 1) := by decide +kernel
theorem dX1_will_65 : decode cX1_will 65 = .ok (.getfield 43, 3) := by decide +kernel
theorem dX1_will_68 : decode cX1_will 68 = .ok (.aload_n 0, 1) := by decide +kernel
theorem dX1_will_69 : decode cX1_will 69 = .ok (.getfield 11, 3) := by decide +kernel
theorem dX1_will_72 : decode cX1_will 72 = .ok (.iconst 0, 1) := by decide +kernel
theorem dX1_will_73 : decode cX1_will 73 = .ok (.aaload, 1) := by decide +kernel
theorem dX1_will_74 : decode cX1_will 74 = .ok (.iload_n 1, 1) := by decide +kernel
theorem dX1_will_75 : decode cX1_will 75 = .ok (.iaload, 1) := by decide +kernel
theorem dX1_will_76 : decode cX1_will 76 = .ok (.aload_n 0, 1) := by decide +kernel
theorem dX1_will_77 : decode cX1_will 77 = .ok (.getfield 33, 3) := by decide +kernel
theorem dX1_will_80 : decode cX1_will 80 = .ok (.invokevirtual 80, 3) := by decide +kernel
theorem dX1_will_83 : decode cX1_will 83 = .ok (.ireturn, 1) := by decide +kernel
theorem dX1_goBy_0 : decode cX1_goBy 0 = .ok (.iload_n 1, 1) := by decide +kernel
theorem dX1_goBy_1 : decode cX1_goBy 1 = .ok (.iconst 1, 1) := by decide +kernel
theorem dX1_goBy_2 : decode cX1_goBy 2 = .ok (.isub, 1) := by decide +kernel
theorem dX1_goBy_3 : decode cX1_goBy 3 = .ok (.istore_n 2, 1) := by decide +kernel
theorem dX1_goBy_4 : decode cX1_goBy 4 = .ok (.iconst 0, 1) := by decide +kernel
theorem dX1_goBy_5 : decode cX1_goBy 5 = .ok (.istore_n 3, 1) := by decide +kernel
theorem dX1_goBy_6 : decode cX1_goBy 6 = .ok (.aload_n 0, 1) := by decide +kernel
theorem dX1_goBy_7 : decode cX1_goBy 7 = .ok (.bipush (-3), 2) := by decide +kernel
theorem dX1_goBy_9 : decode cX1_goBy 9 = .ok (.putfield 30, 3) := by decide +kernel
theorem dX1_goBy_12 : decode cX1_goBy 12 = .ok (.aload_n 0, 1) := by decide +kernel
theorem dX1_goBy_13 : decode cX1_goBy 13 = .ok (.iload_n 2, 1) := by decide +kernel
theorem dX1_goBy_14 : decode cX1_goBy 14 = .ok (.invokevirtual 86, 3) := by decide +kernel
theorem dX1_goBy_17 : decode cX1_goBy 17 = .ok (.ifCond .eq 56, 3) := by decide +kernel
theorem dX1_goBy_20 : decode cX1_goBy 20 = .ok (.aload_n 0, 1) := by decide +kernel
theorem dX1_goBy_21 : decode cX1_goBy 21 = .ok (.getfield 11, 3) := by decide +kernel
theorem dX1_goBy_24 : decode cX1_goBy 24 = .ok (.iconst 4, 1) := by decide +kernel
theorem dX1_goBy_25 : decode cX1_goBy 25 = .ok (.aaload, 1) := by decide +kernel
theorem dX1_goBy_26 : decode cX1_goBy 26 = .ok (.iload_n 2, 1) := by decide +kernel
theorem dX1_goBy_27 : decode cX1_goBy 27 = .ok (.iaload, 1) := by decide +kernel
theorem dX1_goBy_28 : decode cX1_goBy 28 = .ok (.ifCond .le 45, 3) := by decide +kernel
theorem dX1_goBy_31 : decode cX1_goBy 31 = .ok (.aload_n 0, 1) := by decide +kernel
theorem dX1_goBy_32 : decode cX1_goBy 32 = .ok (.iload_n 2, 1) := by decide +kernel
theorem dX1_goBy_33 : decode cX1_goBy 33 = .ok (.aload_n 0, 1) := by decide +kernel
theorem dX1_goBy_34 : decode cX1_goBy 34 = .ok (.getfield 60, 3) := by decide +kernel
theorem dX1_goBy_37 : decode cX1_goBy 37 = .ok (.invokevirtual 90, 3) := by decide +kernel
theorem dX1_goBy_40 : decode cX1_goBy 40 = .ok (.ifCond .eq 33, 3) := by decide +kernel
theorem dX1_goBy_43 : decode cX1_goBy 43 = .ok (.aload_n 0, 1) := by decide +kernel
theorem dX1_goBy_44 : decode cX1_goBy 44 = .ok (.iload_n 2, 1) := by decide +kernel
theorem dX1_goBy_45 : decode cX1_goBy 45 = .ok (.invokevirtual 93, 3) := by decide +kernel
theorem dX1_goBy_48 : decode cX1_goBy 48 = .ok (.istore 4, 2) := by decide +kernel
theorem dX1_goBy_50 : decode cX1_goBy 50 = .ok (.iload 4, 2) := by decide +kernel
theorem dX1_goBy_52 : decode cX1_goBy 52 = .ok (.iconst 2, 1) := by decide +kernel
theorem dX1_goBy_53 : decode cX1_goBy 53 = .ok (.if_icmp .eq 20, 3) := by decide +kernel
theorem dX1_goBy_56 : decode cX1_goBy 56 = .ok (.aload_n 0, 1) := by decide +kernel
theorem dX1_goBy_57 : decode cX1_goBy 57 = .ok (.iload_n 2, 1) := by decide +kernel
theorem dX1_goBy_58 : decode cX1_goBy 58 = .ok (.iload 4, 2) := by decide +kernel
theorem dX1_goBy_60 : decode cX1_goBy 60 = .ok (.iconst 1, 1) := by decide +kernel
theorem dX1_goBy_61 : decode cX1_goBy 61 = .ok (.if_icmp .ne 7, 3) := by decide +kernel
theorem dX1_goBy_64 : decode cX1_goBy 64 = .ok (.iconst 1, 1) := by decide +kernel
theorem dX1_goBy_65 : decode cX1_goBy 65 = .ok (.goto 4, 3) := by decide +kernel
theorem dX1_goBy_68 : decode cX1_goBy 68 = .ok (.iconst 0, 1) := by decide +kernel
theorem dX1_goBy_69 : decode cX1_goBy 69 = .ok (.invokevirtual 97, 3) := by decide +kernel
theorem dX1_goBy_72 : decode cX1_goBy 72 = .ok (.istore_n 3, 1) := by decide +kernel
theorem dX1_goBy_73 : decode cX1_goBy 73 = .ok (.aload_n 0, 1) := by decide +kernel
theorem dX1_goBy_74 : decode cX1_goBy 74 = .ok (.getfield 30, 3) := by decide +kernel
theorem dX1_goBy_77 : decode cX1_goBy 77 = .ok (.ifCond .lt 17, 3) := by decide +kernel
theorem dX1_goBy_80 : decode cX1_goBy 80 = .ok (.aload_n 0, 1) := by decide +kernel
theorem dX1_goBy_81 : decode cX1_goBy 81 = .ok (.getfield 11, 3) := by decide +kernel
theorem dX1_goBy_84 : decode cX1_goBy 84 = .ok (.iconst 3, 1) := by decide +kernel
theorem dX1_goBy_85 : decode cX1_goBy 85 = .ok (.aaload, 1) := by decide +kernel
theorem dX1_goBy_86 : decode cX1_goBy 86 = .ok (.aload_n 0, 1) := by decide +kernel
theorem dX1_goBy_87 : decode cX1_goBy 87 = .ok (.getfield 30, 3) := by decide +kernel
theorem dX1_goBy_90 : decode cX1_goBy 90 = .ok (.iaload, 1) := by decide +kernel
theorem dX1_goBy_91 : decode cX1_goBy 91 = .ok (.goto 5, 3) := by decide +kernel
theorem dX1_goBy_94 : decode cX1_goBy 94 = .ok (.bipush (-3), 2) := by decide +kernel
theorem dX1_goBy_96 : decode cX1_goBy 96 = .ok (.istore 4, 2) := by decide +kernel
theorem dX1_goBy_98 : decode cX1_goBy 98 = .ok (.iconst 0, 1) := by decide +kernel
theorem dX1_goBy_99 : decode cX1_goBy 99 = .ok (.istore 5, 2) := by decide +kernel
theorem dX1_goBy_101 : decode cX1_goBy 101 = .ok (.iload 5, 2) := by decide +kernel
theorem dX1_goBy_103 : decode cX1_goBy 103 = .ok (.iconst 3, 1) := by decide +kernel
theorem dX1_goBy_104 : decode cX1_goBy 104 = .ok (.if_icmp .ge 37, 3) := by decide +kernel
theorem dX1_goBy_107 : decode cX1_goBy 107 = .ok (.iload 5, 2) := by decide +kernel
theorem dX1_goBy_109 : decode cX1_goBy 109 = .ok (.iload 4, 2) := by decide +kernel
theorem dX1_goBy_111 : decode cX1_goBy 111 = .ok (.if_icmp .eq 24, 3) := by decide +kernel
theorem dX1_goBy_114 : decode cX1_goBy 114 = .ok (.aload_n 0, 1) := by decide +kernel
theorem dX1_goBy_115 : decode cX1_goBy 115 = .ok (.getfield 19, 3) := by decide +kernel
theorem dX1_goBy_118 : decode cX1_goBy 118 = .ok (.iload 5, 2) := by decide +kernel
theorem dX1_goBy_120 : decode cX1_goBy 120 = .ok (.iaload, 1) := by decide +kernel
theorem dX1_goBy_121 : decode cX1_goBy 121 = .ok (.ifCond .le 14, 3) := by decide +kernel
theorem dX1_goBy_124 : decode cX1_goBy 124 = .ok (.aload_n 0, 1) := by decide +kernel
theorem dX1_goBy_125 : decode cX1_goBy 125 = .ok (.getfield 19, 3) := by decide +kernel
theorem dX1_goBy_128 : decode cX1_goBy 128 = .ok (.iload 5, 2) := by decide +kernel
theorem dX1_goBy_130 : decode cX1_goBy 130 = .ok (.dup2, 1) := by decide +kernel
theorem dX1_goBy_131 : decode cX1_goBy 131 = .ok (.iaload, 1) := by decide +kernel
theorem dX1_goBy_132 : decode cX1_goBy 132 = .ok (.iconst 1, 1) := by decide +kernel
theorem dX1_goBy_133 : decode cX1_goBy 133 = .ok (.isub, 1) := by decide +kernel
theorem dX1_goBy_134 : decode cX1_goBy 134 = .ok (.iastore, 1) := by decide +kernel
theorem dX1_goBy_135 : decode cX1_goBy 135 = .ok (.iinc 5 1, 3) := by decide +kernel
theorem dX1_goBy_138 : decode cX1_goBy 138 = .ok (.goto (-37), 3) := by decide +kernel
theorem dX1_goBy_141 : decode cX1_goBy 141 = .ok (.aload_n 0, 1) := by decide +kernel
theorem dX1_goBy_142 : decode cX1_goBy 142 = .ok (.dup, 1) := by decide +kernel
theorem dX1_goBy_143 : decode cX1_goBy 143 = .ok (.getfield 60, 3) := by decide +kernel
theorem dX1_goBy_146 : decode cX1_goBy 146 = .ok (.iconst 1, 1) := by decide +kernel
theorem dX1_goBy_147 : decode cX1_goBy 147 = .ok (.iadd, 1) := by decide +kernel
theorem dX1_goBy_148 : decode cX1_goBy 148 = .ok (.putfield 60, 3) := by decide +kernel
theorem dX1_goBy_151 : decode cX1_goBy 151 = .ok (.aload_n 0, 1) := by decide +kernel
theorem dX1_goBy_152 : decode cX1_goBy 152 = .ok (.dup, 1) := by decide +kernel
theorem dX1_goBy_153 : decode cX1_goBy 153 = .ok (.getfield 63, 3) := by decide +kernel
theorem dX1_goBy_156 : decode cX1_goBy 156 = .ok (.iload_n 3, 1) := by decide +kernel
theorem dX1_goBy_157 : decode cX1_goBy 157 = .ok (.iadd, 1) := by decide +kernel
theorem dX1_goBy_158 : decode cX1_goBy 158 = .ok (.putfield 63, 3) := by decide +kernel
theorem dX1_goBy_161 : decode cX1_goBy 161 = .ok (.iload_n 3, 1) := by decide +kernel
theorem dX1_goBy_162 : decode cX1_goBy 162 = .ok (.ireturn, 1) := by decide +kernel
theorem dX1_doSet_0 : decode cX1_doSet 0 = .ok (.aload_n 0, 1) := by decide +kernel
theorem dX1_doSet_1 : decode cX1_doSet 1 = .ok (.getfield 11, 3) := by decide +kernel
theorem dX1_doSet_4 : decode cX1_doSet 4 = .ok (.iconst 1, 1) := by decide +kernel
theorem dX1_doSet_5 : decode cX1_doSet 5 = .ok (.aaload, 1) := by decide +kernel
theorem dX1_doSet_6 : decode cX1_doSet 6 = .ok (.iload_n 1, 1) := by decide +kernel
theorem dX1_doSet_7 : decode cX1_doSet 7 = .ok (.iaload, 1) := by decide +kernel
theorem dX1_doSet_8 : decode cX1_doSet 8 = .ok (.istore_n 3, 1) := by decide +kernel
theorem dX1_doSet_9 : decode cX1_doSet 9 = .ok (.aload_n 0, 1) := by decide +kernel
theorem dX1_doSet_10 : decode cX1_doSet 10 = .ok (.getfield 11, 3) := by decide +kernel
theorem dX1_doSet_13 : decode cX1_doSet 13 = .ok (.iconst 3, 1) := by decide +kernel
theorem dX1_doSet_14 : decode cX1_doSet 14 = .ok (.aaload, 1) := by decide +kernel
theorem dX1_doSet_15 : decode cX1_doSet 15 = .ok (.iload_n 1, 1) := by decide +kernel
theorem dX1_doSet_16 : decode cX1_doSet 16 = .ok (.iaload, 1) := by decide +kernel
theorem dX1_doSet_17 : decode cX1_doSet 17 = .ok (.istore 4, 2) := by decide +kernel
theorem dX1_doSet_19 : decode cX1_doSet 19 = .ok (.aload_n 0, 1) := by decide +kernel
theorem dX1_doSet_20 : decode cX1_doSet 20 = .ok (.getfield 16, 3) := by decide +kernel
theorem dX1_doSet_23 : decode cX1_doSet 23 = .ok (.iconst 0, 1) := by decide +kernel
theorem dX1_doSet_24 : decode cX1_doSet 24 = .ok (.aaload, 1) := by decide +kernel
theorem dX1_doSet_25 : decode cX1_doSet 25 = .ok (.iload_n 3, 1) := by decide +kernel
theorem dX1_doSet_26 : decode cX1_doSet 26 = .ok (.iaload, 1) := by decide +kernel
theorem dX1_doSet_27 : decode cX1_doSet 27 = .ok (.aload_n 0, 1) := by decide +kernel
theorem dX1_doSet_28 : decode cX1_doSet 28 = .ok (.getfield 11, 3) := by decide +kernel
theorem dX1_doSet_31 : decode cX1_doSet 31 = .ok (.iconst 2, 1) := by decide +kernel
theorem dX1_doSet_32 : decode cX1_doSet 32 = .ok (.aaload, 1) := by decide +kernel
theorem dX1_doSet_33 : decode cX1_doSet 33 = .ok (.iload_n 1, 1) := by decide +kernel
theorem dX1_doSet_34 : decode cX1_doSet 34 = .ok (.iaload, 1) := by decide +kernel
theorem dX1_doSet_35 : decode cX1_doSet 35 = .ok (.isub, 1) := by decide +kernel
theorem dX1_doSet_36 : decode cX1_doSet 36 = .ok (.invokestatic 101, 3) := by decide +kernel
theorem dX1_doSet_39 : decode cX1_doSet 39 = .ok (.istore 5, 2) := by decide +kernel
theorem dX1_doSet_41 : decode cX1_doSet 41 = .ok (.aload_n 0, 1) := by decide +kernel
theorem dX1_doSet_42 : decode cX1_doSet 42 = .ok (.getfield 39, 3) := by decide +kernel
theorem dX1_doSet_45 : decode cX1_doSet 45 = .ok (.aload_n 0, 1) := by decide +kernel
theorem dX1_doSet_46 : decode cX1_doSet 46 = .ok (.getfield 11, 3) := by decide +kernel
theorem dX1_doSet_49 : decode cX1_doSet 49 = .ok (.iconst 0, 1) := by decide +kernel
theorem dX1_doSet_50 : decode cX1_doSet 50 = .ok (.aaload, 1) := by decide +kernel
theorem dX1_doSet_51 : decode cX1_doSet 51 = .ok (.iload_n 1, 1) := by decide +kernel
theorem dX1_doSet_52 : decode cX1_doSet 52 = .ok (.iaload, 1) := by decide +kernel
theorem dX1_doSet_53 : decode cX1_doSet 53 = .ok (.aaload, 1) := by decide +kernel
theorem dX1_doSet_54 : decode cX1_doSet 54 = .ok (.aload_n 0, 1) := by decide +kernel
theorem dX1_doSet_55 : decode cX1_doSet 55 = .ok (.getfield 11, 3) := by decide +kernel
theorem dX1_doSet_58 : decode cX1_doSet 58 = .ok (.iconst 2, 1) := by decide +kernel
theorem dX1_doSet_59 : decode cX1_doSet 59 = .ok (.aaload, 1) := by decide +kernel
theorem dX1_doSet_60 : decode cX1_doSet 60 = .ok (.iload_n 1, 1) := by decide +kernel
theorem dX1_doSet_61 : decode cX1_doSet 61 = .ok (.iaload, 1) := by decide +kernel
theorem dX1_doSet_62 : decode cX1_doSet 62 = .ok (.aload_n 0, 1) := by decide +kernel
theorem dX1_doSet_63 : decode cX1_doSet 63 = .ok (.getfield 60, 3) := by decide +kernel
theorem dX1_doSet_66 : decode cX1_doSet 66 = .ok (.invokevirtual 72, 3) := by decide +kernel
theorem dX1_doSet_69 : decode cX1_doSet 69 = .ok (.istore 6, 2) := by decide +kernel
theorem dX1_doSet_71 : decode cX1_doSet 71 = .ok (.iconst 0, 1) := by decide +kernel
theorem dX1_doSet_72 : decode cX1_doSet 72 = .ok (.iload 6, 2) := by decide +kernel
theorem dX1_doSet_74 : decode cX1_doSet 74 = .ok (.aload_n 0, 1) := by decide +kernel
theorem dX1_doSet_75 : decode cX1_doSet 75 = .ok (.getfield 19, 3) := by decide +kernel
theorem dX1_doSet_78 : decode cX1_doSet 78 = .ok (.iload 4, 2) := by decide +kernel
theorem dX1_doSet_80 : decode cX1_doSet 80 = .ok (.iaload, 1) := by decide +kernel
theorem dX1_doSet_81 : decode cX1_doSet 81 = .ok (.isub, 1) := by decide +kernel
theorem dX1_doSet_82 : decode cX1_doSet 82 = .ok (.iload 5, 2) := by decide +kernel
theorem dX1_doSet_84 : decode cX1_doSet 84 = .ok (.iconst 3, 1) := by decide +kernel
theorem dX1_doSet_85 : decode cX1_doSet 85 = .ok (.idiv, 1) := by decide +kernel
theorem dX1_doSet_86 : decode cX1_doSet 86 = .ok (.isub, 1) := by decide +kernel
theorem dX1_doSet_87 : decode cX1_doSet 87 = .ok (.invokestatic 106, 3) := by decide +kernel
theorem dX1_doSet_90 : decode cX1_doSet 90 = .ok (.istore 7, 2) := by decide +kernel
theorem dX1_doSet_92 : decode cX1_doSet 92 = .ok (.aload_n 0, 1) := by decide +kernel
theorem dX1_doSet_93 : decode cX1_doSet 93 = .ok (.getfield 19, 3) := by decide +kernel
theorem dX1_doSet_96 : decode cX1_doSet 96 = .ok (.iload 4, 2) := by decide +kernel
theorem dX1_doSet_98 : decode cX1_doSet 98 = .ok (.bipush 9, 2) := by decide +kernel
theorem dX1_doSet_100 : decode cX1_doSet 100 = .ok (.aload_n 0, 1) := by decide +kernel
theorem dX1_doSet_101 : decode cX1_doSet 101 = .ok (.getfield 19, 3) := by decide +kernel
theorem dX1_doSet_104 : decode cX1_doSet 104 = .ok (.iload 4, 2) := by decide +kernel
theorem dX1_doSet_106 : decode cX1_doSet 106 = .ok (.iaload, 1) := by decide +kernel
theorem dX1_doSet_107 : decode cX1_doSet 107 = .ok (.iload_n 2, 1) := by decide +kernel
theorem dX1_doSet_108 : decode cX1_doSet 108 = .ok (.ifCond .eq 7, 3) := by decide +kernel
theorem dX1_doSet_111 : decode cX1_doSet 111 = .ok (.iconst 1, 1) := by decide +kernel
theorem dX1_doSet_112 : decode cX1_doSet 112 = .ok (.goto 8, 3) := by decide +kernel
theorem dX1_doSet_115 : decode cX1_doSet 115 = .ok (.aload_n 0, 1) := by decide +kernel
theorem dX1_doSet_116 : decode cX1_doSet 116 = .ok (.iload_n 1, 1) := by decide +kernel
theorem dX1_doSet_117 : decode cX1_doSet 117 = .ok (.invokevirtual 109, 3) := by decide +kernel
theorem dX1_doSet_120 : decode cX1_doSet 120 = .ok (.iadd, 1) := by decide +kernel
theorem dX1_doSet_121 : decode cX1_doSet 121 = .ok (.invokestatic 111, 3) := by decide +kernel
theorem dX1_doSet_124 : decode cX1_doSet 124 = .ok (.iastore, 1) := by decide +kernel
theorem dX1_doSet_125 : decode cX1_doSet 125 = .ok (.aload_n 0, 1) := by decide +kernel
theorem dX1_doSet_126 : decode cX1_doSet 126 = .ok (.getfield 11, 3) := by decide +kernel
theorem dX1_doSet_129 : decode cX1_doSet 129 = .ok (.iconst 4, 1) := by decide +kernel
theorem dX1_doSet_130 : decode cX1_doSet 130 = .ok (.aaload, 1) := by decide +kernel
theorem dX1_doSet_131 : decode cX1_doSet 131 = .ok (.iload_n 1, 1) := by decide +kernel
theorem dX1_doSet_132 : decode cX1_doSet 132 = .ok (.dup2, 1) := by decide +kernel
theorem dX1_doSet_133 : decode cX1_doSet 133 = .ok (.iaload, 1) := by decide +kernel
theorem dX1_doSet_134 : decode cX1_doSet 134 = .ok (.iconst 1, 1) := by decide +kernel
theorem dX1_doSet_135 : decode cX1_doSet 135 = .ok (.isub, 1) := by decide +kernel
theorem dX1_doSet_136 : decode cX1_doSet 136 = .ok (.iastore, 1) := by decide +kernel
theorem dX1_doSet_137 : decode cX1_doSet 137 = .ok (.aload_n 0, 1) := by decide +kernel
theorem dX1_doSet_138 : decode cX1_doSet 138 = .ok (.getfield 16, 3) := by decide +kernel
theorem dX1_doSet_141 : decode cX1_doSet 141 = .ok (.iconst 0, 1) := by decide +kernel
theorem dX1_doSet_142 : decode cX1_doSet 142 = .ok (.aaload, 1) := by decide +kernel
theorem dX1_doSet_143 : decode cX1_doSet 143 = .ok (.iload_n 3, 1) := by decide +kernel
theorem dX1_doSet_144 : decode cX1_doSet 144 = .ok (.aload_n 0, 1) := by decide +kernel
theorem dX1_doSet_145 : decode cX1_doSet 145 = .ok (.getfield 11, 3) := by decide +kernel
theorem dX1_doSet_148 : decode cX1_doSet 148 = .ok (.iconst 2, 1) := by decide +kernel
theorem dX1_doSet_149 : decode cX1_doSet 149 = .ok (.aaload, 1) := by decide +kernel
theorem dX1_doSet_150 : decode cX1_doSet 150 = .ok (.iload_n 1, 1) := by decide +kernel
theorem dX1_doSet_151 : decode cX1_doSet 151 = .ok (.iaload, 1) := by decide +kernel
theorem dX1_doSet_152 : decode cX1_doSet 152 = .ok (.iastore, 1) := by decide +kernel
theorem dX1_doSet_153 : decode cX1_doSet 153 = .ok (.aload_n 0, 1) := by decide +kernel
theorem dX1_doSet_154 : decode cX1_doSet 154 = .ok (.iload_n 1, 1) := by decide +kernel
theorem dX1_doSet_155 : decode cX1_doSet 155 = .ok (.putfield 30, 3) := by decide +kernel
theorem dX1_doSet_158 : decode cX1_doSet 158 = .ok (.iload_n 2, 1) := by decide +kernel
theorem dX1_doSet_159 : decode cX1_doSet 159 = .ok (.ifCond .eq 10, 3) := by decide +kernel
theorem dX1_doSet_162 : decode cX1_doSet 162 = .ok (.iload 7, 2) := by decide +kernel
theorem dX1_doSet_164 : decode cX1_doSet 164 = .ok (.iconst 2, 1) := by decide +kernel
theorem dX1_doSet_165 : decode cX1_doSet 165 = .ok (.idiv, 1) := by decide +kernel
theorem dX1_doSet_166 : decode cX1_doSet 166 = .ok (.goto 5, 3) := by decide +kernel
theorem dX1_doSet_169 : decode cX1_doSet 169 = .ok (.iload 7, 2) := by decide +kernel
theorem dX1_doSet_171 : decode cX1_doSet 171 = .ok (.ireturn, 1) := by decide +kernel
theorem dX1_restAct_0 : decode cX1_restAct 0 = .ok (.iconst 0, 1) := by decide +kernel
theorem dX1_restAct_1 : decode cX1_restAct 1 = .ok (.istore_n 1, 1) := by decide +kernel
theorem dX1_restAct_2 : decode cX1_restAct 2 = .ok (.iload_n 1, 1) := by decide +kernel
theorem dX1_restAct_3 : decode cX1_restAct 3 = .ok (.aload_n 0, 1) := by decide +kernel
theorem dX1_restAct_4 : decode cX1_restAct 4 = .ok (.getfield 53, 3) := by decide +kernel
theorem dX1_restAct_7 : decode cX1_restAct 7 = .ok (.if_icmp .ge 36, 3) := by decide +kernel
theorem dX1_restAct_10 : decode cX1_restAct 10 = .ok (.aload_n 0, 1) := by decide +kernel
theorem dX1_restAct_11 : decode cX1_restAct 11 = .ok (.getfield 11, 3) := by decide +kernel
theorem dX1_restAct_14 : decode cX1_restAct 14 = .ok (.iconst 4, 1) := by decide +kernel
theorem dX1_restAct_15 : decode cX1_restAct 15 = .ok (.aaload, 1) := by decide +kernel
theorem dX1_restAct_16 : decode cX1_restAct 16 = .ok (.iload_n 1, 1) := by decide +kernel
theorem dX1_restAct_17 : decode cX1_restAct 17 = .ok (.iaload, 1) := by decide +kernel
theorem dX1_restAct_18 : decode cX1_restAct 18 = .ok (.ifCond .le 19, 3) := by decide +kernel
theorem dX1_restAct_21 : decode cX1_restAct 21 = .ok (.aload_n 0, 1) := by decide +kernel
theorem dX1_restAct_22 : decode cX1_restAct 22 = .ok (.iload_n 1, 1) := by decide +kernel
theorem dX1_restAct_23 : decode cX1_restAct 23 = .ok (.aload_n 0, 1) := by decide +kernel
theorem dX1_restAct_24 : decode cX1_restAct 24 = .ok (.getfield 60, 3) := by decide +kernel
theorem dX1_restAct_27 : decode cX1_restAct 27 = .ok (.invokevirtual 90, 3) := by decide +kernel
theorem dX1_restAct_30 : decode cX1_restAct 30 = .ok (.ifCond .eq 7, 3) := by decide +kernel
theorem dX1_restAct_33 : decode cX1_restAct 33 = .ok (.iload_n 1, 1) := by decide +kernel
theorem dX1_restAct_34 : decode cX1_restAct 34 = .ok (.iconst 1, 1) := by decide +kernel
theorem dX1_restAct_35 : decode cX1_restAct 35 = .ok (.iadd, 1) := by decide +kernel
theorem dX1_restAct_36 : decode cX1_restAct 36 = .ok (.ireturn, 1) := by decide +kernel
theorem dX1_restAct_37 : decode cX1_restAct 37 = .ok (.iinc 1 1, 3) := by decide +kernel
theorem dX1_restAct_40 : decode cX1_restAct 40 = .ok (.goto (-38), 3) := by decide +kernel
theorem dX1_restAct_43 : decode cX1_restAct 43 = .ok (.iconst 0, 1) := by decide +kernel
theorem dX1_restAct_44 : decode cX1_restAct 44 = .ok (.ireturn, 1) := by decide +kernel
theorem dX1_goRest_0 : decode cX1_goRest 0 = .ok (.iconst 0, 1) := by decide +kernel
theorem dX1_goRest_1 : decode cX1_goRest 1 = .ok (.istore_n 2, 1) := by decide +kernel
theorem dX1_goRest_2 : decode cX1_goRest 2 = .ok (.iconst 0, 1) := by decide +kernel
theorem dX1_goRest_3 : decode cX1_goRest 3 = .ok (.istore_n 3, 1) := by decide +kernel
theorem dX1_goRest_4 : decode cX1_goRest 4 = .ok (.iload_n 3, 1) := by decide +kernel
theorem dX1_goRest_5 : decode cX1_goRest 5 = .ok (.iload_n 1, 1) := by decide +kernel
theorem dX1_goRest_6 : decode cX1_goRest 6 = .ok (.if_icmp .ge 27, 3) := by decide +kernel
theorem dX1_goRest_9 : decode cX1_goRest 9 = .ok (.aload_n 0, 1) := by decide +kernel
theorem dX1_goRest_10 : decode cX1_goRest 10 = .ok (.invokevirtual 114, 3) := by decide +kernel
theorem dX1_goRest_13 : decode cX1_goRest 13 = .ok (.ifCond .ne 20, 3) := by decide +kernel
theorem dX1_goRest_16 : decode cX1_goRest 16 = .ok (.iload_n 2, 1) := by decide +kernel
theorem dX1_goRest_17 : decode cX1_goRest 17 = .ok (.aload_n 0, 1) := by decide +kernel
theorem dX1_goRest_18 : decode cX1_goRest 18 = .ok (.aload_n 0, 1) := by decide +kernel
theorem dX1_goRest_19 : decode cX1_goRest 19 = .ok (.invokevirtual 118, 3) := by decide +kernel
theorem dX1_goRest_22 : decode cX1_goRest 22 = .ok (.invokevirtual 121, 3) := by decide +kernel
theorem dX1_goRest_25 : decode cX1_goRest 25 = .ok (.iadd, 1) := by decide +kernel
theorem dX1_goRest_26 : decode cX1_goRest 26 = .ok (.istore_n 2, 1) := by decide +kernel
theorem dX1_goRest_27 : decode cX1_goRest 27 = .ok (.iinc 3 1, 3) := by decide +kernel
theorem dX1_goRest_30 : decode cX1_goRest 30 = .ok (.goto (-26), 3) := by decide +kernel
theorem dX1_goRest_33 : decode cX1_goRest 33 = .ok (.iload_n 2, 1) := by decide +kernel
theorem dX1_goRest_34 : decode cX1_goRest 34 = .ok (.ireturn, 1) := by decide +kernel
theorem dX1_drawAct_0 : decode cX1_drawAct 0 = .ok (.aload_n 0, 1) := by decide +kernel
theorem dX1_drawAct_1 : decode cX1_drawAct 1 = .ok (.aload_n 0, 1) := by decide +kernel
theorem dX1_drawAct_2 : decode cX1_drawAct 2 = .ok (.getfield 27, 3) := by decide +kernel
theorem dX1_drawAct_5 : decode cX1_drawAct 5 = .ok (.ldc 124, 2) := by decide +kernel
theorem dX1_drawAct_7 : decode cX1_drawAct 7 = .ok (.imul, 1) := by decide +kernel
theorem dX1_drawAct_8 : decode cX1_drawAct 8 = .ok (.sipush 12345, 3) := by decide +kernel
theorem dX1_drawAct_11 : decode cX1_drawAct 11 = .ok (.iadd, 1) := by decide +kernel
theorem dX1_drawAct_12 : decode cX1_drawAct 12 = .ok (.putfield 27, 3) := by decide +kernel
theorem dX1_drawAct_15 : decode cX1_drawAct 15 = .ok (.aload_n 0, 1) := by decide +kernel
theorem dX1_drawAct_16 : decode cX1_drawAct 16 = .ok (.getfield 27, 3) := by decide +kernel
theorem dX1_drawAct_19 : decode cX1_drawAct 19 = .ok (.bipush 16, 2) := by decide +kernel
theorem dX1_drawAct_21 : decode cX1_drawAct 21 = .ok (.iushr, 1) := by decide +kernel
theorem dX1_drawAct_22 : decode cX1_drawAct 22 = .ok (.aload_n 0, 1) := by decide +kernel
theorem dX1_drawAct_23 : decode cX1_drawAct 23 = .ok (.getfield 53, 3) := by decide +kernel
theorem dX1_drawAct_26 : decode cX1_drawAct 26 = .ok (.iconst 1, 1) := by decide +kernel
theorem dX1_drawAct_27 : decode cX1_drawAct 27 = .ok (.iadd, 1) := by decide +kernel
theorem dX1_drawAct_28 : decode cX1_drawAct 28 = .ok (.irem, 1) := by decide +kernel
theorem dX1_drawAct_29 : decode cX1_drawAct 29 = .ok (.ireturn, 1) := by decide +kernel
theorem dX1_goByLot_0 : decode cX1_goByLot 0 = .ok (.iconst 0, 1) := by decide +kernel
theorem dX1_goByLot_1 : decode cX1_goByLot 1 = .ok (.istore_n 1, 1) := by decide +kernel
theorem dX1_goByLot_2 : decode cX1_goByLot 2 = .ok (.iconst 0, 1) := by decide +kernel
theorem dX1_goByLot_3 : decode cX1_goByLot 3 = .ok (.istore_n 2, 1) := by decide +kernel
theorem dX1_goByLot_4 : decode cX1_goByLot 4 = .ok (.iload_n 2, 1) := by decide +kernel
theorem dX1_goByLot_5 : decode cX1_goByLot 5 = .ok (.bipush 16, 2) := by decide +kernel
theorem dX1_goByLot_7 : decode cX1_goByLot 7 = .ok (.if_icmp .ge 27, 3) := by decide +kernel
theorem dX1_goByLot_10 : decode cX1_goByLot 10 = .ok (.aload_n 0, 1) := by decide +kernel
theorem dX1_goByLot_11 : decode cX1_goByLot 11 = .ok (.invokevirtual 114, 3) := by decide +kernel
theorem dX1_goByLot_14 : decode cX1_goByLot 14 = .ok (.ifCond .ne 20, 3) := by decide +kernel
theorem dX1_goByLot_17 : decode cX1_goByLot 17 = .ok (.iload_n 1, 1) := by decide +kernel
theorem dX1_goByLot_18 : decode cX1_goByLot 18 = .ok (.aload_n 0, 1) := by decide +kernel
theorem dX1_goByLot_19 : decode cX1_goByLot 19 = .ok (.aload_n 0, 1) := by decide +kernel
theorem dX1_goByLot_20 : decode cX1_goByLot 20 = .ok (.invokevirtual 125, 3) := by decide +kernel
theorem dX1_goByLot_23 : decode cX1_goByLot 23 = .ok (.invokevirtual 121, 3) := by decide +kernel
theorem dX1_goByLot_26 : decode cX1_goByLot 26 = .ok (.iadd, 1) := by decide +kernel
theorem dX1_goByLot_27 : decode cX1_goByLot 27 = .ok (.istore_n 1, 1) := by decide +kernel
theorem dX1_goByLot_28 : decode cX1_goByLot 28 = .ok (.iinc 2 1, 3) := by decide +kernel
theorem dX1_goByLot_31 : decode cX1_goByLot 31 = .ok (.goto (-27), 3) := by decide +kernel
theorem dX1_goByLot_34 : decode cX1_goByLot 34 = .ok (.iload_n 1, 1) := by decide +kernel
theorem dX1_goByLot_35 : decode cX1_goByLot 35 = .ok (.ireturn, 1) := by decide +kernel
theorem dX1_takenIn_0 : decode cX1_takenIn 0 = .ok (.iconst 0, 1) := by decide +kernel
theorem dX1_takenIn_1 : decode cX1_takenIn 1 = .ok (.istore_n 2, 1) := by decide +kernel
theorem dX1_takenIn_2 : decode cX1_takenIn 2 = .ok (.iconst 0, 1) := by decide +kernel
theorem dX1_takenIn_3 : decode cX1_takenIn 3 = .ok (.istore_n 3, 1) := by decide +kernel
theorem dX1_takenIn_4 : decode cX1_takenIn 4 = .ok (.iload_n 3, 1) := by decide +kernel
theorem dX1_takenIn_5 : decode cX1_takenIn 5 = .ok (.bipush 6, 2) := by decide +kernel
theorem dX1_takenIn_7 : decode cX1_takenIn 7 = .ok (.if_icmp .ge 24, 3) := by decide +kernel
theorem dX1_takenIn_10 : decode cX1_takenIn 10 = .ok (.iload_n 2, 1) := by decide +kernel
theorem dX1_takenIn_11 : decode cX1_takenIn 11 = .ok (.aload_n 0, 1) := by decide +kernel
theorem dX1_takenIn_12 : decode cX1_takenIn 12 = .ok (.getfield 16, 3) := by decide +kernel
theorem dX1_takenIn_15 : decode cX1_takenIn 15 = .ok (.iconst 1, 1) := by decide +kernel
theorem dX1_takenIn_16 : decode cX1_takenIn 16 = .ok (.aaload, 1) := by decide +kernel
theorem dX1_takenIn_17 : decode cX1_takenIn 17 = .ok (.iload_n 3, 1) := by decide +kernel
theorem dX1_takenIn_18 : decode cX1_takenIn 18 = .ok (.iaload, 1) := by decide +kernel
theorem dX1_takenIn_19 : decode cX1_takenIn 19 = .ok (.iload_n 1, 1) := by decide +kernel
theorem dX1_takenIn_20 : decode cX1_takenIn 20 = .ok (.ishr, 1) := by decide +kernel
theorem dX1_takenIn_21 : decode cX1_takenIn 21 = .ok (.iconst 1, 1) := by decide +kernel
theorem dX1_takenIn_22 : decode cX1_takenIn 22 = .ok (.iand, 1) := by decide +kernel
theorem dX1_takenIn_23 : decode cX1_takenIn 23 = .ok (.iadd, 1) := by decide +kernel
theorem dX1_takenIn_24 : decode cX1_takenIn 24 = .ok (.istore_n 2, 1) := by decide +kernel
theorem dX1_takenIn_25 : decode cX1_takenIn 25 = .ok (.iinc 3 1, 3) := by decide +kernel
theorem dX1_takenIn_28 : decode cX1_takenIn 28 = .ok (.goto (-24), 3) := by decide +kernel
theorem dX1_takenIn_31 : decode cX1_takenIn 31 = .ok (.iload_n 2, 1) := by decide +kernel
theorem dX1_takenIn_32 : decode cX1_takenIn 32 = .ok (.ireturn, 1) := by decide +kernel
theorem dX1_gatherBy_0 : decode cX1_gatherBy 0 = .ok (.iload_n 1, 1) := by decide +kernel
theorem dX1_gatherBy_1 : decode cX1_gatherBy 1 = .ok (.ifCond .ne 8, 3) := by decide +kernel
theorem dX1_gatherBy_4 : decode cX1_gatherBy 4 = .ok (.aload_n 0, 1) := by decide +kernel
theorem dX1_gatherBy_5 : decode cX1_gatherBy 5 = .ok (.getfield 60, 3) := by decide +kernel
theorem dX1_gatherBy_8 : decode cX1_gatherBy 8 = .ok (.ireturn, 1) := by decide +kernel
theorem dX1_gatherBy_9 : decode cX1_gatherBy 9 = .ok (.aload_n 0, 1) := by decide +kernel
theorem dX1_gatherBy_10 : decode cX1_gatherBy 10 = .ok (.getfield 60, 3) := by decide +kernel
theorem dX1_gatherBy_13 : decode cX1_gatherBy 13 = .ok (.istore_n 2, 1) := by decide +kernel
theorem dX1_gatherBy_14 : decode cX1_gatherBy 14 = .ok (.iload_n 2, 1) := by decide +kernel
theorem dX1_gatherBy_15 : decode cX1_gatherBy 15 = .ok (.aload_n 0, 1) := by decide +kernel
theorem dX1_gatherBy_16 : decode cX1_gatherBy 16 = .ok (.getfield 23, 3) := by decide +kernel
theorem dX1_gatherBy_19 : decode cX1_gatherBy 19 = .ok (.if_icmp .ge 24, 3) := by decide +kernel
theorem dX1_gatherBy_22 : decode cX1_gatherBy 22 = .ok (.aload_n 0, 1) := by decide +kernel
theorem dX1_gatherBy_23 : decode cX1_gatherBy 23 = .ok (.iload_n 2, 1) := by decide +kernel
theorem dX1_gatherBy_24 : decode cX1_gatherBy 24 = .ok (.invokevirtual 128, 3) := by decide +kernel
theorem dX1_gatherBy_27 : decode cX1_gatherBy 27 = .ok (.aload_n 0, 1) := by decide +kernel
theorem dX1_gatherBy_28 : decode cX1_gatherBy 28 = .ok (.iload_n 1, 1) := by decide +kernel
theorem dX1_gatherBy_29 : decode cX1_gatherBy 29 = .ok (.invokevirtual 132, 3) := by decide +kernel
theorem dX1_gatherBy_32 : decode cX1_gatherBy 32 = .ok (.ifCond .eq 5, 3) := by decide +kernel
theorem dX1_gatherBy_35 : decode cX1_gatherBy 35 = .ok (.iload_n 2, 1) := by decide +kernel
theorem dX1_gatherBy_36 : decode cX1_gatherBy 36 = .ok (.ireturn, 1) := by decide +kernel
theorem dX1_gatherBy_37 : decode cX1_gatherBy 37 = .ok (.iinc 2 1, 3) := by decide +kernel
theorem dX1_gatherBy_40 : decode cX1_gatherBy 40 = .ok (.goto (-26), 3) := by decide +kernel
theorem dX1_gatherBy_43 : decode cX1_gatherBy 43 = .ok (.bipush (-3), 2) := by decide +kernel
theorem dX1_gatherBy_45 : decode cX1_gatherBy 45 = .ok (.ireturn, 1) := by decide +kernel
theorem dX1_openUntil_0 : decode cX1_openUntil 0 = .ok (.iconst 0, 1) := by decide +kernel
theorem dX1_openUntil_1 : decode cX1_openUntil 1 = .ok (.istore_n 2, 1) := by decide +kernel
theorem dX1_openUntil_2 : decode cX1_openUntil 2 = .ok (.iload_n 2, 1) := by decide +kernel
theorem dX1_openUntil_3 : decode cX1_openUntil 3 = .ok (.aload_n 0, 1) := by decide +kernel
theorem dX1_openUntil_4 : decode cX1_openUntil 4 = .ok (.getfield 53, 3) := by decide +kernel
theorem dX1_openUntil_7 : decode cX1_openUntil 7 = .ok (.if_icmp .ge 53, 3) := by decide +kernel
theorem dX1_openUntil_10 : decode cX1_openUntil 10 = .ok (.aload_n 0, 1) := by decide +kernel
theorem dX1_openUntil_11 : decode cX1_openUntil 11 = .ok (.getfield 36, 3) := by decide +kernel
theorem dX1_openUntil_14 : decode cX1_openUntil 14 = .ok (.iload_n 2, 1) := by decide +kernel
theorem dX1_openUntil_15 : decode cX1_openUntil 15 = .ok (.iconst 0, 1) := by decide +kernel
theorem dX1_openUntil_16 : decode cX1_openUntil 16 = .ok (.iastore, 1) := by decide +kernel
theorem dX1_openUntil_17 : decode cX1_openUntil 17 = .ok (.aload_n 0, 1) := by decide +kernel
theorem dX1_openUntil_18 : decode cX1_openUntil 18 = .ok (.getfield 60, 3) := by decide +kernel
theorem dX1_openUntil_21 : decode cX1_openUntil 21 = .ok (.istore_n 3, 1) := by decide +kernel
theorem dX1_openUntil_22 : decode cX1_openUntil 22 = .ok (.iload_n 3, 1) := by decide +kernel
theorem dX1_openUntil_23 : decode cX1_openUntil 23 = .ok (.iload_n 1, 1) := by decide +kernel
theorem dX1_openUntil_24 : decode cX1_openUntil 24 = .ok (.if_icmp .gt 30, 3) := by decide +kernel
theorem dX1_openUntil_27 : decode cX1_openUntil 27 = .ok (.aload_n 0, 1) := by decide +kernel
theorem dX1_openUntil_28 : decode cX1_openUntil 28 = .ok (.iload_n 2, 1) := by decide +kernel
theorem dX1_openUntil_29 : decode cX1_openUntil 29 = .ok (.iload_n 3, 1) := by decide +kernel
theorem dX1_openUntil_30 : decode cX1_openUntil 30 = .ok (.invokevirtual 90, 3) := by decide +kernel
theorem dX1_openUntil_33 : decode cX1_openUntil 33 = .ok (.ifCond .eq 15, 3) := by decide +kernel
theorem dX1_openUntil_36 : decode cX1_openUntil 36 = .ok (.aload_n 0, 1) := by decide +kernel
theorem dX1_openUntil_37 : decode cX1_openUntil 37 = .ok (.getfield 36, 3) := by decide +kernel
theorem dX1_openUntil_40 : decode cX1_openUntil 40 = .ok (.iload_n 2, 1) := by decide +kernel
theorem dX1_openUntil_41 : decode cX1_openUntil 41 = .ok (.dup2, 1) := by decide +kernel
theorem dX1_openUntil_42 : decode cX1_openUntil 42 = .ok (.iaload, 1) := by decide +kernel
theorem dX1_openUntil_43 : decode cX1_openUntil 43 = .ok (.iconst 1, 1) := by decide +kernel
theorem dX1_openUntil_44 : decode cX1_openUntil 44 = .ok (.iload_n 3, 1) := by decide +kernel
theorem dX1_openUntil_45 : decode cX1_openUntil 45 = .ok (.ishl, 1) := by decide +kernel
theorem dX1_openUntil_46 : decode cX1_openUntil 46 = .ok (.ior, 1) := by decide +kernel
theorem dX1_openUntil_47 : decode cX1_openUntil 47 = .ok (.iastore, 1) := by decide +kernel
theorem dX1_openUntil_48 : decode cX1_openUntil 48 = .ok (.iinc 3 1, 3) := by decide +kernel
theorem dX1_openUntil_51 : decode cX1_openUntil 51 = .ok (.goto (-29), 3) := by decide +kernel
theorem dX1_openUntil_54 : decode cX1_openUntil 54 = .ok (.iinc 2 1, 3) := by decide +kernel
theorem dX1_openUntil_57 : decode cX1_openUntil 57 = .ok (.goto (-55), 3) := by decide +kernel
theorem dX1_openUntil_60 : decode cX1_openUntil 60 = .ok (.return_, 1) := by decide +kernel
theorem dX1_eachHasOne_0 : decode cX1_eachHasOne 0 = .ok (.iconst 1, 1) := by decide +kernel
theorem dX1_eachHasOne_1 : decode cX1_eachHasOne 1 = .ok (.istore_n 2, 1) := by decide +kernel
theorem dX1_eachHasOne_2 : decode cX1_eachHasOne 2 = .ok (.iload_n 2, 1) := by decide +kernel
theorem dX1_eachHasOne_3 : decode cX1_eachHasOne 3 = .ok (.iload_n 1, 1) := by decide +kernel
theorem dX1_eachHasOne_4 : decode cX1_eachHasOne 4 = .ok (.if_icmp .gt 34, 3) := by decide +kernel
theorem dX1_eachHasOne_7 : decode cX1_eachHasOne 7 = .ok (.iload_n 2, 1) := by decide +kernel
theorem dX1_eachHasOne_8 : decode cX1_eachHasOne 8 = .ok (.iload_n 1, 1) := by decide +kernel
theorem dX1_eachHasOne_9 : decode cX1_eachHasOne 9 = .ok (.iconst (-1), 1) := by decide +kernel
theorem dX1_eachHasOne_10 : decode cX1_eachHasOne 10 = .ok (.ixor, 1) := by decide +kernel
theorem dX1_eachHasOne_11 : decode cX1_eachHasOne 11 = .ok (.iand, 1) := by decide +kernel
theorem dX1_eachHasOne_12 : decode cX1_eachHasOne 12 = .ok (.ifCond .ne 20, 3) := by decide +kernel
theorem dX1_eachHasOne_15 : decode cX1_eachHasOne 15 = .ok (.aload_n 0, 1) := by decide +kernel
theorem dX1_eachHasOne_16 : decode cX1_eachHasOne 16 = .ok (.iload_n 2, 1) := by decide +kernel
theorem dX1_eachHasOne_17 : decode cX1_eachHasOne 17 = .ok (.invokevirtual 135, 3) := by decide +kernel
theorem dX1_eachHasOne_20 : decode cX1_eachHasOne 20 = .ok (.invokestatic 138, 3) := by decide +kernel
theorem dX1_eachHasOne_23 : decode cX1_eachHasOne 23 = .ok (.iload_n 2, 1) := by decide +kernel
theorem dX1_eachHasOne_24 : decode cX1_eachHasOne 24 = .ok (.invokestatic 138, 3) := by decide +kernel
theorem dX1_eachHasOne_27 : decode cX1_eachHasOne 27 = .ok (.if_icmp .ge 5, 3) := by decide +kernel
theorem dX1_eachHasOne_30 : decode cX1_eachHasOne 30 = .ok (.iconst 0, 1) := by decide +kernel
theorem dX1_eachHasOne_31 : decode cX1_eachHasOne 31 = .ok (.ireturn, 1) := by decide +kernel
theorem dX1_eachHasOne_32 : decode cX1_eachHasOne 32 = .ok (.iinc 2 1, 3) := by decide +kernel
theorem dX1_eachHasOne_35 : decode cX1_eachHasOne 35 = .ok (.goto (-33), 3) := by decide +kernel
theorem dX1_eachHasOne_38 : decode cX1_eachHasOne 38 = .ok (.iconst 1, 1) := by decide +kernel
theorem dX1_eachHasOne_39 : decode cX1_eachHasOne 39 = .ok (.ireturn, 1) := by decide +kernel
theorem dX1_openFor_0 : decode cX1_openFor 0 = .ok (.iconst 0, 1) := by decide +kernel
theorem dX1_openFor_1 : decode cX1_openFor 1 = .ok (.istore_n 2, 1) := by decide +kernel
theorem dX1_openFor_2 : decode cX1_openFor 2 = .ok (.iconst 0, 1) := by decide +kernel
theorem dX1_openFor_3 : decode cX1_openFor 3 = .ok (.istore_n 3, 1) := by decide +kernel
theorem dX1_openFor_4 : decode cX1_openFor 4 = .ok (.iload_n 3, 1) := by decide +kernel
theorem dX1_openFor_5 : decode cX1_openFor 5 = .ok (.aload_n 0, 1) := by decide +kernel
theorem dX1_openFor_6 : decode cX1_openFor 6 = .ok (.getfield 53, 3) := by decide +kernel
theorem dX1_openFor_9 : decode cX1_openFor 9 = .ok (.if_icmp .ge 27, 3) := by decide +kernel
theorem dX1_openFor_12 : decode cX1_openFor 12 = .ok (.iload_n 1, 1) := by decide +kernel
theorem dX1_openFor_13 : decode cX1_openFor 13 = .ok (.iload_n 3, 1) := by decide +kernel
theorem dX1_openFor_14 : decode cX1_openFor 14 = .ok (.ishr, 1) := by decide +kernel
theorem dX1_openFor_15 : decode cX1_openFor 15 = .ok (.iconst 1, 1) := by decide +kernel
theorem dX1_openFor_16 : decode cX1_openFor 16 = .ok (.iand, 1) := by decide +kernel
theorem dX1_openFor_17 : decode cX1_openFor 17 = .ok (.iconst 1, 1) := by decide +kernel
theorem dX1_openFor_18 : decode cX1_openFor 18 = .ok (.if_icmp .ne 12, 3) := by decide +kernel
theorem dX1_openFor_21 : decode cX1_openFor 21 = .ok (.iload_n 2, 1) := by decide +kernel
theorem dX1_openFor_22 : decode cX1_openFor 22 = .ok (.aload_n 0, 1) := by decide +kernel
theorem dX1_openFor_23 : decode cX1_openFor 23 = .ok (.getfield 36, 3) := by decide +kernel
theorem dX1_openFor_26 : decode cX1_openFor 26 = .ok (.iload_n 3, 1) := by decide +kernel
theorem dX1_openFor_27 : decode cX1_openFor 27 = .ok (.iaload, 1) := by decide +kernel
theorem dX1_openFor_28 : decode cX1_openFor 28 = .ok (.ior, 1) := by decide +kernel
theorem dX1_openFor_29 : decode cX1_openFor 29 = .ok (.istore_n 2, 1) := by decide +kernel
theorem dX1_openFor_30 : decode cX1_openFor 30 = .ok (.iinc 3 1, 3) := by decide +kernel
theorem dX1_openFor_33 : decode cX1_openFor 33 = .ok (.goto (-29), 3) := by decide +kernel
theorem dX1_openFor_36 : decode cX1_openFor 36 = .ok (.iload_n 2, 1) := by decide +kernel
theorem dX1_openFor_37 : decode cX1_openFor 37 = .ok (.ireturn, 1) := by decide +kernel
theorem dX1_firstRow_0 : decode cX1_firstRow 0 = .ok (.aload_n 0, 1) := by decide +kernel
theorem dX1_firstRow_1 : decode cX1_firstRow 1 = .ok (.iload_n 2, 1) := by decide +kernel
theorem dX1_firstRow_2 : decode cX1_firstRow 2 = .ok (.invokevirtual 128, 3) := by decide +kernel
theorem dX1_firstRow_5 : decode cX1_firstRow 5 = .ok (.iconst 0, 1) := by decide +kernel
theorem dX1_firstRow_6 : decode cX1_firstRow 6 = .ok (.istore 4, 2) := by decide +kernel
theorem dX1_firstRow_8 : decode cX1_firstRow 8 = .ok (.iload 4, 2) := by decide +kernel
theorem dX1_firstRow_10 : decode cX1_firstRow 10 = .ok (.iload_n 3, 1) := by decide +kernel
theorem dX1_firstRow_11 : decode cX1_firstRow 11 = .ok (.if_icmp .gt 26, 3) := by decide +kernel
theorem dX1_firstRow_14 : decode cX1_firstRow 14 = .ok (.iload_n 1, 1) := by decide +kernel
theorem dX1_firstRow_15 : decode cX1_firstRow 15 = .ok (.iload 4, 2) := by decide +kernel
theorem dX1_firstRow_17 : decode cX1_firstRow 17 = .ok (.ishr, 1) := by decide +kernel
theorem dX1_firstRow_18 : decode cX1_firstRow 18 = .ok (.iconst 1, 1) := by decide +kernel
theorem dX1_firstRow_19 : decode cX1_firstRow 19 = .ok (.iand, 1) := by decide +kernel
theorem dX1_firstRow_20 : decode cX1_firstRow 20 = .ok (.iconst 1, 1) := by decide +kernel
theorem dX1_firstRow_21 : decode cX1_firstRow 21 = .ok (.if_icmp .ne 10, 3) := by decide +kernel
theorem dX1_firstRow_24 : decode cX1_firstRow 24 = .ok (.aload_n 0, 1) := by decide +kernel
theorem dX1_firstRow_25 : decode cX1_firstRow 25 = .ok (.iload_n 1, 1) := by decide +kernel
theorem dX1_firstRow_26 : decode cX1_firstRow 26 = .ok (.iload 4, 2) := by decide +kernel
theorem dX1_firstRow_28 : decode cX1_firstRow 28 = .ok (.invokevirtual 143, 3) := by decide +kernel
theorem dX1_firstRow_31 : decode cX1_firstRow 31 = .ok (.iinc 4 1, 3) := by decide +kernel
theorem dX1_firstRow_34 : decode cX1_firstRow 34 = .ok (.goto (-26), 3) := by decide +kernel
theorem dX1_firstRow_37 : decode cX1_firstRow 37 = .ok (.aload_n 0, 1) := by decide +kernel
theorem dX1_firstRow_38 : decode cX1_firstRow 38 = .ok (.getfield 36, 3) := by decide +kernel
theorem dX1_firstRow_41 : decode cX1_firstRow 41 = .ok (.iload_n 3, 1) := by decide +kernel
theorem dX1_firstRow_42 : decode cX1_firstRow 42 = .ok (.iaload, 1) := by decide +kernel
theorem dX1_firstRow_43 : decode cX1_firstRow 43 = .ok (.invokestatic 147, 3) := by decide +kernel
theorem dX1_firstRow_46 : decode cX1_firstRow 46 = .ok (.ireturn, 1) := by decide +kernel
theorem dX1_settle_0 : decode cX1_settle 0 = .ok (.aload_n 0, 1) := by decide +kernel
theorem dX1_settle_1 : decode cX1_settle 1 = .ok (.getfield 36, 3) := by decide +kernel
theorem dX1_settle_4 : decode cX1_settle 4 = .ok (.iload_n 2, 1) := by decide +kernel
theorem dX1_settle_5 : decode cX1_settle 5 = .ok (.iaload, 1) := by decide +kernel
theorem dX1_settle_6 : decode cX1_settle 6 = .ok (.istore_n 3, 1) := by decide +kernel
theorem dX1_settle_7 : decode cX1_settle 7 = .ok (.aload_n 0, 1) := by decide +kernel
theorem dX1_settle_8 : decode cX1_settle 8 = .ok (.getfield 60, 3) := by decide +kernel
theorem dX1_settle_11 : decode cX1_settle 11 = .ok (.istore 4, 2) := by decide +kernel
theorem dX1_settle_13 : decode cX1_settle 13 = .ok (.iload 4, 2) := by decide +kernel
theorem dX1_settle_15 : decode cX1_settle 15 = .ok (.aload_n 0, 1) := by decide +kernel
theorem dX1_settle_16 : decode cX1_settle 16 = .ok (.getfield 23, 3) := by decide +kernel
theorem dX1_settle_19 : decode cX1_settle 19 = .ok (.if_icmp .ge 38, 3) := by decide +kernel
theorem dX1_settle_22 : decode cX1_settle 22 = .ok (.aload_n 0, 1) := by decide +kernel
theorem dX1_settle_23 : decode cX1_settle 23 = .ok (.getfield 36, 3) := by decide +kernel
theorem dX1_settle_26 : decode cX1_settle 26 = .ok (.iload_n 2, 1) := by decide +kernel
theorem dX1_settle_27 : decode cX1_settle 27 = .ok (.iconst 1, 1) := by decide +kernel
theorem dX1_settle_28 : decode cX1_settle 28 = .ok (.iload 4, 2) := by decide +kernel
theorem dX1_settle_30 : decode cX1_settle 30 = .ok (.ishl, 1) := by decide +kernel
theorem dX1_settle_31 : decode cX1_settle 31 = .ok (.iastore, 1) := by decide +kernel
theorem dX1_settle_32 : decode cX1_settle 32 = .ok (.iload_n 3, 1) := by decide +kernel
theorem dX1_settle_33 : decode cX1_settle 33 = .ok (.iload 4, 2) := by decide +kernel
theorem dX1_settle_35 : decode cX1_settle 35 = .ok (.ishr, 1) := by decide +kernel
theorem dX1_settle_36 : decode cX1_settle 36 = .ok (.iconst 1, 1) := by decide +kernel
theorem dX1_settle_37 : decode cX1_settle 37 = .ok (.iand, 1) := by decide +kernel
theorem dX1_settle_38 : decode cX1_settle 38 = .ok (.iconst 1, 1) := by decide +kernel
theorem dX1_settle_39 : decode cX1_settle 39 = .ok (.if_icmp .ne 12, 3) := by decide +kernel
theorem dX1_settle_42 : decode cX1_settle 42 = .ok (.aload_n 0, 1) := by decide +kernel
theorem dX1_settle_43 : decode cX1_settle 43 = .ok (.iload_n 1, 1) := by decide +kernel
theorem dX1_settle_44 : decode cX1_settle 44 = .ok (.invokevirtual 132, 3) := by decide +kernel
theorem dX1_settle_47 : decode cX1_settle 47 = .ok (.ifCond .eq 4, 3) := by decide +kernel
theorem dX1_settle_50 : decode cX1_settle 50 = .ok (.return_, 1) := by decide +kernel
theorem dX1_settle_51 : decode cX1_settle 51 = .ok (.iinc 4 1, 3) := by decide +kernel
theorem dX1_settle_54 : decode cX1_settle 54 = .ok (.goto (-41), 3) := by decide +kernel
theorem dX1_settle_57 : decode cX1_settle 57 = .ok (.return_, 1) := by decide +kernel
theorem dX2_init_0 : decode cX2_init 0 = .ok (.aload_n 0, 1) := by decide +kernel
theorem dX2_init_1 : decode cX2_init 1 = .ok (.invokespecial 1, 3) := by decide +kernel
theorem dX2_init_4 : decode cX2_init 4 = .ok (.return_, 1) := by decide +kernel
theorem dX2_may_0 : decode cX2_may 0 = .ok (.aload_n 0, 1) := by decide +kernel
theorem dX2_may_1 : decode cX2_may 1 = .ok (.iload_n 1, 1) := by decide +kernel
theorem dX2_may_2 : decode cX2_may 2 = .ok (.iload_n 2, 1) := by decide +kernel
theorem dX2_may_3 : decode cX2_may 3 = .ok (.invokespecial 7, 3) := by decide +kernel
theorem dX2_may_6 : decode cX2_may 6 = .ok (.ifCond .ne 17, 3) := by decide +kernel
theorem dX2_may_9 : decode cX2_may 9 = .ok (.iload_n 2, 1) := by decide +kernel
theorem dX2_may_10 : decode cX2_may 10 = .ok (.ifCond .le 17, 3) := by decide +kernel
theorem dX2_may_13 : decode cX2_may 13 = .ok (.iload_n 1, 1) := by decide +kernel
theorem dX2_may_14 : decode cX2_may 14 = .ok (.iload_n 2, 1) := by decide +kernel
theorem dX2_may_15 : decode cX2_may 15 = .ok (.iconst 1, 1) := by decide +kernel
theorem dX2_may_16 : decode cX2_may 16 = .ok (.isub, 1) := by decide +kernel
theorem dX2_may_17 : decode cX2_may 17 = .ok (.invokestatic 11, 3) := by decide +kernel
theorem dX2_may_20 : decode cX2_may 20 = .ok (.ifCond .ne 7, 3) := by decide +kernel
theorem dX2_may_23 : decode cX2_may 23 = .ok (.iconst 1, 1) := by decide +kernel
theorem dX2_may_24 : decode cX2_may 24 = .ok (.goto 4, 3) := by decide +kernel
theorem dX2_may_27 : decode cX2_may 27 = .ok (.iconst 0, 1) := by decide +kernel
theorem dX2_may_28 : decode cX2_may 28 = .ok (.ireturn, 1) := by decide +kernel
theorem dX2_parts_0 : decode cX2_parts 0 = .ok (.aload_n 1, 1) := by decide +kernel
theorem dX2_parts_1 : decode cX2_parts 1 = .ok (.bipush 40, 2) := by decide +kernel
theorem dX2_parts_3 : decode cX2_parts 3 = .ok (.invokevirtual 16, 3) := by decide +kernel
theorem dX2_parts_6 : decode cX2_parts 6 = .ok (.ifCond .eq 17, 3) := by decide +kernel
theorem dX2_parts_9 : decode cX2_parts 9 = .ok (.aload_n 0, 1) := by decide +kernel
theorem dX2_parts_10 : decode cX2_parts 10 = .ok (.aload_n 1, 1) := by decide +kernel
theorem dX2_parts_11 : decode cX2_parts 11 = .ok (.iload_n 2, 1) := by decide +kernel
theorem dX2_parts_12 : decode cX2_parts 12 = .ok (.invokespecial 22, 3) := by decide +kernel
theorem dX2_parts_15 : decode cX2_parts 15 = .ok (.aload_n 1, 1) := by decide +kernel
theorem dX2_parts_16 : decode cX2_parts 16 = .ok (.getfield 26, 3) := by decide +kernel
theorem dX2_parts_19 : decode cX2_parts 19 = .ok (.ixor, 1) := by decide +kernel
theorem dX2_parts_20 : decode cX2_parts 20 = .ok (.goto 4, 3) := by decide +kernel
theorem dX2_parts_23 : decode cX2_parts 23 = .ok (.iconst 0, 1) := by decide +kernel
theorem dX2_parts_24 : decode cX2_parts 24 = .ok (.ireturn, 1) := by decide +kernel
theorem dX3_init_0 : decode cX3_init 0 = .ok (.aload_n 0, 1) := by decide +kernel
theorem dX3_init_1 : decode cX3_init 1 = .ok (.invokespecial 3, 3) := by decide +kernel
theorem dX3_init_4 : decode cX3_init 4 = .ok (.aload_n 0, 1) := by decide +kernel
theorem dX3_init_5 : decode cX3_init 5 = .ok (.iconst 4, 1) := by decide +kernel
theorem dX3_init_6 : decode cX3_init 6 = .ok (.newarray .int, 2) := by decide +kernel
theorem dX3_init_8 : decode cX3_init 8 = .ok (.dup, 1) := by decide +kernel
theorem dX3_init_9 : decode cX3_init 9 = .ok (.iconst 0, 1) := by decide +kernel
theorem dX3_init_10 : decode cX3_init 10 = .ok (.iconst (-1), 1) := by decide +kernel
theorem dX3_init_11 : decode cX3_init 11 = .ok (.iastore, 1) := by decide +kernel
theorem dX3_init_12 : decode cX3_init 12 = .ok (.dup, 1) := by decide +kernel
theorem dX3_init_13 : decode cX3_init 13 = .ok (.iconst 1, 1) := by decide +kernel
theorem dX3_init_14 : decode cX3_init 14 = .ok (.iconst (-1), 1) := by decide +kernel
theorem dX3_init_15 : decode cX3_init 15 = .ok (.iastore, 1) := by decide +kernel
theorem dX3_init_16 : decode cX3_init 16 = .ok (.dup, 1) := by decide +kernel
theorem dX3_init_17 : decode cX3_init 17 = .ok (.iconst 2, 1) := by decide +kernel
theorem dX3_init_18 : decode cX3_init 18 = .ok (.iconst (-1), 1) := by decide +kernel
theorem dX3_init_19 : decode cX3_init 19 = .ok (.iastore, 1) := by decide +kernel
theorem dX3_init_20 : decode cX3_init 20 = .ok (.dup, 1) := by decide +kernel
theorem dX3_init_21 : decode cX3_init 21 = .ok (.iconst 3, 1) := by decide +kernel
theorem dX3_init_22 : decode cX3_init 22 = .ok (.iconst (-1), 1) := by decide +kernel
theorem dX3_init_23 : decode cX3_init 23 = .ok (.iastore, 1) := by decide +kernel
theorem dX3_init_24 : decode cX3_init 24 = .ok (.putfield 9, 3) := by decide +kernel
theorem dX3_init_27 : decode cX3_init 27 = .ok (.aload_n 0, 1) := by decide +kernel
theorem dX3_init_28 : decode cX3_init 28 = .ok (.iconst 4, 1) := by decide +kernel
theorem dX3_init_29 : decode cX3_init 29 = .ok (.newarray .int, 2) := by decide +kernel
theorem dX3_init_31 : decode cX3_init 31 = .ok (.putfield 15, 3) := by decide +kernel
theorem dX3_init_34 : decode cX3_init 34 = .ok (.aload_n 0, 1) := by decide +kernel
theorem dX3_init_35 : decode cX3_init 35 = .ok (.iconst 4, 1) := by decide +kernel
theorem dX3_init_36 : decode cX3_init 36 = .ok (.bipush 40, 2) := by decide +kernel
theorem dX3_init_38 : decode cX3_init 38 = .ok (.multianewarray 18 2, 4) := by decide +kernel
theorem dX3_init_42 : decode cX3_init 42 = .ok (.putfield 20, 3) := by decide +kernel
theorem dX3_init_45 : decode cX3_init 45 = .ok (.aload_n 0, 1) := by decide +kernel
theorem dX3_init_46 : decode cX3_init 46 = .ok (.iconst 4, 1) := by decide +kernel
theorem dX3_init_47 : decode cX3_init 47 = .ok (.newarray .int, 2) := by decide +kernel
theorem dX3_init_49 : decode cX3_init 49 = .ok (.dup, 1) := by decide +kernel
theorem dX3_init_50 : decode cX3_init 50 = .ok (.iconst 0, 1) := by decide +kernel
theorem dX3_init_51 : decode cX3_init 51 = .ok (.iconst 2, 1) := by decide +kernel
theorem dX3_init_52 : decode cX3_init 52 = .ok (.iastore, 1) := by decide +kernel
theorem dX3_init_53 : decode cX3_init 53 = .ok (.dup, 1) := by decide +kernel
theorem dX3_init_54 : decode cX3_init 54 = .ok (.iconst 1, 1) := by decide +kernel
theorem dX3_init_55 : decode cX3_init 55 = .ok (.iconst 2, 1) := by decide +kernel
theorem dX3_init_56 : decode cX3_init 56 = .ok (.iastore, 1) := by decide +kernel
theorem dX3_init_57 : decode cX3_init 57 = .ok (.dup, 1) := by decide +kernel
theorem dX3_init_58 : decode cX3_init 58 = .ok (.iconst 2, 1) := by decide +kernel
theorem dX3_init_59 : decode cX3_init 59 = .ok (.iconst 2, 1) := by decide +kernel
theorem dX3_init_60 : decode cX3_init 60 = .ok (.iastore, 1) := by decide +kernel
theorem dX3_init_61 : decode cX3_init 61 = .ok (.dup, 1) := by decide +kernel
theorem dX3_init_62 : decode cX3_init 62 = .ok (.iconst 3, 1) := by decide +kernel
theorem dX3_init_63 : decode cX3_init 63 = .ok (.iconst 2, 1) := by decide +kernel
theorem dX3_init_64 : decode cX3_init 64 = .ok (.iastore, 1) := by decide +kernel
theorem dX3_init_65 : decode cX3_init 65 = .ok (.putfield 23, 3) := by decide +kernel
theorem dX3_init_68 : decode cX3_init 68 = .ok (.aload_n 0, 1) := by decide +kernel
theorem dX3_init_69 : decode cX3_init 69 = .ok (.iconst 4, 1) := by decide +kernel
theorem dX3_init_70 : decode cX3_init 70 = .ok (.newarray .int, 2) := by decide +kernel
theorem dX3_init_72 : decode cX3_init 72 = .ok (.putfield 26, 3) := by decide +kernel
theorem dX3_init_75 : decode cX3_init 75 = .ok (.aload_n 0, 1) := by decide +kernel
theorem dX3_init_76 : decode cX3_init 76 = .ok (.iconst 4, 1) := by decide +kernel
theorem dX3_init_77 : decode cX3_init 77 = .ok (.newarray .int, 2) := by decide +kernel
theorem dX3_init_79 : decode cX3_init 79 = .ok (.putfield 29, 3) := by decide +kernel
theorem dX3_init_82 : decode cX3_init 82 = .ok (.aload_n 0, 1) := by decide +kernel
theorem dX3_init_83 : decode cX3_init 83 = .ok (.bipush 30, 2) := by decide +kernel
theorem dX3_init_85 : decode cX3_init 85 = .ok (.newarray .int, 2) := by decide +kernel
theorem dX3_init_87 : decode cX3_init 87 = .ok (.putfield 32, 3) := by decide +kernel
theorem dX3_init_90 : decode cX3_init 90 = .ok (.aload_n 0, 1) := by decide +kernel
theorem dX3_init_91 : decode cX3_init 91 = .ok (.aload_n 1, 1) := by decide +kernel
theorem dX3_init_92 : decode cX3_init 92 = .ok (.putfield 35, 3) := by decide +kernel
theorem dX3_init_95 : decode cX3_init 95 = .ok (.return_, 1) := by decide +kernel
theorem dX3_lay_0 : decode cX3_lay 0 = .ok (.aload_n 0, 1) := by decide +kernel
theorem dX3_lay_1 : decode cX3_lay 1 = .ok (.getfield 9, 3) := by decide +kernel
theorem dX3_lay_4 : decode cX3_lay 4 = .ok (.iload_n 1, 1) := by decide +kernel
theorem dX3_lay_5 : decode cX3_lay 5 = .ok (.iload_n 2, 1) := by decide +kernel
theorem dX3_lay_6 : decode cX3_lay 6 = .ok (.iastore, 1) := by decide +kernel
theorem dX3_lay_7 : decode cX3_lay 7 = .ok (.aload_n 0, 1) := by decide +kernel
theorem dX3_lay_8 : decode cX3_lay 8 = .ok (.getfield 15, 3) := by decide +kernel
theorem dX3_lay_11 : decode cX3_lay 11 = .ok (.iload_n 1, 1) := by decide +kernel
theorem dX3_lay_12 : decode cX3_lay 12 = .ok (.iload_n 3, 1) := by decide +kernel
theorem dX3_lay_13 : decode cX3_lay 13 = .ok (.iastore, 1) := by decide +kernel
theorem dX3_lay_14 : decode cX3_lay 14 = .ok (.iconst 0, 1) := by decide +kernel
theorem dX3_lay_15 : decode cX3_lay 15 = .ok (.istore 4, 2) := by decide +kernel
theorem dX3_lay_17 : decode cX3_lay 17 = .ok (.iload 4, 2) := by decide +kernel
theorem dX3_lay_19 : decode cX3_lay 19 = .ok (.bipush 40, 2) := by decide +kernel
theorem dX3_lay_21 : decode cX3_lay 21 = .ok (.if_icmp .ge 19, 3) := by decide +kernel
theorem dX3_lay_24 : decode cX3_lay 24 = .ok (.aload_n 0, 1) := by decide +kernel
theorem dX3_lay_25 : decode cX3_lay 25 = .ok (.getfield 20, 3) := by decide +kernel
theorem dX3_lay_28 : decode cX3_lay 28 = .ok (.iload_n 1, 1) := by decide +kernel
theorem dX3_lay_29 : decode cX3_lay 29 = .ok (.aaload, 1) := by decide +kernel
theorem dX3_lay_30 : decode cX3_lay 30 = .ok (.iload 4, 2) := by decide +kernel
theorem dX3_lay_32 : decode cX3_lay 32 = .ok (.iconst 0, 1) := by decide +kernel
theorem dX3_lay_33 : decode cX3_lay 33 = .ok (.iastore, 1) := by decide +kernel
theorem dX3_lay_34 : decode cX3_lay 34 = .ok (.iinc 4 1, 3) := by decide +kernel
theorem dX3_lay_37 : decode cX3_lay 37 = .ok (.goto (-20), 3) := by decide +kernel
theorem dX3_lay_40 : decode cX3_lay 40 = .ok (.return_, 1) := by decide +kernel
theorem dX3_refusal_0 : decode cX3_refusal 0 = .ok (.aload_n 0, 1) := by decide +kernel
theorem dX3_refusal_1 : decode cX3_refusal 1 = .ok (.getfield 9, 3) := by decide +kernel
theorem dX3_refusal_4 : decode cX3_refusal 4 = .ok (.iload_n 1, 1) := by decide +kernel
theorem dX3_refusal_5 : decode cX3_refusal 5 = .ok (.iaload, 1) := by decide +kernel
theorem dX3_refusal_6 : decode cX3_refusal 6 = .ok (.iconst (-1), 1) := by decide +kernel
theorem dX3_refusal_7 : decode cX3_refusal 7 = .ok (.if_icmp .ne 6, 3) := by decide +kernel
theorem dX3_refusal_10 : decode cX3_refusal 10 = .ok (.bipush (-11), 2) := by decide +kernel
theorem dX3_refusal_12 : decode cX3_refusal 12 = .ok (.ireturn, 1) := by decide +kernel
theorem dX3_refusal_13 : decode cX3_refusal 13 = .ok (.aload_n 0, 1) := by decide +kernel
theorem dX3_refusal_14 : decode cX3_refusal 14 = .ok (.getfield 9, 3) := by decide +kernel
theorem dX3_refusal_17 : decode cX3_refusal 17 = .ok (.iload_n 1, 1) := by decide +kernel
theorem dX3_refusal_18 : decode cX3_refusal 18 = .ok (.iaload, 1) := by decide +kernel
theorem dX3_refusal_19 : decode cX3_refusal 19 = .ok (.iload_n 2, 1) := by decide +kernel
theorem dX3_refusal_20 : decode cX3_refusal 20 = .ok (.if_icmp .ne 7, 3) := by decide +kernel
theorem dX3_refusal_23 : decode cX3_refusal 23 = .ok (.iconst 0, 1) := by decide +kernel
theorem dX3_refusal_24 : decode cX3_refusal 24 = .ok (.goto 5, 3) := by decide +kernel
theorem dX3_refusal_27 : decode cX3_refusal 27 = .ok (.bipush (-13), 2) := by decide +kernel
theorem dX3_refusal_29 : decode cX3_refusal 29 = .ok (.ireturn, 1) := by decide +kernel
theorem dX3_hasItem_0 : decode cX3_hasItem 0 = .ok (.iload_n 2, 1) := by decide +kernel
theorem dX3_hasItem_1 : decode cX3_hasItem 1 = .ok (.ifCond .lt 17, 3) := by decide +kernel
theorem dX3_hasItem_4 : decode cX3_hasItem 4 = .ok (.iload_n 2, 1) := by decide +kernel
theorem dX3_hasItem_5 : decode cX3_hasItem 5 = .ok (.aload_n 0, 1) := by decide +kernel
theorem dX3_hasItem_6 : decode cX3_hasItem 6 = .ok (.getfield 15, 3) := by decide +kernel
theorem dX3_hasItem_9 : decode cX3_hasItem 9 = .ok (.iload_n 1, 1) := by decide +kernel
theorem dX3_hasItem_10 : decode cX3_hasItem 10 = .ok (.iaload, 1) := by decide +kernel
theorem dX3_hasItem_11 : decode cX3_hasItem 11 = .ok (.if_icmp .ge 7, 3) := by decide +kernel
theorem dX3_hasItem_14 : decode cX3_hasItem 14 = .ok (.iconst 1, 1) := by decide +kernel
theorem dX3_hasItem_15 : decode cX3_hasItem 15 = .ok (.goto 4, 3) := by decide +kernel
theorem dX3_hasItem_18 : decode cX3_hasItem 18 = .ok (.iconst 0, 1) := by decide +kernel
theorem dX3_hasItem_19 : decode cX3_hasItem 19 = .ok (.ireturn, 1) := by decide +kernel
theorem dX3_narrowed_0 : decode cX3_narrowed 0 = .ok (.iload_n 1, 1) := by decide +kernel
theorem dX3_narrowed_1 : decode cX3_narrowed 1 = .ok (.ifCond .ne 6, 3) := by decide +kernel
theorem dX3_narrowed_4 : decode cX3_narrowed 4 = .ok (.iload_n 2, 1) := by decide +kernel
theorem dX3_narrowed_5 : decode cX3_narrowed 5 = .ok (.i2b, 1) := by decide +kernel
theorem dX3_narrowed_6 : decode cX3_narrowed 6 = .ok (.ireturn, 1) := by decide +kernel
theorem dX3_narrowed_7 : decode cX3_narrowed 7 = .ok (.iload_n 1, 1) := by decide +kernel
theorem dX3_narrowed_8 : decode cX3_narrowed 8 = .ok (.iconst 1, 1) := by decide +kernel
theorem dX3_narrowed_9 : decode cX3_narrowed 9 = .ok (.if_icmp .ne 6, 3) := by decide +kernel
theorem dX3_narrowed_12 : decode cX3_narrowed 12 = .ok (.iload_n 2, 1) := by decide +kernel
theorem dX3_narrowed_13 : decode cX3_narrowed 13 = .ok (.i2s, 1) := by decide +kernel
theorem dX3_narrowed_14 : decode cX3_narrowed 14 = .ok (.ireturn, 1) := by decide +kernel
theorem dX3_narrowed_15 : decode cX3_narrowed 15 = .ok (.iload_n 1, 1) := by decide +kernel
theorem dX3_narrowed_16 : decode cX3_narrowed 16 = .ok (.iconst 4, 1) := by decide +kernel
theorem dX3_narrowed_17 : decode cX3_narrowed 17 = .ok (.if_icmp .ne 13, 3) := by decide +kernel
theorem dX3_narrowed_20 : decode cX3_narrowed 20 = .ok (.iload_n 2, 1) := by decide +kernel
theorem dX3_narrowed_21 : decode cX3_narrowed 21 = .ok (.ifCond .eq 7, 3) := by decide +kernel
theorem dX3_narrowed_24 : decode cX3_narrowed 24 = .ok (.iconst 1, 1) := by decide +kernel
theorem dX3_narrowed_25 : decode cX3_narrowed 25 = .ok (.goto 4, 3) := by decide +kernel
theorem dX3_narrowed_28 : decode cX3_narrowed 28 = .ok (.iconst 0, 1) := by decide +kernel
theorem dX3_narrowed_29 : decode cX3_narrowed 29 = .ok (.ireturn, 1) := by decide +kernel
theorem dX3_narrowed_30 : decode cX3_narrowed 30 = .ok (.iload_n 2, 1) := by decide +kernel
theorem dX3_narrowed_31 : decode cX3_narrowed 31 = .ok (.ireturn, 1) := by decide +kernel
theorem dX3_putSet_0 : decode cX3_putSet 0 = .ok (.aload_n 0, 1) := by decide +kernel
theorem dX3_putSet_1 : decode cX3_putSet 1 = .ok (.getfield 23, 3) := by decide +kernel
theorem dX3_putSet_4 : decode cX3_putSet 4 = .ok (.iload_n 1, 1) := by decide +kernel
theorem dX3_putSet_5 : decode cX3_putSet 5 = .ok (.iconst 0, 1) := by decide +kernel
theorem dX3_putSet_6 : decode cX3_putSet 6 = .ok (.iastore, 1) := by decide +kernel
theorem dX3_putSet_7 : decode cX3_putSet 7 = .ok (.aload_n 0, 1) := by decide +kernel
theorem dX3_putSet_8 : decode cX3_putSet 8 = .ok (.getfield 26, 3) := by decide +kernel
theorem dX3_putSet_11 : decode cX3_putSet 11 = .ok (.iload_n 1, 1) := by decide +kernel
theorem dX3_putSet_12 : decode cX3_putSet 12 = .ok (.iload_n 2, 1) := by decide +kernel
theorem dX3_putSet_13 : decode cX3_putSet 13 = .ok (.iastore, 1) := by decide +kernel
theorem dX3_putSet_14 : decode cX3_putSet 14 = .ok (.return_, 1) := by decide +kernel
theorem dX3_putRow_0 : decode cX3_putRow 0 = .ok (.aload_n 0, 1) := by decide +kernel
theorem dX3_putRow_1 : decode cX3_putRow 1 = .ok (.getfield 23, 3) := by decide +kernel
theorem dX3_putRow_4 : decode cX3_putRow 4 = .ok (.iload_n 1, 1) := by decide +kernel
theorem dX3_putRow_5 : decode cX3_putRow 5 = .ok (.aload_n 0, 1) := by decide +kernel
theorem dX3_putRow_6 : decode cX3_putRow 6 = .ok (.getfield 9, 3) := by decide +kernel
theorem dX3_putRow_9 : decode cX3_putRow 9 = .ok (.iload_n 2, 1) := by decide +kernel
theorem dX3_putRow_10 : decode cX3_putRow 10 = .ok (.iaload, 1) := by decide +kernel
theorem dX3_putRow_11 : decode cX3_putRow 11 = .ok (.iconst (-1), 1) := by decide +kernel
theorem dX3_putRow_12 : decode cX3_putRow 12 = .ok (.if_icmp .ne 7, 3) := by decide +kernel
theorem dX3_putRow_15 : decode cX3_putRow 15 = .ok (.iconst 2, 1) := by decide +kernel
theorem dX3_putRow_16 : decode cX3_putRow 16 = .ok (.goto 4, 3) := by decide +kernel
theorem dX3_putRow_19 : decode cX3_putRow 19 = .ok (.iconst 1, 1) := by decide +kernel
theorem dX3_putRow_20 : decode cX3_putRow 20 = .ok (.iastore, 1) := by decide +kernel
theorem dX3_putRow_21 : decode cX3_putRow 21 = .ok (.aload_n 0, 1) := by decide +kernel
theorem dX3_putRow_22 : decode cX3_putRow 22 = .ok (.getfield 26, 3) := by decide +kernel
theorem dX3_putRow_25 : decode cX3_putRow 25 = .ok (.iload_n 1, 1) := by decide +kernel
theorem dX3_putRow_26 : decode cX3_putRow 26 = .ok (.aload_n 0, 1) := by decide +kernel
theorem dX3_putRow_27 : decode cX3_putRow 27 = .ok (.getfield 9, 3) := by decide +kernel
theorem dX3_putRow_30 : decode cX3_putRow 30 = .ok (.iload_n 2, 1) := by decide +kernel
theorem dX3_putRow_31 : decode cX3_putRow 31 = .ok (.iaload, 1) := by decide +kernel
theorem dX3_putRow_32 : decode cX3_putRow 32 = .ok (.iastore, 1) := by decide +kernel
theorem dX3_putRow_33 : decode cX3_putRow 33 = .ok (.aload_n 0, 1) := by decide +kernel
theorem dX3_putRow_34 : decode cX3_putRow 34 = .ok (.getfield 29, 3) := by decide +kernel
theorem dX3_putRow_37 : decode cX3_putRow 37 = .ok (.iload_n 1, 1) := by decide +kernel
theorem dX3_putRow_38 : decode cX3_putRow 38 = .ok (.aload_n 0, 1) := by decide +kernel
theorem dX3_putRow_39 : decode cX3_putRow 39 = .ok (.getfield 15, 3) := by decide +kernel
theorem dX3_putRow_42 : decode cX3_putRow 42 = .ok (.iload_n 2, 1) := by decide +kernel
theorem dX3_putRow_43 : decode cX3_putRow 43 = .ok (.iaload, 1) := by decide +kernel
theorem dX3_putRow_44 : decode cX3_putRow 44 = .ok (.iastore, 1) := by decide +kernel
theorem dX3_putRow_45 : decode cX3_putRow 45 = .ok (.return_, 1) := by decide +kernel
theorem dX3_hold_0 : decode cX3_hold 0 = .ok (.aload_n 0, 1) := by decide +kernel
theorem dX3_hold_1 : decode cX3_hold 1 = .ok (.iload_n 1, 1) := by decide +kernel
theorem dX3_hold_2 : decode cX3_hold 2 = .ok (.putfield 39, 3) := by decide +kernel
theorem dX3_hold_5 : decode cX3_hold 5 = .ok (.aload_n 0, 1) := by decide +kernel
theorem dX3_hold_6 : decode cX3_hold 6 = .ok (.aload_n 2, 1) := by decide +kernel
theorem dX3_hold_7 : decode cX3_hold 7 = .ok (.getfield 43, 3) := by decide +kernel
theorem dX3_hold_10 : decode cX3_hold 10 = .ok (.iconst 2, 1) := by decide +kernel
theorem dX3_hold_11 : decode cX3_hold 11 = .ok (.aaload, 1) := by decide +kernel
theorem dX3_hold_12 : decode cX3_hold 12 = .ok (.iload_n 1, 1) := by decide +kernel
theorem dX3_hold_13 : decode cX3_hold 13 = .ok (.iaload, 1) := by decide +kernel
theorem dX3_hold_14 : decode cX3_hold 14 = .ok (.putfield 48, 3) := by decide +kernel
theorem dX3_hold_17 : decode cX3_hold 17 = .ok (.aload_n 0, 1) := by decide +kernel
theorem dX3_hold_18 : decode cX3_hold 18 = .ok (.iconst 0, 1) := by decide +kernel
theorem dX3_hold_19 : decode cX3_hold 19 = .ok (.putfield 51, 3) := by decide +kernel
theorem dX3_hold_22 : decode cX3_hold 22 = .ok (.aload_n 0, 1) := by decide +kernel
theorem dX3_hold_23 : decode cX3_hold 23 = .ok (.getfield 35, 3) := by decide +kernel
theorem dX3_hold_26 : decode cX3_hold 26 = .ok (.aload_n 2, 1) := by decide +kernel
theorem dX3_hold_27 : decode cX3_hold 27 = .ok (.getfield 43, 3) := by decide +kernel
theorem dX3_hold_30 : decode cX3_hold 30 = .ok (.iconst 0, 1) := by decide +kernel
theorem dX3_hold_31 : decode cX3_hold 31 = .ok (.aaload, 1) := by decide +kernel
theorem dX3_hold_32 : decode cX3_hold 32 = .ok (.iload_n 1, 1) := by decide +kernel
theorem dX3_hold_33 : decode cX3_hold 33 = .ok (.iaload, 1) := by decide +kernel
theorem dX3_hold_34 : decode cX3_hold 34 = .ok (.aaload, 1) := by decide +kernel
theorem dX3_hold_35 : decode cX3_hold 35 = .ok (.areturn, 1) := by decide +kernel
theorem dX3_begins_0 : decode cX3_begins 0 = .ok (.aload_n 0, 1) := by decide +kernel
theorem dX3_begins_1 : decode cX3_begins 1 = .ok (.getfield 51, 3) := by decide +kernel
theorem dX3_begins_4 : decode cX3_begins 4 = .ok (.ifCond .eq 5, 3) := by decide +kernel
theorem dX3_begins_7 : decode cX3_begins 7 = .ok (.iconst 0, 1) := by decide +kernel
theorem dX3_begins_8 : decode cX3_begins 8 = .ok (.ireturn, 1) := by decide +kernel
theorem dX3_begins_9 : decode cX3_begins 9 = .ok (.aload_n 0, 1) := by decide +kernel
theorem dX3_begins_10 : decode cX3_begins 10 = .ok (.getfield 55, 3) := by decide +kernel
theorem dX3_begins_13 : decode cX3_begins 13 = .ok (.bipush 30, 2) := by decide +kernel
theorem dX3_begins_15 : decode cX3_begins 15 = .ok (.if_icmp .ge 23, 3) := by decide +kernel
theorem dX3_begins_18 : decode cX3_begins 18 = .ok (.aload_n 0, 1) := by decide +kernel
theorem dX3_begins_19 : decode cX3_begins 19 = .ok (.getfield 32, 3) := by decide +kernel
theorem dX3_begins_22 : decode cX3_begins 22 = .ok (.aload_n 0, 1) := by decide +kernel
theorem dX3_begins_23 : decode cX3_begins 23 = .ok (.getfield 55, 3) := by decide +kernel
theorem dX3_begins_26 : decode cX3_begins 26 = .ok (.iload_n 1, 1) := by decide +kernel
theorem dX3_begins_27 : decode cX3_begins 27 = .ok (.iastore, 1) := by decide +kernel
theorem dX3_begins_28 : decode cX3_begins 28 = .ok (.aload_n 0, 1) := by decide +kernel
theorem dX3_begins_29 : decode cX3_begins 29 = .ok (.dup, 1) := by decide +kernel
theorem dX3_begins_30 : decode cX3_begins 30 = .ok (.getfield 55, 3) := by decide +kernel
theorem dX3_begins_33 : decode cX3_begins 33 = .ok (.iconst 1, 1) := by decide +kernel
theorem dX3_begins_34 : decode cX3_begins 34 = .ok (.iadd, 1) := by decide +kernel
theorem dX3_begins_35 : decode cX3_begins 35 = .ok (.putfield 55, 3) := by decide +kernel
theorem dX3_begins_38 : decode cX3_begins 38 = .ok (.iconst 1, 1) := by decide +kernel
theorem dX3_begins_39 : decode cX3_begins 39 = .ok (.ireturn, 1) := by decide +kernel
theorem dX4_init_0 : decode cX4_init 0 = .ok (.aload_n 0, 1) := by decide +kernel
theorem dX4_init_1 : decode cX4_init 1 = .ok (.invokespecial 3, 3) := by decide +kernel
theorem dX4_init_4 : decode cX4_init 4 = .ok (.aload_n 0, 1) := by decide +kernel
theorem dX4_init_5 : decode cX4_init 5 = .ok (.bipush 6, 2) := by decide +kernel
theorem dX4_init_7 : decode cX4_init 7 = .ok (.newarray .int, 2) := by decide +kernel
theorem dX4_init_9 : decode cX4_init 9 = .ok (.putfield 9, 3) := by decide +kernel
theorem dX4_init_12 : decode cX4_init 12 = .ok (.aload_n 0, 1) := by decide +kernel
theorem dX4_init_13 : decode cX4_init 13 = .ok (.bipush 6, 2) := by decide +kernel
theorem dX4_init_15 : decode cX4_init 15 = .ok (.newarray .int, 2) := by decide +kernel
theorem dX4_init_17 : decode cX4_init 17 = .ok (.putfield 15, 3) := by decide +kernel
theorem dX4_init_20 : decode cX4_init 20 = .ok (.aload_n 0, 1) := by decide +kernel
theorem dX4_init_21 : decode cX4_init 21 = .ok (.bipush 6, 2) := by decide +kernel
theorem dX4_init_23 : decode cX4_init 23 = .ok (.newarray .int, 2) := by decide +kernel
theorem dX4_init_25 : decode cX4_init 25 = .ok (.putfield 18, 3) := by decide +kernel
theorem dX4_init_28 : decode cX4_init 28 = .ok (.return_, 1) := by decide +kernel
theorem dX4_copy_0 : decode cX4_copy 0 = .ok (.aload_n 1, 1) := by decide +kernel
theorem dX4_copy_1 : decode cX4_copy 1 = .ok (.getfield 9, 3) := by decide +kernel
theorem dX4_copy_4 : decode cX4_copy 4 = .ok (.iconst 0, 1) := by decide +kernel
theorem dX4_copy_5 : decode cX4_copy 5 = .ok (.aload_n 0, 1) := by decide +kernel
theorem dX4_copy_6 : decode cX4_copy 6 = .ok (.getfield 9, 3) := by decide +kernel
theorem dX4_copy_9 : decode cX4_copy 9 = .ok (.iconst 0, 1) := by decide +kernel
theorem dX4_copy_10 : decode cX4_copy 10 = .ok (.bipush 6, 2) := by decide +kernel
theorem dX4_copy_12 : decode cX4_copy 12 = .ok (.invokestatic 21, 3) := by decide +kernel
theorem dX4_copy_15 : decode cX4_copy 15 = .ok (.aload_n 1, 1) := by decide +kernel
theorem dX4_copy_16 : decode cX4_copy 16 = .ok (.getfield 15, 3) := by decide +kernel
theorem dX4_copy_19 : decode cX4_copy 19 = .ok (.iconst 0, 1) := by decide +kernel
theorem dX4_copy_20 : decode cX4_copy 20 = .ok (.aload_n 0, 1) := by decide +kernel
theorem dX4_copy_21 : decode cX4_copy 21 = .ok (.getfield 15, 3) := by decide +kernel
theorem dX4_copy_24 : decode cX4_copy 24 = .ok (.iconst 0, 1) := by decide +kernel
theorem dX4_copy_25 : decode cX4_copy 25 = .ok (.bipush 6, 2) := by decide +kernel
theorem dX4_copy_27 : decode cX4_copy 27 = .ok (.invokestatic 21, 3) := by decide +kernel
theorem dX4_copy_30 : decode cX4_copy 30 = .ok (.aload_n 1, 1) := by decide +kernel
theorem dX4_copy_31 : decode cX4_copy 31 = .ok (.getfield 18, 3) := by decide +kernel
theorem dX4_copy_34 : decode cX4_copy 34 = .ok (.iconst 0, 1) := by decide +kernel
theorem dX4_copy_35 : decode cX4_copy 35 = .ok (.aload_n 0, 1) := by decide +kernel
theorem dX4_copy_36 : decode cX4_copy 36 = .ok (.getfield 18, 3) := by decide +kernel
theorem dX4_copy_39 : decode cX4_copy 39 = .ok (.iconst 0, 1) := by decide +kernel
theorem dX4_copy_40 : decode cX4_copy 40 = .ok (.bipush 6, 2) := by decide +kernel
theorem dX4_copy_42 : decode cX4_copy 42 = .ok (.invokestatic 21, 3) := by decide +kernel
theorem dX4_copy_45 : decode cX4_copy 45 = .ok (.aload_n 0, 1) := by decide +kernel
theorem dX4_copy_46 : decode cX4_copy 46 = .ok (.aload_n 1, 1) := by decide +kernel
theorem dX4_copy_47 : decode cX4_copy 47 = .ok (.getfield 27, 3) := by decide +kernel
theorem dX4_copy_50 : decode cX4_copy 50 = .ok (.putfield 27, 3) := by decide +kernel
theorem dX4_copy_53 : decode cX4_copy 53 = .ok (.return_, 1) := by decide +kernel
theorem dX4_add_0 : decode cX4_add 0 = .ok (.aload_n 0, 1) := by decide +kernel
theorem dX4_add_1 : decode cX4_add 1 = .ok (.getfield 9, 3) := by decide +kernel
theorem dX4_add_4 : decode cX4_add 4 = .ok (.aload_n 0, 1) := by decide +kernel
theorem dX4_add_5 : decode cX4_add 5 = .ok (.getfield 27, 3) := by decide +kernel
theorem dX4_add_8 : decode cX4_add 8 = .ok (.iload_n 1, 1) := by decide +kernel
theorem dX4_add_9 : decode cX4_add 9 = .ok (.iastore, 1) := by decide +kernel
theorem dX4_add_10 : decode cX4_add 10 = .ok (.aload_n 0, 1) := by decide +kernel
theorem dX4_add_11 : decode cX4_add 11 = .ok (.getfield 15, 3) := by decide +kernel
theorem dX4_add_14 : decode cX4_add 14 = .ok (.aload_n 0, 1) := by decide +kernel
theorem dX4_add_15 : decode cX4_add 15 = .ok (.getfield 27, 3) := by decide +kernel
theorem dX4_add_18 : decode cX4_add 18 = .ok (.iload_n 2, 1) := by decide +kernel
theorem dX4_add_19 : decode cX4_add 19 = .ok (.iastore, 1) := by decide +kernel
theorem dX4_add_20 : decode cX4_add 20 = .ok (.aload_n 0, 1) := by decide +kernel
theorem dX4_add_21 : decode cX4_add 21 = .ok (.getfield 18, 3) := by decide +kernel
theorem dX4_add_24 : decode cX4_add 24 = .ok (.aload_n 0, 1) := by decide +kernel
theorem dX4_add_25 : decode cX4_add 25 = .ok (.getfield 27, 3) := by decide +kernel
theorem dX4_add_28 : decode cX4_add 28 = .ok (.iload_n 3, 1) := by decide +kernel
theorem dX4_add_29 : decode cX4_add 29 = .ok (.iastore, 1) := by decide +kernel
theorem dX4_add_30 : decode cX4_add 30 = .ok (.aload_n 0, 1) := by decide +kernel
theorem dX4_add_31 : decode cX4_add 31 = .ok (.dup, 1) := by decide +kernel
theorem dX4_add_32 : decode cX4_add 32 = .ok (.getfield 27, 3) := by decide +kernel
theorem dX4_add_35 : decode cX4_add 35 = .ok (.iconst 1, 1) := by decide +kernel
theorem dX4_add_36 : decode cX4_add 36 = .ok (.iadd, 1) := by decide +kernel
theorem dX4_add_37 : decode cX4_add 37 = .ok (.putfield 27, 3) := by decide +kernel
theorem dX4_add_40 : decode cX4_add 40 = .ok (.aload_n 0, 1) := by decide +kernel
theorem dX4_add_41 : decode cX4_add 41 = .ok (.getfield 27, 3) := by decide +kernel
theorem dX4_add_44 : decode cX4_add 44 = .ok (.iconst 1, 1) := by decide +kernel
theorem dX4_add_45 : decode cX4_add 45 = .ok (.isub, 1) := by decide +kernel
theorem dX4_add_46 : decode cX4_add 46 = .ok (.ireturn, 1) := by decide +kernel
theorem dX4_look_0 : decode cX4_look 0 = .ok (.aload_n 0, 1) := by decide +kernel
theorem dX4_look_1 : decode cX4_look 1 = .ok (.iconst 0, 1) := by decide +kernel
theorem dX4_look_2 : decode cX4_look 2 = .ok (.putfield 31, 3) := by decide +kernel
theorem dX4_look_5 : decode cX4_look 5 = .ok (.aload_n 0, 1) := by decide +kernel
theorem dX4_look_6 : decode cX4_look 6 = .ok (.bipush 6, 2) := by decide +kernel
theorem dX4_look_8 : decode cX4_look 8 = .ok (.putfield 34, 3) := by decide +kernel
theorem dX4_look_11 : decode cX4_look 11 = .ok (.iconst 0, 1) := by decide +kernel
theorem dX4_look_12 : decode cX4_look 12 = .ok (.istore_n 1, 1) := by decide +kernel
theorem dX4_look_13 : decode cX4_look 13 = .ok (.iload_n 1, 1) := by decide +kernel
theorem dX4_look_14 : decode cX4_look 14 = .ok (.bipush 16, 2) := by decide +kernel
theorem dX4_look_16 : decode cX4_look 16 = .ok (.if_icmp .ge 42, 3) := by decide +kernel
theorem dX4_look_19 : decode cX4_look 19 = .ok (.iconst 1, 1) := by decide +kernel
theorem dX4_look_20 : decode cX4_look 20 = .ok (.istore_n 2, 1) := by decide +kernel
theorem dX4_look_21 : decode cX4_look 21 = .ok (.iload_n 2, 1) := by decide +kernel
theorem dX4_look_22 : decode cX4_look 22 = .ok (.iconst 4, 1) := by decide +kernel
theorem dX4_look_23 : decode cX4_look 23 = .ok (.if_icmp .gt 29, 3) := by decide +kernel
theorem dX4_look_26 : decode cX4_look 26 = .ok (.iconst 1, 1) := by decide +kernel
theorem dX4_look_27 : decode cX4_look 27 = .ok (.istore_n 3, 1) := by decide +kernel
theorem dX4_look_28 : decode cX4_look 28 = .ok (.iload_n 3, 1) := by decide +kernel
theorem dX4_look_29 : decode cX4_look 29 = .ok (.iconst 4, 1) := by decide +kernel
theorem dX4_look_30 : decode cX4_look 30 = .ok (.if_icmp .gt 16, 3) := by decide +kernel
theorem dX4_look_33 : decode cX4_look 33 = .ok (.aload_n 0, 1) := by decide +kernel
theorem dX4_look_34 : decode cX4_look 34 = .ok (.iload_n 1, 1) := by decide +kernel
theorem dX4_look_35 : decode cX4_look 35 = .ok (.iload_n 2, 1) := by decide +kernel
theorem dX4_look_36 : decode cX4_look 36 = .ok (.iload_n 3, 1) := by decide +kernel
theorem dX4_look_37 : decode cX4_look 37 = .ok (.invokevirtual 37, 3) := by decide +kernel
theorem dX4_look_40 : decode cX4_look 40 = .ok (.iinc 3 1, 3) := by decide +kernel
theorem dX4_look_43 : decode cX4_look 43 = .ok (.goto (-15), 3) := by decide +kernel
theorem dX4_look_46 : decode cX4_look 46 = .ok (.iinc 2 1, 3) := by decide +kernel
theorem dX4_look_49 : decode cX4_look 49 = .ok (.goto (-28), 3) := by decide +kernel
theorem dX4_look_52 : decode cX4_look 52 = .ok (.iinc 1 1, 3) := by decide +kernel
theorem dX4_look_55 : decode cX4_look 55 = .ok (.goto (-42), 3) := by decide +kernel
theorem dX4_look_58 : decode cX4_look 58 = .ok (.return_, 1) := by decide +kernel
theorem dX4_lookAt_0 : decode cX4_lookAt 0 = .ok (.iconst 0, 1) := by decide +kernel
theorem dX4_lookAt_1 : decode cX4_lookAt 1 = .ok (.istore 4, 2) := by decide +kernel
theorem dX4_lookAt_3 : decode cX4_lookAt 3 = .ok (.bipush 6, 2) := by decide +kernel
theorem dX4_lookAt_5 : decode cX4_lookAt 5 = .ok (.istore 5, 2) := by decide +kernel
theorem dX4_lookAt_7 : decode cX4_lookAt 7 = .ok (.iconst 0, 1) := by decide +kernel
theorem dX4_lookAt_8 : decode cX4_lookAt 8 = .ok (.istore 6, 2) := by decide +kernel
theorem dX4_lookAt_10 : decode cX4_lookAt 10 = .ok (.iload 6, 2) := by decide +kernel
theorem dX4_lookAt_12 : decode cX4_lookAt 12 = .ok (.aload_n 0, 1) := by decide +kernel
theorem dX4_lookAt_13 : decode cX4_lookAt 13 = .ok (.getfield 27, 3) := by decide +kernel
theorem dX4_lookAt_16 : decode cX4_lookAt 16 = .ok (.if_icmp .ge 58, 3) := by decide +kernel
theorem dX4_lookAt_19 : decode cX4_lookAt 19 = .ok (.iload_n 1, 1) := by decide +kernel
theorem dX4_lookAt_20 : decode cX4_lookAt 20 = .ok (.iload_n 2, 1) := by decide +kernel
theorem dX4_lookAt_21 : decode cX4_lookAt 21 = .ok (.iload_n 3, 1) := by decide +kernel
theorem dX4_lookAt_22 : decode cX4_lookAt 22 = .ok (.aload_n 0, 1) := by decide +kernel
theorem dX4_lookAt_23 : decode cX4_lookAt 23 = .ok (.getfield 9, 3) := by decide +kernel
theorem dX4_lookAt_26 : decode cX4_lookAt 26 = .ok (.iload 6, 2) := by decide +kernel
theorem dX4_lookAt_28 : decode cX4_lookAt 28 = .ok (.iaload, 1) := by decide +kernel
theorem dX4_lookAt_29 : decode cX4_lookAt 29 = .ok (.invokestatic 41, 3) := by decide +kernel
theorem dX4_lookAt_32 : decode cX4_lookAt 32 = .ok (.istore 7, 2) := by decide +kernel
theorem dX4_lookAt_34 : decode cX4_lookAt 34 = .ok (.iload 7, 2) := by decide +kernel
theorem dX4_lookAt_36 : decode cX4_lookAt 36 = .ok (.aload_n 0, 1) := by decide +kernel
theorem dX4_lookAt_37 : decode cX4_lookAt 37 = .ok (.getfield 15, 3) := by decide +kernel
theorem dX4_lookAt_40 : decode cX4_lookAt 40 = .ok (.iload 6, 2) := by decide +kernel
theorem dX4_lookAt_42 : decode cX4_lookAt 42 = .ok (.iaload, 1) := by decide +kernel
theorem dX4_lookAt_43 : decode cX4_lookAt 43 = .ok (.if_icmp .lt 18, 3) := by decide +kernel
theorem dX4_lookAt_46 : decode cX4_lookAt 46 = .ok (.iload 7, 2) := by decide +kernel
theorem dX4_lookAt_48 : decode cX4_lookAt 48 = .ok (.aload_n 0, 1) := by decide +kernel
theorem dX4_lookAt_49 : decode cX4_lookAt 49 = .ok (.getfield 18, 3) := by decide +kernel
theorem dX4_lookAt_52 : decode cX4_lookAt 52 = .ok (.iload 6, 2) := by decide +kernel
theorem dX4_lookAt_54 : decode cX4_lookAt 54 = .ok (.iaload, 1) := by decide +kernel
theorem dX4_lookAt_55 : decode cX4_lookAt 55 = .ok (.if_icmp .gt 6, 3) := by decide +kernel
theorem dX4_lookAt_58 : decode cX4_lookAt 58 = .ok (.goto 10, 3) := by decide +kernel
theorem dX4_lookAt_61 : decode cX4_lookAt 61 = .ok (.iinc 4 1, 3) := by decide +kernel
theorem dX4_lookAt_64 : decode cX4_lookAt 64 = .ok (.iload 6, 2) := by decide +kernel
theorem dX4_lookAt_66 : decode cX4_lookAt 66 = .ok (.istore 5, 2) := by decide +kernel
theorem dX4_lookAt_68 : decode cX4_lookAt 68 = .ok (.iinc 6 1, 3) := by decide +kernel
theorem dX4_lookAt_71 : decode cX4_lookAt 71 = .ok (.goto (-61), 3) := by decide +kernel
theorem dX4_lookAt_74 : decode cX4_lookAt 74 = .ok (.iload 4, 2) := by decide +kernel
theorem dX4_lookAt_76 : decode cX4_lookAt 76 = .ok (.iconst 1, 1) := by decide +kernel
theorem dX4_lookAt_77 : decode cX4_lookAt 77 = .ok (.if_icmp .ne 16, 3) := by decide +kernel
theorem dX4_lookAt_80 : decode cX4_lookAt 80 = .ok (.aload_n 0, 1) := by decide +kernel
theorem dX4_lookAt_81 : decode cX4_lookAt 81 = .ok (.aload_n 0, 1) := by decide +kernel
theorem dX4_lookAt_82 : decode cX4_lookAt 82 = .ok (.getfield 34, 3) := by decide +kernel
theorem dX4_lookAt_85 : decode cX4_lookAt 85 = .ok (.iload 5, 2) := by decide +kernel
theorem dX4_lookAt_87 : decode cX4_lookAt 87 = .ok (.invokestatic 45, 3) := by decide +kernel
theorem dX4_lookAt_90 : decode cX4_lookAt 90 = .ok (.putfield 34, 3) := by decide +kernel
theorem dX4_lookAt_93 : decode cX4_lookAt 93 = .ok (.iload 4, 2) := by decide +kernel
theorem dX4_lookAt_95 : decode cX4_lookAt 95 = .ok (.ifCond .le 4, 3) := by decide +kernel
theorem dX4_lookAt_98 : decode cX4_lookAt 98 = .ok (.return_, 1) := by decide +kernel
theorem dX4_lookAt_99 : decode cX4_lookAt 99 = .ok (.aload_n 0, 1) := by decide +kernel
theorem dX4_lookAt_100 : decode cX4_lookAt 100 = .ok (.getfield 31, 3) := by decide +kernel
theorem dX4_lookAt_103 : decode cX4_lookAt 103 = .ok (.ifCond .ne 18, 3) := by decide +kernel
theorem dX4_lookAt_106 : decode cX4_lookAt 106 = .ok (.aload_n 0, 1) := by decide +kernel
theorem dX4_lookAt_107 : decode cX4_lookAt 107 = .ok (.iload_n 1, 1) := by decide +kernel
theorem dX4_lookAt_108 : decode cX4_lookAt 108 = .ok (.putfield 51, 3) := by decide +kernel
theorem dX4_lookAt_111 : decode cX4_lookAt 111 = .ok (.aload_n 0, 1) := by decide +kernel
theorem dX4_lookAt_112 : decode cX4_lookAt 112 = .ok (.iload_n 2, 1) := by decide +kernel
theorem dX4_lookAt_113 : decode cX4_lookAt 113 = .ok (.putfield 54, 3) := by decide +kernel
theorem dX4_lookAt_116 : decode cX4_lookAt 116 = .ok (.aload_n 0, 1) := by decide +kernel
theorem dX4_lookAt_117 : decode cX4_lookAt 117 = .ok (.iload_n 3, 1) := by decide +kernel
theorem dX4_lookAt_118 : decode cX4_lookAt 118 = .ok (.putfield 57, 3) := by decide +kernel
theorem dX4_lookAt_121 : decode cX4_lookAt 121 = .ok (.aload_n 0, 1) := by decide +kernel
theorem dX4_lookAt_122 : decode cX4_lookAt 122 = .ok (.dup, 1) := by decide +kernel
theorem dX4_lookAt_123 : decode cX4_lookAt 123 = .ok (.getfield 31, 3) := by decide +kernel
theorem dX4_lookAt_126 : decode cX4_lookAt 126 = .ok (.iconst 1, 1) := by decide +kernel
theorem dX4_lookAt_127 : decode cX4_lookAt 127 = .ok (.iadd, 1) := by decide +kernel
theorem dX4_lookAt_128 : decode cX4_lookAt 128 = .ok (.putfield 31, 3) := by decide +kernel
theorem dX4_lookAt_131 : decode cX4_lookAt 131 = .ok (.return_, 1) := by decide +kernel
theorem dX4_sat_0 : decode cX4_sat 0 = .ok (.iconst 0, 1) := by decide +kernel
theorem dX4_sat_1 : decode cX4_sat 1 = .ok (.istore 4, 2) := by decide +kernel
theorem dX4_sat_3 : decode cX4_sat 3 = .ok (.iconst 0, 1) := by decide +kernel
theorem dX4_sat_4 : decode cX4_sat 4 = .ok (.istore 5, 2) := by decide +kernel
theorem dX4_sat_6 : decode cX4_sat 6 = .ok (.iload 5, 2) := by decide +kernel
theorem dX4_sat_8 : decode cX4_sat 8 = .ok (.iload_n 2, 1) := by decide +kernel
theorem dX4_sat_9 : decode cX4_sat 9 = .ok (.if_icmp .ge 22, 3) := by decide +kernel
theorem dX4_sat_12 : decode cX4_sat 12 = .ok (.iload_n 0, 1) := by decide +kernel
theorem dX4_sat_13 : decode cX4_sat 13 = .ok (.iload 5, 2) := by decide +kernel
theorem dX4_sat_15 : decode cX4_sat 15 = .ok (.iload_n 1, 1) := by decide +kernel
theorem dX4_sat_16 : decode cX4_sat 16 = .ok (.imul, 1) := by decide +kernel
theorem dX4_sat_17 : decode cX4_sat 17 = .ok (.iadd, 1) := by decide +kernel
theorem dX4_sat_18 : decode cX4_sat 18 = .ok (.iload_n 3, 1) := by decide +kernel
theorem dX4_sat_19 : decode cX4_sat 19 = .ok (.if_icmp .gt 6, 3) := by decide +kernel
theorem dX4_sat_22 : decode cX4_sat 22 = .ok (.iinc 4 1, 3) := by decide +kernel
theorem dX4_sat_25 : decode cX4_sat 25 = .ok (.iinc 5 1, 3) := by decide +kernel
theorem dX4_sat_28 : decode cX4_sat 28 = .ok (.goto (-22), 3) := by decide +kernel
theorem dX4_sat_31 : decode cX4_sat 31 = .ok (.iload 4, 2) := by decide +kernel
theorem dX4_sat_33 : decode cX4_sat 33 = .ok (.ireturn, 1) := by decide +kernel
theorem dX5_init_0 : decode cX5_init 0 = .ok (.aload_n 0, 1) := by decide +kernel
theorem dX5_init_1 : decode cX5_init 1 = .ok (.invokespecial 1, 3) := by decide +kernel
theorem dX5_init_4 : decode cX5_init 4 = .ok (.return_, 1) := by decide +kernel
theorem dX5_may_0 : decode cX5_may 0 = .ok (.iconst 1, 1) := by decide +kernel
theorem dX5_may_1 : decode cX5_may 1 = .ok (.ireturn, 1) := by decide +kernel
theorem dX5_gains_0 : decode cX5_gains 0 = .ok (.aload_n 0, 1) := by decide +kernel
theorem dX5_gains_1 : decode cX5_gains 1 = .ok (.iload_n 1, 1) := by decide +kernel
theorem dX5_gains_2 : decode cX5_gains 2 = .ok (.iload_n 2, 1) := by decide +kernel
theorem dX5_gains_3 : decode cX5_gains 3 = .ok (.invokespecial 7, 3) := by decide +kernel
theorem dX5_gains_6 : decode cX5_gains 6 = .ok (.iload_n 2, 1) := by decide +kernel
theorem dX5_gains_7 : decode cX5_gains 7 = .ok (.iconst 2, 1) := by decide +kernel
theorem dX5_gains_8 : decode cX5_gains 8 = .ok (.irem, 1) := by decide +kernel
theorem dX5_gains_9 : decode cX5_gains 9 = .ok (.ifCond .ne 7, 3) := by decide +kernel
theorem dX5_gains_12 : decode cX5_gains 12 = .ok (.iconst 3, 1) := by decide +kernel
theorem dX5_gains_13 : decode cX5_gains 13 = .ok (.goto 4, 3) := by decide +kernel
theorem dX5_gains_16 : decode cX5_gains 16 = .ok (.iconst 0, 1) := by decide +kernel
theorem dX5_gains_17 : decode cX5_gains 17 = .ok (.iadd, 1) := by decide +kernel
theorem dX5_gains_18 : decode cX5_gains 18 = .ok (.ireturn, 1) := by decide +kernel
theorem dX5_lifts_0 : decode cX5_lifts 0 = .ok (.aload_n 1, 1) := by decide +kernel
theorem dX5_lifts_1 : decode cX5_lifts 1 = .ok (.bipush 50, 2) := by decide +kernel
theorem dX5_lifts_3 : decode cX5_lifts 3 = .ok (.invokevirtual 11, 3) := by decide +kernel
theorem dX5_lifts_6 : decode cX5_lifts 6 = .ok (.ifCond .eq 17, 3) := by decide +kernel
theorem dX5_lifts_9 : decode cX5_lifts 9 = .ok (.aload_n 0, 1) := by decide +kernel
theorem dX5_lifts_10 : decode cX5_lifts 10 = .ok (.aload_n 1, 1) := by decide +kernel
theorem dX5_lifts_11 : decode cX5_lifts 11 = .ok (.iload_n 2, 1) := by decide +kernel
theorem dX5_lifts_12 : decode cX5_lifts 12 = .ok (.invokespecial 17, 3) := by decide +kernel
theorem dX5_lifts_15 : decode cX5_lifts 15 = .ok (.aload_n 1, 1) := by decide +kernel
theorem dX5_lifts_16 : decode cX5_lifts 16 = .ok (.getfield 21, 3) := by decide +kernel
theorem dX5_lifts_19 : decode cX5_lifts 19 = .ok (.iadd, 1) := by decide +kernel
theorem dX5_lifts_20 : decode cX5_lifts 20 = .ok (.goto 4, 3) := by decide +kernel
theorem dX5_lifts_23 : decode cX5_lifts 23 = .ok (.iconst 0, 1) := by decide +kernel
theorem dX5_lifts_24 : decode cX5_lifts 24 = .ok (.ireturn, 1) := by decide +kernel
theorem dX5_wipes_0 : decode cX5_wipes 0 = .ok (.aload_n 1, 1) := by decide +kernel
theorem dX5_wipes_1 : decode cX5_wipes 1 = .ok (.bipush 51, 2) := by decide +kernel
theorem dX5_wipes_3 : decode cX5_wipes 3 = .ok (.invokevirtual 11, 3) := by decide +kernel
theorem dX5_wipes_6 : decode cX5_wipes 6 = .ok (.ifCond .eq 22, 3) := by decide +kernel
theorem dX5_wipes_9 : decode cX5_wipes 9 = .ok (.aload_n 0, 1) := by decide +kernel
theorem dX5_wipes_10 : decode cX5_wipes 10 = .ok (.aload_n 1, 1) := by decide +kernel
theorem dX5_wipes_11 : decode cX5_wipes 11 = .ok (.iload_n 2, 1) := by decide +kernel
theorem dX5_wipes_12 : decode cX5_wipes 12 = .ok (.invokespecial 25, 3) := by decide +kernel
theorem dX5_wipes_15 : decode cX5_wipes 15 = .ok (.aload_n 0, 1) := by decide +kernel
theorem dX5_wipes_16 : decode cX5_wipes 16 = .ok (.aload_n 1, 1) := by decide +kernel
theorem dX5_wipes_17 : decode cX5_wipes 17 = .ok (.aload_n 1, 1) := by decide +kernel
theorem dX5_wipes_18 : decode cX5_wipes 18 = .ok (.getfield 21, 3) := by decide +kernel
theorem dX5_wipes_21 : decode cX5_wipes 21 = .ok (.invokevirtual 28, 3) := by decide +kernel
theorem dX5_wipes_24 : decode cX5_wipes 24 = .ok (.ixor, 1) := by decide +kernel
theorem dX5_wipes_25 : decode cX5_wipes 25 = .ok (.goto 4, 3) := by decide +kernel
theorem dX5_wipes_28 : decode cX5_wipes 28 = .ok (.iconst 0, 1) := by decide +kernel
theorem dX5_wipes_29 : decode cX5_wipes 29 = .ok (.ireturn, 1) := by decide +kernel
theorem dX6_init_0 : decode cX6_init 0 = .ok (.aload_n 0, 1) := by decide +kernel
theorem dX6_init_1 : decode cX6_init 1 = .ok (.invokespecial 1, 3) := by decide +kernel
theorem dX6_init_4 : decode cX6_init 4 = .ok (.return_, 1) := by decide +kernel
theorem dX6_isTaken_0 : decode cX6_isTaken 0 = .ok (.iload_n 0, 1) := by decide +kernel
theorem dX6_isTaken_1 : decode cX6_isTaken 1 = .ok (.iload_n 1, 1) := by decide +kernel
theorem dX6_isTaken_2 : decode cX6_isTaken 2 = .ok (.ishr, 1) := by decide +kernel
theorem dX6_isTaken_3 : decode cX6_isTaken 3 = .ok (.iconst 1, 1) := by decide +kernel
theorem dX6_isTaken_4 : decode cX6_isTaken 4 = .ok (.iand, 1) := by decide +kernel
theorem dX6_isTaken_5 : decode cX6_isTaken 5 = .ok (.iconst 1, 1) := by decide +kernel
theorem dX6_isTaken_6 : decode cX6_isTaken 6 = .ok (.if_icmp .ne 7, 3) := by decide +kernel
theorem dX6_isTaken_9 : decode cX6_isTaken 9 = .ok (.iconst 1, 1) := by decide +kernel
theorem dX6_isTaken_10 : decode cX6_isTaken 10 = .ok (.goto 4, 3) := by decide +kernel
theorem dX6_isTaken_13 : decode cX6_isTaken 13 = .ok (.iconst 0, 1) := by decide +kernel
theorem dX6_isTaken_14 : decode cX6_isTaken 14 = .ok (.ireturn, 1) := by decide +kernel
theorem dX6_may_0 : decode cX6_may 0 = .ok (.iload_n 1, 1) := by decide +kernel
theorem dX6_may_1 : decode cX6_may 1 = .ok (.iload_n 2, 1) := by decide +kernel
theorem dX6_may_2 : decode cX6_may 2 = .ok (.invokestatic 7, 3) := by decide +kernel
theorem dX6_may_5 : decode cX6_may 5 = .ok (.ifCond .ne 7, 3) := by decide +kernel
theorem dX6_may_8 : decode cX6_may 8 = .ok (.iconst 1, 1) := by decide +kernel
theorem dX6_may_9 : decode cX6_may 9 = .ok (.goto 4, 3) := by decide +kernel
theorem dX6_may_12 : decode cX6_may 12 = .ok (.iconst 0, 1) := by decide +kernel
theorem dX6_may_13 : decode cX6_may 13 = .ok (.ireturn, 1) := by decide +kernel
theorem dX6_gains_0 : decode cX6_gains 0 = .ok (.iload_n 1, 1) := by decide +kernel
theorem dX6_gains_1 : decode cX6_gains 1 = .ok (.ireturn, 1) := by decide +kernel
theorem dX6_tires_0 : decode cX6_tires 0 = .ok (.iconst 2, 1) := by decide +kernel
theorem dX6_tires_1 : decode cX6_tires 1 = .ok (.ireturn, 1) := by decide +kernel
theorem dX6_lifts_0 : decode cX6_lifts 0 = .ok (.aload_n 1, 1) := by decide +kernel
theorem dX6_lifts_1 : decode cX6_lifts 1 = .ok (.bipush 10, 2) := by decide +kernel
theorem dX6_lifts_3 : decode cX6_lifts 3 = .ok (.invokevirtual 13, 3) := by decide +kernel
theorem dX6_lifts_6 : decode cX6_lifts 6 = .ok (.ifCond .eq 14, 3) := by decide +kernel
theorem dX6_lifts_9 : decode cX6_lifts 9 = .ok (.iload_n 2, 1) := by decide +kernel
theorem dX6_lifts_10 : decode cX6_lifts 10 = .ok (.aload_n 1, 1) := by decide +kernel
theorem dX6_lifts_11 : decode cX6_lifts 11 = .ok (.getfield 19, 3) := by decide +kernel
theorem dX6_lifts_14 : decode cX6_lifts 14 = .ok (.iconst 2, 1) := by decide +kernel
theorem dX6_lifts_15 : decode cX6_lifts 15 = .ok (.imul, 1) := by decide +kernel
theorem dX6_lifts_16 : decode cX6_lifts 16 = .ok (.iadd, 1) := by decide +kernel
theorem dX6_lifts_17 : decode cX6_lifts 17 = .ok (.goto 4, 3) := by decide +kernel
theorem dX6_lifts_20 : decode cX6_lifts 20 = .ok (.iconst 0, 1) := by decide +kernel
theorem dX6_lifts_21 : decode cX6_lifts 21 = .ok (.ireturn, 1) := by decide +kernel
theorem dX6_groans_0 : decode cX6_groans 0 = .ok (.aload_n 1, 1) := by decide +kernel
theorem dX6_groans_1 : decode cX6_groans 1 = .ok (.bipush 11, 2) := by decide +kernel
theorem dX6_groans_3 : decode cX6_groans 3 = .ok (.invokevirtual 13, 3) := by decide +kernel
theorem dX6_groans_6 : decode cX6_groans 6 = .ok (.ifCond .eq 17, 3) := by decide +kernel
theorem dX6_groans_9 : decode cX6_groans 9 = .ok (.aload_n 0, 1) := by decide +kernel
theorem dX6_groans_10 : decode cX6_groans 10 = .ok (.aload_n 1, 1) := by decide +kernel
theorem dX6_groans_11 : decode cX6_groans 11 = .ok (.iload_n 2, 1) := by decide +kernel
theorem dX6_groans_12 : decode cX6_groans 12 = .ok (.invokevirtual 23, 3) := by decide +kernel
theorem dX6_groans_15 : decode cX6_groans 15 = .ok (.aload_n 1, 1) := by decide +kernel
theorem dX6_groans_16 : decode cX6_groans 16 = .ok (.getfield 27, 3) := by decide +kernel
theorem dX6_groans_19 : decode cX6_groans 19 = .ok (.ixor, 1) := by decide +kernel
theorem dX6_groans_20 : decode cX6_groans 20 = .ok (.goto 4, 3) := by decide +kernel
theorem dX6_groans_23 : decode cX6_groans 23 = .ok (.iconst 0, 1) := by decide +kernel
theorem dX6_groans_24 : decode cX6_groans 24 = .ok (.ireturn, 1) := by decide +kernel
theorem dX6_parts_0 : decode cX6_parts 0 = .ok (.aload_n 1, 1) := by decide +kernel
theorem dX6_parts_1 : decode cX6_parts 1 = .ok (.bipush 12, 2) := by decide +kernel
theorem dX6_parts_3 : decode cX6_parts 3 = .ok (.invokevirtual 13, 3) := by decide +kernel
theorem dX6_parts_6 : decode cX6_parts 6 = .ok (.ifCond .ne 5, 3) := by decide +kernel
theorem dX6_parts_9 : decode cX6_parts 9 = .ok (.iconst 0, 1) := by decide +kernel
theorem dX6_parts_10 : decode cX6_parts 10 = .ok (.ireturn, 1) := by decide +kernel
theorem dX6_parts_11 : decode cX6_parts 11 = .ok (.aload_n 1, 1) := by decide +kernel
theorem dX6_parts_12 : decode cX6_parts 12 = .ok (.getfield 19, 3) := by decide +kernel
theorem dX6_parts_15 : decode cX6_parts 15 = .ok (.aload_n 1, 1) := by decide +kernel
theorem dX6_parts_16 : decode cX6_parts 16 = .ok (.getfield 27, 3) := by decide +kernel
theorem dX6_parts_19 : decode cX6_parts 19 = .ok (.isub, 1) := by decide +kernel
theorem dX6_parts_20 : decode cX6_parts 20 = .ok (.istore_n 3, 1) := by decide +kernel
theorem dX6_parts_21 : decode cX6_parts 21 = .ok (.iload_n 3, 1) := by decide +kernel
theorem dX6_parts_22 : decode cX6_parts 22 = .ok (.ifCond .eq 7, 3) := by decide +kernel
theorem dX6_parts_25 : decode cX6_parts 25 = .ok (.iload_n 2, 1) := by decide +kernel
theorem dX6_parts_26 : decode cX6_parts 26 = .ok (.iload_n 3, 1) := by decide +kernel
theorem dX6_parts_27 : decode cX6_parts 27 = .ok (.idiv, 1) := by decide +kernel
theorem dX6_parts_28 : decode cX6_parts 28 = .ok (.ireturn, 1) := by decide +kernel
theorem dX6_parts_29 : decode cX6_parts 29 = .ok (.aload_n 1, 1) := by decide +kernel
theorem dX6_parts_30 : decode cX6_parts 30 = .ok (.iconst 1, 1) := by decide +kernel
theorem dX6_parts_31 : decode cX6_parts 31 = .ok (.putfield 30, 3) := by decide +kernel
theorem dX6_parts_34 : decode cX6_parts 34 = .ok (.iconst 0, 1) := by decide +kernel
theorem dX6_parts_35 : decode cX6_parts 35 = .ok (.ireturn, 1) := by decide +kernel
theorem dX6_wipes_0 : decode cX6_wipes 0 = .ok (.aload_n 1, 1) := by decide +kernel
theorem dX6_wipes_1 : decode cX6_wipes 1 = .ok (.bipush 13, 2) := by decide +kernel
theorem dX6_wipes_3 : decode cX6_wipes 3 = .ok (.invokevirtual 13, 3) := by decide +kernel
theorem dX6_wipes_6 : decode cX6_wipes 6 = .ok (.ifCond .eq 19, 3) := by decide +kernel
theorem dX6_wipes_9 : decode cX6_wipes 9 = .ok (.aload_n 0, 1) := by decide +kernel
theorem dX6_wipes_10 : decode cX6_wipes 10 = .ok (.aload_n 1, 1) := by decide +kernel
theorem dX6_wipes_11 : decode cX6_wipes 11 = .ok (.iload_n 2, 1) := by decide +kernel
theorem dX6_wipes_12 : decode cX6_wipes 12 = .ok (.invokevirtual 34, 3) := by decide +kernel
theorem dX6_wipes_15 : decode cX6_wipes 15 = .ok (.aload_n 0, 1) := by decide +kernel
theorem dX6_wipes_16 : decode cX6_wipes 16 = .ok (.aload_n 1, 1) := by decide +kernel
theorem dX6_wipes_17 : decode cX6_wipes 17 = .ok (.iload_n 2, 1) := by decide +kernel
theorem dX6_wipes_18 : decode cX6_wipes 18 = .ok (.invokevirtual 37, 3) := by decide +kernel
theorem dX6_wipes_21 : decode cX6_wipes 21 = .ok (.isub, 1) := by decide +kernel
theorem dX6_wipes_22 : decode cX6_wipes 22 = .ok (.goto 4, 3) := by decide +kernel
theorem dX6_wipes_25 : decode cX6_wipes 25 = .ok (.iconst 0, 1) := by decide +kernel
theorem dX6_wipes_26 : decode cX6_wipes 26 = .ok (.ireturn, 1) := by decide +kernel
theorem dX7_init_0 : decode cX7_init 0 = .ok (.aload_n 0, 1) := by decide +kernel
theorem dX7_init_1 : decode cX7_init 1 = .ok (.invokespecial 3, 3) := by decide +kernel
theorem dX7_init_4 : decode cX7_init 4 = .ok (.aload_n 0, 1) := by decide +kernel
theorem dX7_init_5 : decode cX7_init 5 = .ok (.iconst 5, 1) := by decide +kernel
theorem dX7_init_6 : decode cX7_init 6 = .ok (.anewarray 9, 3) := by decide +kernel
theorem dX7_init_9 : decode cX7_init 9 = .ok (.putfield 11, 3) := by decide +kernel
theorem dX7_init_12 : decode cX7_init 12 = .ok (.aload_n 0, 1) := by decide +kernel
theorem dX7_init_13 : decode cX7_init 13 = .ok (.iconst 4, 1) := by decide +kernel
theorem dX7_init_14 : decode cX7_init 14 = .ok (.newarray .int, 2) := by decide +kernel
theorem dX7_init_16 : decode cX7_init 16 = .ok (.putfield 17, 3) := by decide +kernel
theorem dX7_init_19 : decode cX7_init 19 = .ok (.aload_n 0, 1) := by decide +kernel
theorem dX7_init_20 : decode cX7_init 20 = .ok (.iconst 4, 1) := by decide +kernel
theorem dX7_init_21 : decode cX7_init 21 = .ok (.newarray .int, 2) := by decide +kernel
theorem dX7_init_23 : decode cX7_init 23 = .ok (.putfield 21, 3) := by decide +kernel
theorem dX7_init_26 : decode cX7_init 26 = .ok (.iconst 0, 1) := by decide +kernel
theorem dX7_init_27 : decode cX7_init 27 = .ok (.istore_n 3, 1) := by decide +kernel
theorem dX7_init_28 : decode cX7_init 28 = .ok (.iload_n 3, 1) := by decide +kernel
theorem dX7_init_29 : decode cX7_init 29 = .ok (.iconst 4, 1) := by decide +kernel
theorem dX7_init_30 : decode cX7_init 30 = .ok (.if_icmp .gt 24, 3) := by decide +kernel
theorem dX7_init_33 : decode cX7_init 33 = .ok (.aload_n 0, 1) := by decide +kernel
theorem dX7_init_34 : decode cX7_init 34 = .ok (.getfield 11, 3) := by decide +kernel
theorem dX7_init_37 : decode cX7_init 37 = .ok (.iload_n 3, 1) := by decide +kernel
theorem dX7_init_38 : decode cX7_init 38 = .ok (.new 9, 3) := by decide +kernel
theorem dX7_init_41 : decode cX7_init 41 = .ok (.dup, 1) := by decide +kernel
theorem dX7_init_42 : decode cX7_init 42 = .ok (.aload_n 1, 1) := by decide +kernel
theorem dX7_init_43 : decode cX7_init 43 = .ok (.aload_n 2, 1) := by decide +kernel
theorem dX7_init_44 : decode cX7_init 44 = .ok (.invokespecial 24, 3) := by decide +kernel
theorem dX7_init_47 : decode cX7_init 47 = .ok (.aastore, 1) := by decide +kernel
theorem dX7_init_48 : decode cX7_init 48 = .ok (.iinc 3 1, 3) := by decide +kernel
theorem dX7_init_51 : decode cX7_init 51 = .ok (.goto (-23), 3) := by decide +kernel
theorem dX7_init_54 : decode cX7_init 54 = .ok (.return_, 1) := by decide +kernel
theorem dX7_begin_0 : decode cX7_begin 0 = .ok (.aload_n 0, 1) := by decide +kernel
theorem dX7_begin_1 : decode cX7_begin 1 = .ok (.iload_n 2, 1) := by decide +kernel
theorem dX7_begin_2 : decode cX7_begin 2 = .ok (.aload_n 1, 1) := by decide +kernel
theorem dX7_begin_3 : decode cX7_begin 3 = .ok (.getfield 27, 3) := by decide +kernel
theorem dX7_begin_6 : decode cX7_begin 6 = .ok (.aload_n 1, 1) := by decide +kernel
theorem dX7_begin_7 : decode cX7_begin 7 = .ok (.getfield 31, 3) := by decide +kernel
theorem dX7_begin_10 : decode cX7_begin 10 = .ok (.isub, 1) := by decide +kernel
theorem dX7_begin_11 : decode cX7_begin 11 = .ok (.invokestatic 34, 3) := by decide +kernel
theorem dX7_begin_14 : decode cX7_begin 14 = .ok (.putfield 40, 3) := by decide +kernel
theorem dX7_begin_17 : decode cX7_begin 17 = .ok (.iconst 0, 1) := by decide +kernel
theorem dX7_begin_18 : decode cX7_begin 18 = .ok (.istore_n 3, 1) := by decide +kernel
theorem dX7_begin_19 : decode cX7_begin 19 = .ok (.iload_n 3, 1) := by decide +kernel
theorem dX7_begin_20 : decode cX7_begin 20 = .ok (.aload_n 0, 1) := by decide +kernel
theorem dX7_begin_21 : decode cX7_begin 21 = .ok (.getfield 40, 3) := by decide +kernel
theorem dX7_begin_24 : decode cX7_begin 24 = .ok (.if_icmp .gt 19, 3) := by decide +kernel
theorem dX7_begin_27 : decode cX7_begin 27 = .ok (.aload_n 0, 1) := by decide +kernel
theorem dX7_begin_28 : decode cX7_begin 28 = .ok (.getfield 11, 3) := by decide +kernel
theorem dX7_begin_31 : decode cX7_begin 31 = .ok (.iload_n 3, 1) := by decide +kernel
theorem dX7_begin_32 : decode cX7_begin 32 = .ok (.aaload, 1) := by decide +kernel
theorem dX7_begin_33 : decode cX7_begin 33 = .ok (.aload_n 1, 1) := by decide +kernel
theorem dX7_begin_34 : decode cX7_begin 34 = .ok (.invokevirtual 43, 3) := by decide +kernel
theorem dX7_begin_37 : decode cX7_begin 37 = .ok (.iinc 3 1, 3) := by decide +kernel
theorem dX7_begin_40 : decode cX7_begin 40 = .ok (.goto (-21), 3) := by decide +kernel
theorem dX7_begin_43 : decode cX7_begin 43 = .ok (.return_, 1) := by decide +kernel
theorem dX7_search_0 : decode cX7_search 0 = .ok (.aload_n 0, 1) := by decide +kernel
theorem dX7_search_1 : decode cX7_search 1 = .ok (.aload_n 1, 1) := by decide +kernel
theorem dX7_search_2 : decode cX7_search 2 = .ok (.iload_n 2, 1) := by decide +kernel
theorem dX7_search_3 : decode cX7_search 3 = .ok (.invokevirtual 47, 3) := by decide +kernel
theorem dX7_search_6 : decode cX7_search 6 = .ok (.aload_n 0, 1) := by decide +kernel
theorem dX7_search_7 : decode cX7_search 7 = .ok (.iload_n 3, 1) := by decide +kernel
theorem dX7_search_8 : decode cX7_search 8 = .ok (.putfield 51, 3) := by decide +kernel
theorem dX7_search_11 : decode cX7_search 11 = .ok (.aload_n 0, 1) := by decide +kernel
theorem dX7_search_12 : decode cX7_search 12 = .ok (.aload_n 0, 1) := by decide +kernel
theorem dX7_search_13 : decode cX7_search 13 = .ok (.getfield 40, 3) := by decide +kernel
theorem dX7_search_16 : decode cX7_search 16 = .ok (.putfield 54, 3) := by decide +kernel
theorem dX7_search_19 : decode cX7_search 19 = .ok (.aload_n 0, 1) := by decide +kernel
theorem dX7_search_20 : decode cX7_search 20 = .ok (.iconst (-1), 1) := by decide +kernel
theorem dX7_search_21 : decode cX7_search 21 = .ok (.putfield 57, 3) := by decide +kernel
theorem dX7_search_24 : decode cX7_search 24 = .ok (.aload_n 0, 1) := by decide +kernel
theorem dX7_search_25 : decode cX7_search 25 = .ok (.iconst 0, 1) := by decide +kernel
theorem dX7_search_26 : decode cX7_search 26 = .ok (.putfield 60, 3) := by decide +kernel
theorem dX7_search_29 : decode cX7_search 29 = .ok (.aload_n 0, 1) := by decide +kernel
theorem dX7_search_30 : decode cX7_search 30 = .ok (.iconst 5, 1) := by decide +kernel
theorem dX7_search_31 : decode cX7_search 31 = .ok (.putfield 63, 3) := by decide +kernel
theorem dX7_search_34 : decode cX7_search 34 = .ok (.aload_n 0, 1) := by decide +kernel
theorem dX7_search_35 : decode cX7_search 35 = .ok (.iconst 0, 1) := by decide +kernel
theorem dX7_search_36 : decode cX7_search 36 = .ok (.putfield 66, 3) := by decide +kernel
theorem dX7_search_39 : decode cX7_search 39 = .ok (.aload_n 0, 1) := by decide +kernel
theorem dX7_search_40 : decode cX7_search 40 = .ok (.iconst 0, 1) := by decide +kernel
theorem dX7_search_41 : decode cX7_search 41 = .ok (.iconst 0, 1) := by decide +kernel
theorem dX7_search_42 : decode cX7_search 42 = .ok (.iconst 0, 1) := by decide +kernel
theorem dX7_search_43 : decode cX7_search 43 = .ok (.iconst 0, 1) := by decide +kernel
theorem dX7_search_44 : decode cX7_search 44 = .ok (.invokevirtual 69, 3) := by decide +kernel
theorem dX7_search_47 : decode cX7_search 47 = .ok (.return_, 1) := by decide +kernel
theorem dX7_walk_0 : decode cX7_walk 0 = .ok (.iload_n 1, 1) := by decide +kernel
theorem dX7_walk_1 : decode cX7_walk 1 = .ok (.aload_n 0, 1) := by decide +kernel
theorem dX7_walk_2 : decode cX7_walk 2 = .ok (.getfield 40, 3) := by decide +kernel
theorem dX7_walk_5 : decode cX7_walk 5 = .ok (.if_icmp .lt 12, 3) := by decide +kernel
theorem dX7_walk_8 : decode cX7_walk 8 = .ok (.aload_n 0, 1) := by decide +kernel
theorem dX7_walk_9 : decode cX7_walk 9 = .ok (.iload_n 2, 1) := by decide +kernel
theorem dX7_walk_10 : decode cX7_walk 10 = .ok (.iload_n 3, 1) := by decide +kernel
theorem dX7_walk_11 : decode cX7_walk 11 = .ok (.iload 4, 2) := by decide +kernel
theorem dX7_walk_13 : decode cX7_walk 13 = .ok (.invokevirtual 73, 3) := by decide +kernel
theorem dX7_walk_16 : decode cX7_walk 16 = .ok (.return_, 1) := by decide +kernel
theorem dX7_walk_17 : decode cX7_walk 17 = .ok (.aload_n 0, 1) := by decide +kernel
theorem dX7_walk_18 : decode cX7_walk 18 = .ok (.getfield 11, 3) := by decide +kernel
theorem dX7_walk_21 : decode cX7_walk 21 = .ok (.iload_n 1, 1) := by decide +kernel
theorem dX7_walk_22 : decode cX7_walk 22 = .ok (.iconst 1, 1) := by decide +kernel
theorem dX7_walk_23 : decode cX7_walk 23 = .ok (.iadd, 1) := by decide +kernel
theorem dX7_walk_24 : decode cX7_walk 24 = .ok (.aaload, 1) := by decide +kernel
theorem dX7_walk_25 : decode cX7_walk 25 = .ok (.astore 5, 2) := by decide +kernel
theorem dX7_walk_27 : decode cX7_walk 27 = .ok (.iconst 0, 1) := by decide +kernel
theorem dX7_walk_28 : decode cX7_walk 28 = .ok (.istore 6, 2) := by decide +kernel
theorem dX7_walk_30 : decode cX7_walk 30 = .ok (.iload 6, 2) := by decide +kernel
theorem dX7_walk_32 : decode cX7_walk 32 = .ok (.aload 5, 2) := by decide +kernel
theorem dX7_walk_34 : decode cX7_walk 34 = .ok (.getfield 77, 3) := by decide +kernel
theorem dX7_walk_37 : decode cX7_walk 37 = .ok (.if_icmp .gt 87, 3) := by decide +kernel
theorem dX7_walk_40 : decode cX7_walk 40 = .ok (.aload 5, 2) := by decide +kernel
theorem dX7_walk_42 : decode cX7_walk 42 = .ok (.aload_n 0, 1) := by decide +kernel
theorem dX7_walk_43 : decode cX7_walk 43 = .ok (.getfield 11, 3) := by decide +kernel
theorem dX7_walk_46 : decode cX7_walk 46 = .ok (.iload_n 1, 1) := by decide +kernel
theorem dX7_walk_47 : decode cX7_walk 47 = .ok (.aaload, 1) := by decide +kernel
theorem dX7_walk_48 : decode cX7_walk 48 = .ok (.invokevirtual 80, 3) := by decide +kernel
theorem dX7_walk_51 : decode cX7_walk 51 = .ok (.aload 5, 2) := by decide +kernel
theorem dX7_walk_53 : decode cX7_walk 53 = .ok (.iload 6, 2) := by decide +kernel
theorem dX7_walk_55 : decode cX7_walk 55 = .ok (.invokevirtual 83, 3) := by decide +kernel
theorem dX7_walk_58 : decode cX7_walk 58 = .ok (.istore 7, 2) := by decide +kernel
theorem dX7_walk_60 : decode cX7_walk 60 = .ok (.aload_n 0, 1) := by decide +kernel
theorem dX7_walk_61 : decode cX7_walk 61 = .ok (.getfield 17, 3) := by decide +kernel
theorem dX7_walk_64 : decode cX7_walk 64 = .ok (.iload_n 1, 1) := by decide +kernel
theorem dX7_walk_65 : decode cX7_walk 65 = .ok (.iload 6, 2) := by decide +kernel
theorem dX7_walk_67 : decode cX7_walk 67 = .ok (.iastore, 1) := by decide +kernel
theorem dX7_walk_68 : decode cX7_walk 68 = .ok (.aload 5, 2) := by decide +kernel
theorem dX7_walk_70 : decode cX7_walk 70 = .ok (.getfield 87, 3) := by decide +kernel
theorem dX7_walk_73 : decode cX7_walk 73 = .ok (.ifCond .lt 16, 3) := by decide +kernel
theorem dX7_walk_76 : decode cX7_walk 76 = .ok (.iload 4, 2) := by decide +kernel
theorem dX7_walk_78 : decode cX7_walk 78 = .ok (.iconst 1, 1) := by decide +kernel
theorem dX7_walk_79 : decode cX7_walk 79 = .ok (.aload 5, 2) := by decide +kernel
theorem dX7_walk_81 : decode cX7_walk 81 = .ok (.getfield 87, 3) := by decide +kernel
theorem dX7_walk_84 : decode cX7_walk 84 = .ok (.ishl, 1) := by decide +kernel
theorem dX7_walk_85 : decode cX7_walk 85 = .ok (.ior, 1) := by decide +kernel
theorem dX7_walk_86 : decode cX7_walk 86 = .ok (.goto 5, 3) := by decide +kernel
theorem dX7_walk_89 : decode cX7_walk 89 = .ok (.iload 4, 2) := by decide +kernel
theorem dX7_walk_91 : decode cX7_walk 91 = .ok (.istore 8, 2) := by decide +kernel
theorem dX7_walk_93 : decode cX7_walk 93 = .ok (.aload_n 0, 1) := by decide +kernel
theorem dX7_walk_94 : decode cX7_walk 94 = .ok (.iload_n 1, 1) := by decide +kernel
theorem dX7_walk_95 : decode cX7_walk 95 = .ok (.iconst 1, 1) := by decide +kernel
theorem dX7_walk_96 : decode cX7_walk 96 = .ok (.iadd, 1) := by decide +kernel
theorem dX7_walk_97 : decode cX7_walk 97 = .ok (.iload_n 2, 1) := by decide +kernel
theorem dX7_walk_98 : decode cX7_walk 98 = .ok (.iload 7, 2) := by decide +kernel
theorem dX7_walk_100 : decode cX7_walk 100 = .ok (.iadd, 1) := by decide +kernel
theorem dX7_walk_101 : decode cX7_walk 101 = .ok (.iload 6, 2) := by decide +kernel
theorem dX7_walk_103 : decode cX7_walk 103 = .ok (.ifCond .ne 7, 3) := by decide +kernel
theorem dX7_walk_106 : decode cX7_walk 106 = .ok (.iload_n 3, 1) := by decide +kernel
theorem dX7_walk_107 : decode cX7_walk 107 = .ok (.goto 6, 3) := by decide +kernel
theorem dX7_walk_110 : decode cX7_walk 110 = .ok (.iload_n 3, 1) := by decide +kernel
theorem dX7_walk_111 : decode cX7_walk 111 = .ok (.iconst 1, 1) := by decide +kernel
theorem dX7_walk_112 : decode cX7_walk 112 = .ok (.iadd, 1) := by decide +kernel
theorem dX7_walk_113 : decode cX7_walk 113 = .ok (.iload 8, 2) := by decide +kernel
theorem dX7_walk_115 : decode cX7_walk 115 = .ok (.invokevirtual 69, 3) := by decide +kernel
theorem dX7_walk_118 : decode cX7_walk 118 = .ok (.iinc 6 1, 3) := by decide +kernel
theorem dX7_walk_121 : decode cX7_walk 121 = .ok (.goto (-91), 3) := by decide +kernel
theorem dX7_walk_124 : decode cX7_walk 124 = .ok (.return_, 1) := by decide +kernel
theorem dX7_weigh_0 : decode cX7_weigh 0 = .ok (.aload_n 0, 1) := by decide +kernel
theorem dX7_weigh_1 : decode cX7_weigh 1 = .ok (.dup, 1) := by decide +kernel
theorem dX7_weigh_2 : decode cX7_weigh 2 = .ok (.getfield 66, 3) := by decide +kernel
theorem dX7_weigh_5 : decode cX7_weigh 5 = .ok (.iload_n 3, 1) := by decide +kernel
theorem dX7_weigh_6 : decode cX7_weigh 6 = .ok (.ior, 1) := by decide +kernel
theorem dX7_weigh_7 : decode cX7_weigh 7 = .ok (.putfield 66, 3) := by decide +kernel
theorem dX7_weigh_10 : decode cX7_weigh 10 = .ok (.aload_n 0, 1) := by decide +kernel
theorem dX7_weigh_11 : decode cX7_weigh 11 = .ok (.getfield 51, 3) := by decide +kernel
theorem dX7_weigh_14 : decode cX7_weigh 14 = .ok (.iload_n 3, 1) := by decide +kernel
theorem dX7_weigh_15 : decode cX7_weigh 15 = .ok (.iconst (-1), 1) := by decide +kernel
theorem dX7_weigh_16 : decode cX7_weigh 16 = .ok (.ixor, 1) := by decide +kernel
theorem dX7_weigh_17 : decode cX7_weigh 17 = .ok (.iand, 1) := by decide +kernel
theorem dX7_weigh_18 : decode cX7_weigh 18 = .ok (.ifCond .ne 15, 3) := by decide +kernel
theorem dX7_weigh_21 : decode cX7_weigh 21 = .ok (.aload_n 0, 1) := by decide +kernel
theorem dX7_weigh_22 : decode cX7_weigh 22 = .ok (.aload_n 0, 1) := by decide +kernel
theorem dX7_weigh_23 : decode cX7_weigh 23 = .ok (.getfield 63, 3) := by decide +kernel
theorem dX7_weigh_26 : decode cX7_weigh 26 = .ok (.iload_n 2, 1) := by decide +kernel
theorem dX7_weigh_27 : decode cX7_weigh 27 = .ok (.invokestatic 34, 3) := by decide +kernel
theorem dX7_weigh_30 : decode cX7_weigh 30 = .ok (.putfield 63, 3) := by decide +kernel
theorem dX7_weigh_33 : decode cX7_weigh 33 = .ok (.iload_n 1, 1) := by decide +kernel
theorem dX7_weigh_34 : decode cX7_weigh 34 = .ok (.aload_n 0, 1) := by decide +kernel
theorem dX7_weigh_35 : decode cX7_weigh 35 = .ok (.getfield 57, 3) := by decide +kernel
theorem dX7_weigh_38 : decode cX7_weigh 38 = .ok (.if_icmp .ne 13, 3) := by decide +kernel
theorem dX7_weigh_41 : decode cX7_weigh 41 = .ok (.aload_n 0, 1) := by decide +kernel
theorem dX7_weigh_42 : decode cX7_weigh 42 = .ok (.dup, 1) := by decide +kernel
theorem dX7_weigh_43 : decode cX7_weigh 43 = .ok (.getfield 60, 3) := by decide +kernel
theorem dX7_weigh_46 : decode cX7_weigh 46 = .ok (.iconst 1, 1) := by decide +kernel
theorem dX7_weigh_47 : decode cX7_weigh 47 = .ok (.iadd, 1) := by decide +kernel
theorem dX7_weigh_48 : decode cX7_weigh 48 = .ok (.putfield 60, 3) := by decide +kernel
theorem dX7_weigh_51 : decode cX7_weigh 51 = .ok (.iload_n 1, 1) := by decide +kernel
theorem dX7_weigh_52 : decode cX7_weigh 52 = .ok (.aload_n 0, 1) := by decide +kernel
theorem dX7_weigh_53 : decode cX7_weigh 53 = .ok (.getfield 57, 3) := by decide +kernel
theorem dX7_weigh_56 : decode cX7_weigh 56 = .ok (.if_icmp .gt 4, 3) := by decide +kernel
theorem dX7_weigh_59 : decode cX7_weigh 59 = .ok (.return_, 1) := by decide +kernel
theorem dX7_weigh_60 : decode cX7_weigh 60 = .ok (.aload_n 0, 1) := by decide +kernel
theorem dX7_weigh_61 : decode cX7_weigh 61 = .ok (.iload_n 1, 1) := by decide +kernel
theorem dX7_weigh_62 : decode cX7_weigh 62 = .ok (.putfield 57, 3) := by decide +kernel
theorem dX7_weigh_65 : decode cX7_weigh 65 = .ok (.aload_n 0, 1) := by decide +kernel
theorem dX7_weigh_66 : decode cX7_weigh 66 = .ok (.iconst 1, 1) := by decide +kernel
theorem dX7_weigh_67 : decode cX7_weigh 67 = .ok (.putfield 60, 3) := by decide +kernel
theorem dX7_weigh_70 : decode cX7_weigh 70 = .ok (.iconst 0, 1) := by decide +kernel
theorem dX7_weigh_71 : decode cX7_weigh 71 = .ok (.istore 4, 2) := by decide +kernel
theorem dX7_weigh_73 : decode cX7_weigh 73 = .ok (.iload 4, 2) := by decide +kernel
theorem dX7_weigh_75 : decode cX7_weigh 75 = .ok (.aload_n 0, 1) := by decide +kernel
theorem dX7_weigh_76 : decode cX7_weigh 76 = .ok (.getfield 54, 3) := by decide +kernel
theorem dX7_weigh_79 : decode cX7_weigh 79 = .ok (.if_icmp .ge 23, 3) := by decide +kernel
theorem dX7_weigh_82 : decode cX7_weigh 82 = .ok (.aload_n 0, 1) := by decide +kernel
theorem dX7_weigh_83 : decode cX7_weigh 83 = .ok (.getfield 21, 3) := by decide +kernel
theorem dX7_weigh_86 : decode cX7_weigh 86 = .ok (.iload 4, 2) := by decide +kernel
theorem dX7_weigh_88 : decode cX7_weigh 88 = .ok (.aload_n 0, 1) := by decide +kernel
theorem dX7_weigh_89 : decode cX7_weigh 89 = .ok (.getfield 17, 3) := by decide +kernel
theorem dX7_weigh_92 : decode cX7_weigh 92 = .ok (.iload 4, 2) := by decide +kernel
theorem dX7_weigh_94 : decode cX7_weigh 94 = .ok (.iaload, 1) := by decide +kernel
theorem dX7_weigh_95 : decode cX7_weigh 95 = .ok (.iastore, 1) := by decide +kernel
theorem dX7_weigh_96 : decode cX7_weigh 96 = .ok (.iinc 4 1, 3) := by decide +kernel
theorem dX7_weigh_99 : decode cX7_weigh 99 = .ok (.goto (-26), 3) := by decide +kernel
theorem dX7_weigh_102 : decode cX7_weigh 102 = .ok (.return_, 1) := by decide +kernel
theorem dX7_match_0 : decode cX7_match 0 = .ok (.aload_n 0, 1) := by decide +kernel
theorem dX7_match_1 : decode cX7_match 1 = .ok (.aload_n 1, 1) := by decide +kernel
theorem dX7_match_2 : decode cX7_match 2 = .ok (.iload_n 2, 1) := by decide +kernel
theorem dX7_match_3 : decode cX7_match 3 = .ok (.invokevirtual 47, 3) := by decide +kernel
theorem dX7_match_6 : decode cX7_match 6 = .ok (.aload_n 0, 1) := by decide +kernel
theorem dX7_match_7 : decode cX7_match 7 = .ok (.aload_n 0, 1) := by decide +kernel
theorem dX7_match_8 : decode cX7_match 8 = .ok (.iconst 0, 1) := by decide +kernel
theorem dX7_match_9 : decode cX7_match 9 = .ok (.invokevirtual 90, 3) := by decide +kernel
theorem dX7_match_12 : decode cX7_match 12 = .ok (.putfield 93, 3) := by decide +kernel
theorem dX7_match_15 : decode cX7_match 15 = .ok (.return_, 1) := by decide +kernel
theorem dX7_playOn_0 : decode cX7_playOn 0 = .ok (.iload_n 1, 1) := by decide +kernel
theorem dX7_playOn_1 : decode cX7_playOn 1 = .ok (.aload_n 0, 1) := by decide +kernel
theorem dX7_playOn_2 : decode cX7_playOn 2 = .ok (.getfield 40, 3) := by decide +kernel
theorem dX7_playOn_5 : decode cX7_playOn 5 = .ok (.if_icmp .lt 5, 3) := by decide +kernel
theorem dX7_playOn_8 : decode cX7_playOn 8 = .ok (.iconst 0, 1) := by decide +kernel
theorem dX7_playOn_9 : decode cX7_playOn 9 = .ok (.ireturn, 1) := by decide +kernel
theorem dX7_playOn_10 : decode cX7_playOn 10 = .ok (.iload_n 1, 1) := by decide +kernel
theorem dX7_playOn_11 : decode cX7_playOn 11 = .ok (.iconst 2, 1) := by decide +kernel
theorem dX7_playOn_12 : decode cX7_playOn 12 = .ok (.irem, 1) := by decide +kernel
theorem dX7_playOn_13 : decode cX7_playOn 13 = .ok (.ifCond .ne 7, 3) := by decide +kernel
theorem dX7_playOn_16 : decode cX7_playOn 16 = .ok (.iconst 1, 1) := by decide +kernel
theorem dX7_playOn_17 : decode cX7_playOn 17 = .ok (.goto 4, 3) := by decide +kernel
theorem dX7_playOn_20 : decode cX7_playOn 20 = .ok (.iconst 0, 1) := by decide +kernel
theorem dX7_playOn_21 : decode cX7_playOn 21 = .ok (.istore_n 2, 1) := by decide +kernel
theorem dX7_playOn_22 : decode cX7_playOn 22 = .ok (.aload_n 0, 1) := by decide +kernel
theorem dX7_playOn_23 : decode cX7_playOn 23 = .ok (.getfield 11, 3) := by decide +kernel
theorem dX7_playOn_26 : decode cX7_playOn 26 = .ok (.iload_n 1, 1) := by decide +kernel
theorem dX7_playOn_27 : decode cX7_playOn 27 = .ok (.iconst 1, 1) := by decide +kernel
theorem dX7_playOn_28 : decode cX7_playOn 28 = .ok (.iadd, 1) := by decide +kernel
theorem dX7_playOn_29 : decode cX7_playOn 29 = .ok (.aaload, 1) := by decide +kernel
theorem dX7_playOn_30 : decode cX7_playOn 30 = .ok (.astore_n 3, 1) := by decide +kernel
