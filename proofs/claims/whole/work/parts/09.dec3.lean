theorem dX7_init_314 : decode cX7_init 314 = .ok (.newarray .int, 2) := by decide +kernel
theorem dX7_init_316 : decode cX7_init 316 = .ok (.putfield 125, 3) := by decide +kernel
theorem dX7_init_319 : decode cX7_init 319 = .ok (.aload_n 0, 1) := by decide +kernel
theorem dX7_init_320 : decode cX7_init 320 = .ok (.bipush 8, 2) := by decide +kernel
theorem dX7_init_322 : decode cX7_init 322 = .ok (.newarray .int, 2) := by decide +kernel
theorem dX7_init_324 : decode cX7_init 324 = .ok (.putfield 128, 3) := by decide +kernel
theorem dX7_init_327 : decode cX7_init 327 = .ok (.return_, 1) := by decide +kernel
theorem dX7_in_0 : decode cX7_in 0 = .ok (.lload_n 0, 1) := by decide +kernel
theorem dX7_in_1 : decode cX7_in 1 = .ok (.lload_n 2, 1) := by decide +kernel
theorem dX7_in_2 : decode cX7_in 2 = .ok (.lcmp, 1) := by decide +kernel
theorem dX7_in_3 : decode cX7_in 3 = .ok (.ifCond .lt 14, 3) := by decide +kernel
theorem dX7_in_6 : decode cX7_in 6 = .ok (.lload_n 0, 1) := by decide +kernel
theorem dX7_in_7 : decode cX7_in 7 = .ok (.lload 4, 2) := by decide +kernel
theorem dX7_in_9 : decode cX7_in 9 = .ok (.lcmp, 1) := by decide +kernel
theorem dX7_in_10 : decode cX7_in 10 = .ok (.ifCond .gt 7, 3) := by decide +kernel
theorem dX7_in_13 : decode cX7_in 13 = .ok (.iconst 1, 1) := by decide +kernel
theorem dX7_in_14 : decode cX7_in 14 = .ok (.goto 4, 3) := by decide +kernel
theorem dX7_in_17 : decode cX7_in 17 = .ok (.iconst 0, 1) := by decide +kernel
theorem dX7_in_18 : decode cX7_in 18 = .ok (.ireturn, 1) := by decide +kernel
theorem dX7_sign_0 : decode cX7_sign 0 = .ok (.iload_n 1, 1) := by decide +kernel
theorem dX7_sign_1 : decode cX7_sign 1 = .ok (.i2l, 1) := by decide +kernel
theorem dX7_sign_2 : decode cX7_sign 2 = .ok (.lconst 1, 1) := by decide +kernel
theorem dX7_sign_3 : decode cX7_sign 3 = .ok (.ldc2_w 131, 3) := by decide +kernel
theorem dX7_sign_6 : decode cX7_sign 6 = .ok (.invokestatic 133, 3) := by decide +kernel
theorem dX7_sign_9 : decode cX7_sign 9 = .ok (.ifCond .ne 6, 3) := by decide +kernel
theorem dX7_sign_12 : decode cX7_sign 12 = .ok (.bipush (-2), 2) := by decide +kernel
theorem dX7_sign_14 : decode cX7_sign 14 = .ok (.ireturn, 1) := by decide +kernel
theorem dX7_sign_15 : decode cX7_sign 15 = .ok (.aload_n 0, 1) := by decide +kernel
theorem dX7_sign_16 : decode cX7_sign 16 = .ok (.getfield 137, 3) := by decide +kernel
theorem dX7_sign_19 : decode cX7_sign 19 = .ok (.iconst 4, 1) := by decide +kernel
theorem dX7_sign_20 : decode cX7_sign 20 = .ok (.if_icmp .ne 6, 3) := by decide +kernel
theorem dX7_sign_23 : decode cX7_sign 23 = .ok (.bipush (-4), 2) := by decide +kernel
theorem dX7_sign_25 : decode cX7_sign 25 = .ok (.ireturn, 1) := by decide +kernel
theorem dX7_sign_26 : decode cX7_sign 26 = .ok (.aload_n 0, 1) := by decide +kernel
theorem dX7_sign_27 : decode cX7_sign 27 = .ok (.getfield 7, 3) := by decide +kernel
theorem dX7_sign_30 : decode cX7_sign 30 = .ok (.aload_n 0, 1) := by decide +kernel
theorem dX7_sign_31 : decode cX7_sign 31 = .ok (.getfield 137, 3) := by decide +kernel
theorem dX7_sign_34 : decode cX7_sign 34 = .ok (.iload_n 1, 1) := by decide +kernel
theorem dX7_sign_35 : decode cX7_sign 35 = .ok (.iastore, 1) := by decide +kernel
theorem dX7_sign_36 : decode cX7_sign 36 = .ok (.aload_n 0, 1) := by decide +kernel
theorem dX7_sign_37 : decode cX7_sign 37 = .ok (.dup, 1) := by decide +kernel
theorem dX7_sign_38 : decode cX7_sign 38 = .ok (.getfield 137, 3) := by decide +kernel
theorem dX7_sign_41 : decode cX7_sign 41 = .ok (.iconst 1, 1) := by decide +kernel
theorem dX7_sign_42 : decode cX7_sign 42 = .ok (.iadd, 1) := by decide +kernel
theorem dX7_sign_43 : decode cX7_sign 43 = .ok (.putfield 137, 3) := by decide +kernel
theorem dX7_sign_46 : decode cX7_sign 46 = .ok (.aload_n 0, 1) := by decide +kernel
theorem dX7_sign_47 : decode cX7_sign 47 = .ok (.iconst 0, 1) := by decide +kernel
theorem dX7_sign_48 : decode cX7_sign 48 = .ok (.putfield 140, 3) := by decide +kernel
theorem dX7_sign_51 : decode cX7_sign 51 = .ok (.aload_n 0, 1) := by decide +kernel
theorem dX7_sign_52 : decode cX7_sign 52 = .ok (.iconst 0, 1) := by decide +kernel
theorem dX7_sign_53 : decode cX7_sign 53 = .ok (.putfield 144, 3) := by decide +kernel
theorem dX7_sign_56 : decode cX7_sign 56 = .ok (.iconst 0, 1) := by decide +kernel
theorem dX7_sign_57 : decode cX7_sign 57 = .ok (.istore_n 2, 1) := by decide +kernel
theorem dX7_sign_58 : decode cX7_sign 58 = .ok (.iload_n 2, 1) := by decide +kernel
theorem dX7_sign_59 : decode cX7_sign 59 = .ok (.bipush 8, 2) := by decide +kernel
theorem dX7_sign_61 : decode cX7_sign 61 = .ok (.if_icmp .ge 16, 3) := by decide +kernel
theorem dX7_sign_64 : decode cX7_sign 64 = .ok (.aload_n 0, 1) := by decide +kernel
theorem dX7_sign_65 : decode cX7_sign 65 = .ok (.getfield 128, 3) := by decide +kernel
theorem dX7_sign_68 : decode cX7_sign 68 = .ok (.iload_n 2, 1) := by decide +kernel
theorem dX7_sign_69 : decode cX7_sign 69 = .ok (.iconst 0, 1) := by decide +kernel
theorem dX7_sign_70 : decode cX7_sign 70 = .ok (.iastore, 1) := by decide +kernel
theorem dX7_sign_71 : decode cX7_sign 71 = .ok (.iinc 2 1, 3) := by decide +kernel
theorem dX7_sign_74 : decode cX7_sign 74 = .ok (.goto (-16), 3) := by decide +kernel
theorem dX7_sign_77 : decode cX7_sign 77 = .ok (.aload_n 0, 1) := by decide +kernel
theorem dX7_sign_78 : decode cX7_sign 78 = .ok (.getfield 137, 3) := by decide +kernel
theorem dX7_sign_81 : decode cX7_sign 81 = .ok (.iconst 1, 1) := by decide +kernel
theorem dX7_sign_82 : decode cX7_sign 82 = .ok (.isub, 1) := by decide +kernel
theorem dX7_sign_83 : decode cX7_sign 83 = .ok (.ireturn, 1) := by decide +kernel
theorem dX7_whole_0 : decode cX7_whole 0 = .ok (.iload_n 0, 1) := by decide +kernel
theorem dX7_whole_1 : decode cX7_whole 1 = .ok (.bipush 23, 2) := by decide +kernel
theorem dX7_whole_3 : decode cX7_whole 3 = .ok (.ishr, 1) := by decide +kernel
theorem dX7_whole_4 : decode cX7_whole 4 = .ok (.sipush 255, 3) := by decide +kernel
theorem dX7_whole_7 : decode cX7_whole 7 = .ok (.iand, 1) := by decide +kernel
theorem dX7_whole_8 : decode cX7_whole 8 = .ok (.bipush 127, 2) := by decide +kernel
theorem dX7_whole_10 : decode cX7_whole 10 = .ok (.isub, 1) := by decide +kernel
theorem dX7_whole_11 : decode cX7_whole 11 = .ok (.istore_n 1, 1) := by decide +kernel
theorem dX7_whole_12 : decode cX7_whole 12 = .ok (.iload_n 0, 1) := by decide +kernel
theorem dX7_whole_13 : decode cX7_whole 13 = .ok (.ifCond .lt 13, 3) := by decide +kernel
theorem dX7_whole_16 : decode cX7_whole 16 = .ok (.iload_n 1, 1) := by decide +kernel
theorem dX7_whole_17 : decode cX7_whole 17 = .ok (.ifCond .lt 9, 3) := by decide +kernel
theorem dX7_whole_20 : decode cX7_whole 20 = .ok (.iload_n 1, 1) := by decide +kernel
theorem dX7_whole_21 : decode cX7_whole 21 = .ok (.bipush 19, 2) := by decide +kernel
theorem dX7_whole_23 : decode cX7_whole 23 = .ok (.if_icmp .le 5, 3) := by decide +kernel
theorem dX7_whole_26 : decode cX7_whole 26 = .ok (.iconst 0, 1) := by decide +kernel
theorem dX7_whole_27 : decode cX7_whole 27 = .ok (.ireturn, 1) := by decide +kernel
theorem dX7_whole_28 : decode cX7_whole 28 = .ok (.iload_n 0, 1) := by decide +kernel
theorem dX7_whole_29 : decode cX7_whole 29 = .ok (.ldc 147, 2) := by decide +kernel
theorem dX7_whole_31 : decode cX7_whole 31 = .ok (.iand, 1) := by decide +kernel
theorem dX7_whole_32 : decode cX7_whole 32 = .ok (.ldc 148, 2) := by decide +kernel
theorem dX7_whole_34 : decode cX7_whole 34 = .ok (.ior, 1) := by decide +kernel
theorem dX7_whole_35 : decode cX7_whole 35 = .ok (.istore_n 2, 1) := by decide +kernel
theorem dX7_whole_36 : decode cX7_whole 36 = .ok (.iload_n 2, 1) := by decide +kernel
theorem dX7_whole_37 : decode cX7_whole 37 = .ok (.bipush 23, 2) := by decide +kernel
theorem dX7_whole_39 : decode cX7_whole 39 = .ok (.iload_n 1, 1) := by decide +kernel
theorem dX7_whole_40 : decode cX7_whole 40 = .ok (.isub, 1) := by decide +kernel
theorem dX7_whole_41 : decode cX7_whole 41 = .ok (.ishr, 1) := by decide +kernel
theorem dX7_whole_42 : decode cX7_whole 42 = .ok (.istore_n 3, 1) := by decide +kernel
theorem dX7_whole_43 : decode cX7_whole 43 = .ok (.iload_n 3, 1) := by decide +kernel
theorem dX7_whole_44 : decode cX7_whole 44 = .ok (.bipush 23, 2) := by decide +kernel
theorem dX7_whole_46 : decode cX7_whole 46 = .ok (.iload_n 1, 1) := by decide +kernel
theorem dX7_whole_47 : decode cX7_whole 47 = .ok (.isub, 1) := by decide +kernel
theorem dX7_whole_48 : decode cX7_whole 48 = .ok (.ishl, 1) := by decide +kernel
theorem dX7_whole_49 : decode cX7_whole 49 = .ok (.iload_n 2, 1) := by decide +kernel
theorem dX7_whole_50 : decode cX7_whole 50 = .ok (.if_icmp .eq 7, 3) := by decide +kernel
theorem dX7_whole_53 : decode cX7_whole 53 = .ok (.iconst 1, 1) := by decide +kernel
theorem dX7_whole_54 : decode cX7_whole 54 = .ok (.goto 4, 3) := by decide +kernel
theorem dX7_whole_57 : decode cX7_whole 57 = .ok (.iconst 0, 1) := by decide +kernel
theorem dX7_whole_58 : decode cX7_whole 58 = .ok (.istore 4, 2) := by decide +kernel
theorem dX7_whole_60 : decode cX7_whole 60 = .ok (.iload_n 3, 1) := by decide +kernel
theorem dX7_whole_61 : decode cX7_whole 61 = .ok (.ldc 149, 2) := by decide +kernel
theorem dX7_whole_63 : decode cX7_whole 63 = .ok (.if_icmp .gt 14, 3) := by decide +kernel
theorem dX7_whole_66 : decode cX7_whole 66 = .ok (.iload_n 3, 1) := by decide +kernel
theorem dX7_whole_67 : decode cX7_whole 67 = .ok (.ldc 149, 2) := by decide +kernel
theorem dX7_whole_69 : decode cX7_whole 69 = .ok (.if_icmp .ne 12, 3) := by decide +kernel
theorem dX7_whole_72 : decode cX7_whole 72 = .ok (.iload 4, 2) := by decide +kernel
theorem dX7_whole_74 : decode cX7_whole 74 = .ok (.ifCond .eq 7, 3) := by decide +kernel
theorem dX7_whole_77 : decode cX7_whole 77 = .ok (.iconst 0, 1) := by decide +kernel
theorem dX7_whole_78 : decode cX7_whole 78 = .ok (.goto 4, 3) := by decide +kernel
theorem dX7_whole_81 : decode cX7_whole 81 = .ok (.iload_n 3, 1) := by decide +kernel
theorem dX7_whole_82 : decode cX7_whole 82 = .ok (.ireturn, 1) := by decide +kernel
theorem dX7_thing_0 : decode cX7_thing 0 = .ok (.iload_n 1, 1) := by decide +kernel
theorem dX7_thing_1 : decode cX7_thing 1 = .ok (.invokestatic 150, 3) := by decide +kernel
theorem dX7_thing_4 : decode cX7_thing 4 = .ok (.istore_n 2, 1) := by decide +kernel
theorem dX7_thing_5 : decode cX7_thing 5 = .ok (.iload_n 2, 1) := by decide +kernel
theorem dX7_thing_6 : decode cX7_thing 6 = .ok (.ifCond .ne 6, 3) := by decide +kernel
theorem dX7_thing_9 : decode cX7_thing 9 = .ok (.bipush (-2), 2) := by decide +kernel
theorem dX7_thing_11 : decode cX7_thing 11 = .ok (.ireturn, 1) := by decide +kernel
theorem dX7_thing_12 : decode cX7_thing 12 = .ok (.aload_n 0, 1) := by decide +kernel
theorem dX7_thing_13 : decode cX7_thing 13 = .ok (.getfield 154, 3) := by decide +kernel
theorem dX7_thing_16 : decode cX7_thing 16 = .ok (.bipush 24, 2) := by decide +kernel
theorem dX7_thing_18 : decode cX7_thing 18 = .ok (.if_icmp .ne 6, 3) := by decide +kernel
theorem dX7_thing_21 : decode cX7_thing 21 = .ok (.bipush (-4), 2) := by decide +kernel
theorem dX7_thing_23 : decode cX7_thing 23 = .ok (.ireturn, 1) := by decide +kernel
theorem dX7_thing_24 : decode cX7_thing 24 = .ok (.aload_n 0, 1) := by decide +kernel
theorem dX7_thing_25 : decode cX7_thing 25 = .ok (.getfield 13, 3) := by decide +kernel
theorem dX7_thing_28 : decode cX7_thing 28 = .ok (.aload_n 0, 1) := by decide +kernel
theorem dX7_thing_29 : decode cX7_thing 29 = .ok (.getfield 154, 3) := by decide +kernel
theorem dX7_thing_32 : decode cX7_thing 32 = .ok (.iload_n 2, 1) := by decide +kernel
theorem dX7_thing_33 : decode cX7_thing 33 = .ok (.iastore, 1) := by decide +kernel
theorem dX7_thing_34 : decode cX7_thing 34 = .ok (.aload_n 0, 1) := by decide +kernel
theorem dX7_thing_35 : decode cX7_thing 35 = .ok (.dup, 1) := by decide +kernel
theorem dX7_thing_36 : decode cX7_thing 36 = .ok (.getfield 154, 3) := by decide +kernel
theorem dX7_thing_39 : decode cX7_thing 39 = .ok (.iconst 1, 1) := by decide +kernel
theorem dX7_thing_40 : decode cX7_thing 40 = .ok (.iadd, 1) := by decide +kernel
theorem dX7_thing_41 : decode cX7_thing 41 = .ok (.putfield 154, 3) := by decide +kernel
theorem dX7_thing_44 : decode cX7_thing 44 = .ok (.aload_n 0, 1) := by decide +kernel
theorem dX7_thing_45 : decode cX7_thing 45 = .ok (.iconst 0, 1) := by decide +kernel
theorem dX7_thing_46 : decode cX7_thing 46 = .ok (.putfield 140, 3) := by decide +kernel
theorem dX7_thing_49 : decode cX7_thing 49 = .ok (.aload_n 0, 1) := by decide +kernel
theorem dX7_thing_50 : decode cX7_thing 50 = .ok (.getfield 154, 3) := by decide +kernel
theorem dX7_thing_53 : decode cX7_thing 53 = .ok (.iconst 1, 1) := by decide +kernel
theorem dX7_thing_54 : decode cX7_thing 54 = .ok (.isub, 1) := by decide +kernel
theorem dX7_thing_55 : decode cX7_thing 55 = .ok (.ireturn, 1) := by decide +kernel
theorem dX7_isThing_0 : decode cX7_isThing 0 = .ok (.iload_n 1, 1) := by decide +kernel
theorem dX7_isThing_1 : decode cX7_isThing 1 = .ok (.i2l, 1) := by decide +kernel
theorem dX7_isThing_2 : decode cX7_isThing 2 = .ok (.lconst 0, 1) := by decide +kernel
theorem dX7_isThing_3 : decode cX7_isThing 3 = .ok (.aload_n 0, 1) := by decide +kernel
theorem dX7_isThing_4 : decode cX7_isThing 4 = .ok (.getfield 154, 3) := by decide +kernel
theorem dX7_isThing_7 : decode cX7_isThing 7 = .ok (.iconst 1, 1) := by decide +kernel
theorem dX7_isThing_8 : decode cX7_isThing 8 = .ok (.isub, 1) := by decide +kernel
theorem dX7_isThing_9 : decode cX7_isThing 9 = .ok (.i2l, 1) := by decide +kernel
theorem dX7_isThing_10 : decode cX7_isThing 10 = .ok (.invokestatic 133, 3) := by decide +kernel
theorem dX7_isThing_13 : decode cX7_isThing 13 = .ok (.ireturn, 1) := by decide +kernel
theorem dX7_isSign_0 : decode cX7_isSign 0 = .ok (.iload_n 1, 1) := by decide +kernel
theorem dX7_isSign_1 : decode cX7_isSign 1 = .ok (.i2l, 1) := by decide +kernel
theorem dX7_isSign_2 : decode cX7_isSign 2 = .ok (.lconst 0, 1) := by decide +kernel
theorem dX7_isSign_3 : decode cX7_isSign 3 = .ok (.aload_n 0, 1) := by decide +kernel
theorem dX7_isSign_4 : decode cX7_isSign 4 = .ok (.getfield 137, 3) := by decide +kernel
theorem dX7_isSign_7 : decode cX7_isSign 7 = .ok (.iconst 1, 1) := by decide +kernel
theorem dX7_isSign_8 : decode cX7_isSign 8 = .ok (.isub, 1) := by decide +kernel
theorem dX7_isSign_9 : decode cX7_isSign 9 = .ok (.i2l, 1) := by decide +kernel
theorem dX7_isSign_10 : decode cX7_isSign 10 = .ok (.invokestatic 133, 3) := by decide +kernel
theorem dX7_isSign_13 : decode cX7_isSign 13 = .ok (.ireturn, 1) := by decide +kernel
theorem dX7_count_0 : decode cX7_count 0 = .ok (.aload_n 0, 1) := by decide +kernel
theorem dX7_count_1 : decode cX7_count 1 = .ok (.iload_n 1, 1) := by decide +kernel
theorem dX7_count_2 : decode cX7_count 2 = .ok (.invokevirtual 157, 3) := by decide +kernel
theorem dX7_count_5 : decode cX7_count 5 = .ok (.ifCond .ne 5, 3) := by decide +kernel
theorem dX7_count_8 : decode cX7_count 8 = .ok (.iconst (-1), 1) := by decide +kernel
theorem dX7_count_9 : decode cX7_count 9 = .ok (.ireturn, 1) := by decide +kernel
theorem dX7_count_10 : decode cX7_count 10 = .ok (.iload_n 2, 1) := by decide +kernel
theorem dX7_count_11 : decode cX7_count 11 = .ok (.invokestatic 150, 3) := by decide +kernel
theorem dX7_count_14 : decode cX7_count 14 = .ok (.istore_n 3, 1) := by decide +kernel
theorem dX7_count_15 : decode cX7_count 15 = .ok (.iload_n 3, 1) := by decide +kernel
theorem dX7_count_16 : decode cX7_count 16 = .ok (.ifCond .ne 6, 3) := by decide +kernel
theorem dX7_count_19 : decode cX7_count 19 = .ok (.bipush (-2), 2) := by decide +kernel
theorem dX7_count_21 : decode cX7_count 21 = .ok (.ireturn, 1) := by decide +kernel
theorem dX7_count_22 : decode cX7_count 22 = .ok (.aload_n 0, 1) := by decide +kernel
theorem dX7_count_23 : decode cX7_count 23 = .ok (.getfield 13, 3) := by decide +kernel
theorem dX7_count_26 : decode cX7_count 26 = .ok (.iload_n 1, 1) := by decide +kernel
theorem dX7_count_27 : decode cX7_count 27 = .ok (.iaload, 1) := by decide +kernel
theorem dX7_count_28 : decode cX7_count 28 = .ok (.istore 4, 2) := by decide +kernel
theorem dX7_count_30 : decode cX7_count 30 = .ok (.aload_n 0, 1) := by decide +kernel
theorem dX7_count_31 : decode cX7_count 31 = .ok (.getfield 13, 3) := by decide +kernel
theorem dX7_count_34 : decode cX7_count 34 = .ok (.iload_n 1, 1) := by decide +kernel
theorem dX7_count_35 : decode cX7_count 35 = .ok (.iload_n 3, 1) := by decide +kernel
theorem dX7_count_36 : decode cX7_count 36 = .ok (.iastore, 1) := by decide +kernel
theorem dX7_count_37 : decode cX7_count 37 = .ok (.iload 4, 2) := by decide +kernel
theorem dX7_count_39 : decode cX7_count 39 = .ok (.ireturn, 1) := by decide +kernel
theorem dX7_with_0 : decode cX7_with 0 = .ok (.lload_n 0, 1) := by decide +kernel
theorem dX7_with_1 : decode cX7_with 1 = .ok (.iload_n 3, 1) := by decide +kernel
theorem dX7_with_2 : decode cX7_with 2 = .ok (.i2l, 1) := by decide +kernel
theorem dX7_with_3 : decode cX7_with 3 = .ok (.bipush 46, 2) := by decide +kernel
theorem dX7_with_5 : decode cX7_with 5 = .ok (.iconst 2, 1) := by decide +kernel
theorem dX7_with_6 : decode cX7_with 6 = .ok (.iload_n 2, 1) := by decide +kernel
theorem dX7_with_7 : decode cX7_with 7 = .ok (.imul, 1) := by decide +kernel
theorem dX7_with_8 : decode cX7_with 8 = .ok (.isub, 1) := by decide +kernel
theorem dX7_with_9 : decode cX7_with 9 = .ok (.lshl, 1) := by decide +kernel
theorem dX7_with_10 : decode cX7_with 10 = .ok (.lor, 1) := by decide +kernel
theorem dX7_with_11 : decode cX7_with 11 = .ok (.lreturn, 1) := by decide +kernel
theorem dX7_signAt_0 : decode cX7_signAt 0 = .ok (.lload_n 0, 1) := by decide +kernel
theorem dX7_signAt_1 : decode cX7_signAt 1 = .ok (.bipush 46, 2) := by decide +kernel
theorem dX7_signAt_3 : decode cX7_signAt 3 = .ok (.iconst 2, 1) := by decide +kernel
theorem dX7_signAt_4 : decode cX7_signAt 4 = .ok (.iload_n 2, 1) := by decide +kernel
theorem dX7_signAt_5 : decode cX7_signAt 5 = .ok (.imul, 1) := by decide +kernel
theorem dX7_signAt_6 : decode cX7_signAt 6 = .ok (.isub, 1) := by decide +kernel
theorem dX7_signAt_7 : decode cX7_signAt 7 = .ok (.lshr, 1) := by decide +kernel
theorem dX7_signAt_8 : decode cX7_signAt 8 = .ok (.ldc2_w 161, 3) := by decide +kernel
theorem dX7_signAt_11 : decode cX7_signAt 11 = .ok (.land, 1) := by decide +kernel
theorem dX7_signAt_12 : decode cX7_signAt 12 = .ok (.l2i, 1) := by decide +kernel
theorem dX7_signAt_13 : decode cX7_signAt 13 = .ok (.ireturn, 1) := by decide +kernel
theorem dX7_isAhead_0 : decode cX7_isAhead 0 = .ok (.lload_n 0, 1) := by decide +kernel
theorem dX7_isAhead_1 : decode cX7_isAhead 1 = .ok (.lload_n 3, 1) := by decide +kernel
theorem dX7_isAhead_2 : decode cX7_isAhead 2 = .ok (.lcmp, 1) := by decide +kernel
theorem dX7_isAhead_3 : decode cX7_isAhead 3 = .ok (.ifCond .lt 15, 3) := by decide +kernel
theorem dX7_isAhead_6 : decode cX7_isAhead 6 = .ok (.lload_n 0, 1) := by decide +kernel
theorem dX7_isAhead_7 : decode cX7_isAhead 7 = .ok (.lload_n 3, 1) := by decide +kernel
theorem dX7_isAhead_8 : decode cX7_isAhead 8 = .ok (.lcmp, 1) := by decide +kernel
theorem dX7_isAhead_9 : decode cX7_isAhead 9 = .ok (.ifCond .ne 13, 3) := by decide +kernel
theorem dX7_isAhead_12 : decode cX7_isAhead 12 = .ok (.iload_n 2, 1) := by decide +kernel
theorem dX7_isAhead_13 : decode cX7_isAhead 13 = .ok (.iload 5, 2) := by decide +kernel
theorem dX7_isAhead_15 : decode cX7_isAhead 15 = .ok (.if_icmp .ge 7, 3) := by decide +kernel
theorem dX7_isAhead_18 : decode cX7_isAhead 18 = .ok (.iconst 1, 1) := by decide +kernel
theorem dX7_isAhead_19 : decode cX7_isAhead 19 = .ok (.goto 4, 3) := by decide +kernel
theorem dX7_isAhead_22 : decode cX7_isAhead 22 = .ok (.iconst 0, 1) := by decide +kernel
theorem dX7_isAhead_23 : decode cX7_isAhead 23 = .ok (.ireturn, 1) := by decide +kernel
theorem dX7_begins_0 : decode cX7_begins 0 = .ok (.iload_n 2, 1) := by decide +kernel
theorem dX7_begins_1 : decode cX7_begins 1 = .ok (.iload 5, 2) := by decide +kernel
theorem dX7_begins_3 : decode cX7_begins 3 = .ok (.if_icmp .gt 22, 3) := by decide +kernel
theorem dX7_begins_6 : decode cX7_begins 6 = .ok (.lload_n 0, 1) := by decide +kernel
theorem dX7_begins_7 : decode cX7_begins 7 = .ok (.lload_n 3, 1) := by decide +kernel
theorem dX7_begins_8 : decode cX7_begins 8 = .ok (.lxor, 1) := by decide +kernel
theorem dX7_begins_9 : decode cX7_begins 9 = .ok (.bipush 48, 2) := by decide +kernel
theorem dX7_begins_11 : decode cX7_begins 11 = .ok (.iconst 2, 1) := by decide +kernel
theorem dX7_begins_12 : decode cX7_begins 12 = .ok (.iload_n 2, 1) := by decide +kernel
theorem dX7_begins_13 : decode cX7_begins 13 = .ok (.imul, 1) := by decide +kernel
theorem dX7_begins_14 : decode cX7_begins 14 = .ok (.isub, 1) := by decide +kernel
theorem dX7_begins_15 : decode cX7_begins 15 = .ok (.lshr, 1) := by decide +kernel
theorem dX7_begins_16 : decode cX7_begins 16 = .ok (.lconst 0, 1) := by decide +kernel
theorem dX7_begins_17 : decode cX7_begins 17 = .ok (.lcmp, 1) := by decide +kernel
theorem dX7_begins_18 : decode cX7_begins 18 = .ok (.ifCond .ne 7, 3) := by decide +kernel
theorem dX7_begins_21 : decode cX7_begins 21 = .ok (.iconst 1, 1) := by decide +kernel
theorem dX7_begins_22 : decode cX7_begins 22 = .ok (.goto 4, 3) := by decide +kernel
theorem dX7_begins_25 : decode cX7_begins 25 = .ok (.iconst 0, 1) := by decide +kernel
theorem dX7_begins_26 : decode cX7_begins 26 = .ok (.ireturn, 1) := by decide +kernel
theorem dX7_canBegin_0 : decode cX7_canBegin 0 = .ok (.aload_n 0, 1) := by decide +kernel
theorem dX7_canBegin_1 : decode cX7_canBegin 1 = .ok (.getfield 137, 3) := by decide +kernel
theorem dX7_canBegin_4 : decode cX7_canBegin 4 = .ok (.iconst 2, 1) := by decide +kernel
theorem dX7_canBegin_5 : decode cX7_canBegin 5 = .ok (.if_icmp .lt 14, 3) := by decide +kernel
theorem dX7_canBegin_8 : decode cX7_canBegin 8 = .ok (.aload_n 0, 1) := by decide +kernel
theorem dX7_canBegin_9 : decode cX7_canBegin 9 = .ok (.getfield 154, 3) := by decide +kernel
theorem dX7_canBegin_12 : decode cX7_canBegin 12 = .ok (.ifCond .le 7, 3) := by decide +kernel
theorem dX7_canBegin_15 : decode cX7_canBegin 15 = .ok (.iconst 1, 1) := by decide +kernel
theorem dX7_canBegin_16 : decode cX7_canBegin 16 = .ok (.goto 4, 3) := by decide +kernel
theorem dX7_canBegin_19 : decode cX7_canBegin 19 = .ok (.iconst 0, 1) := by decide +kernel
theorem dX7_canBegin_20 : decode cX7_canBegin 20 = .ok (.ireturn, 1) := by decide +kernel
theorem dX7_comes_0 : decode cX7_comes 0 = .ok (.aload_n 0, 1) := by decide +kernel
theorem dX7_comes_1 : decode cX7_comes 1 = .ok (.iconst 1, 1) := by decide +kernel
theorem dX7_comes_2 : decode cX7_comes 2 = .ok (.putfield 140, 3) := by decide +kernel
theorem dX7_comes_5 : decode cX7_comes 5 = .ok (.aload_n 0, 1) := by decide +kernel
theorem dX7_comes_6 : decode cX7_comes 6 = .ok (.iconst 0, 1) := by decide +kernel
theorem dX7_comes_7 : decode cX7_comes 7 = .ok (.putfield 163, 3) := by decide +kernel
theorem dX7_comes_10 : decode cX7_comes 10 = .ok (.aload_n 0, 1) := by decide +kernel
theorem dX7_comes_11 : decode cX7_comes 11 = .ok (.iconst 0, 1) := by decide +kernel
theorem dX7_comes_12 : decode cX7_comes 12 = .ok (.putfield 166, 3) := by decide +kernel
theorem dX7_comes_15 : decode cX7_comes 15 = .ok (.return_, 1) := by decide +kernel
theorem dX7_priceOf_0 : decode cX7_priceOf 0 = .ok (.iconst 0, 1) := by decide +kernel
theorem dX7_priceOf_1 : decode cX7_priceOf 1 = .ok (.istore_n 2, 1) := by decide +kernel
theorem dX7_priceOf_2 : decode cX7_priceOf 2 = .ok (.iconst 0, 1) := by decide +kernel
theorem dX7_priceOf_3 : decode cX7_priceOf 3 = .ok (.istore_n 3, 1) := by decide +kernel
theorem dX7_priceOf_4 : decode cX7_priceOf 4 = .ok (.iload_n 3, 1) := by decide +kernel
theorem dX7_priceOf_5 : decode cX7_priceOf 5 = .ok (.aload_n 0, 1) := by decide +kernel
theorem dX7_priceOf_6 : decode cX7_priceOf 6 = .ok (.getfield 20, 3) := by decide +kernel
theorem dX7_priceOf_9 : decode cX7_priceOf 9 = .ok (.iload_n 1, 1) := by decide +kernel
theorem dX7_priceOf_10 : decode cX7_priceOf 10 = .ok (.iaload, 1) := by decide +kernel
theorem dX7_priceOf_11 : decode cX7_priceOf 11 = .ok (.if_icmp .ge 27, 3) := by decide +kernel
theorem dX7_priceOf_14 : decode cX7_priceOf 14 = .ok (.iload_n 2, 1) := by decide +kernel
theorem dX7_priceOf_15 : decode cX7_priceOf 15 = .ok (.aload_n 0, 1) := by decide +kernel
theorem dX7_priceOf_16 : decode cX7_priceOf 16 = .ok (.getfield 7, 3) := by decide +kernel
theorem dX7_priceOf_19 : decode cX7_priceOf 19 = .ok (.aload_n 0, 1) := by decide +kernel
theorem dX7_priceOf_20 : decode cX7_priceOf 20 = .ok (.getfield 16, 3) := by decide +kernel
theorem dX7_priceOf_23 : decode cX7_priceOf 23 = .ok (.iload_n 1, 1) := by decide +kernel
theorem dX7_priceOf_24 : decode cX7_priceOf 24 = .ok (.laload, 1) := by decide +kernel
theorem dX7_priceOf_25 : decode cX7_priceOf 25 = .ok (.iload_n 3, 1) := by decide +kernel
theorem dX7_priceOf_26 : decode cX7_priceOf 26 = .ok (.invokestatic 169, 3) := by decide +kernel
theorem dX7_priceOf_29 : decode cX7_priceOf 29 = .ok (.iaload, 1) := by decide +kernel
theorem dX7_priceOf_30 : decode cX7_priceOf 30 = .ok (.iadd, 1) := by decide +kernel
theorem dX7_priceOf_31 : decode cX7_priceOf 31 = .ok (.istore_n 2, 1) := by decide +kernel
theorem dX7_priceOf_32 : decode cX7_priceOf 32 = .ok (.iinc 3 1, 3) := by decide +kernel
theorem dX7_priceOf_35 : decode cX7_priceOf 35 = .ok (.goto (-31), 3) := by decide +kernel
theorem dX7_priceOf_38 : decode cX7_priceOf 38 = .ok (.iload_n 2, 1) := by decide +kernel
theorem dX7_priceOf_39 : decode cX7_priceOf 39 = .ok (.ireturn, 1) := by decide +kernel
theorem dX7_costNow_0 : decode cX7_costNow 0 = .ok (.lconst 0, 1) := by decide +kernel
theorem dX7_costNow_1 : decode cX7_costNow 1 = .ok (.lstore_n 1, 1) := by decide +kernel
theorem dX7_costNow_2 : decode cX7_costNow 2 = .ok (.iconst 0, 1) := by decide +kernel
theorem dX7_costNow_3 : decode cX7_costNow 3 = .ok (.istore_n 3, 1) := by decide +kernel
theorem dX7_costNow_4 : decode cX7_costNow 4 = .ok (.iload_n 3, 1) := by decide +kernel
theorem dX7_costNow_5 : decode cX7_costNow 5 = .ok (.aload_n 0, 1) := by decide +kernel
theorem dX7_costNow_6 : decode cX7_costNow 6 = .ok (.getfield 154, 3) := by decide +kernel
theorem dX7_costNow_9 : decode cX7_costNow 9 = .ok (.if_icmp .ge 26, 3) := by decide +kernel
theorem dX7_costNow_12 : decode cX7_costNow 12 = .ok (.lload_n 1, 1) := by decide +kernel
theorem dX7_costNow_13 : decode cX7_costNow 13 = .ok (.aload_n 0, 1) := by decide +kernel
theorem dX7_costNow_14 : decode cX7_costNow 14 = .ok (.getfield 13, 3) := by decide +kernel
theorem dX7_costNow_17 : decode cX7_costNow 17 = .ok (.iload_n 3, 1) := by decide +kernel
theorem dX7_costNow_18 : decode cX7_costNow 18 = .ok (.iaload, 1) := by decide +kernel
theorem dX7_costNow_19 : decode cX7_costNow 19 = .ok (.i2l, 1) := by decide +kernel
theorem dX7_costNow_20 : decode cX7_costNow 20 = .ok (.aload_n 0, 1) := by decide +kernel
theorem dX7_costNow_21 : decode cX7_costNow 21 = .ok (.iload_n 3, 1) := by decide +kernel
theorem dX7_costNow_22 : decode cX7_costNow 22 = .ok (.invokevirtual 173, 3) := by decide +kernel
theorem dX7_costNow_25 : decode cX7_costNow 25 = .ok (.i2l, 1) := by decide +kernel
theorem dX7_costNow_26 : decode cX7_costNow 26 = .ok (.lmul, 1) := by decide +kernel
theorem dX7_costNow_27 : decode cX7_costNow 27 = .ok (.ladd, 1) := by decide +kernel
theorem dX7_costNow_28 : decode cX7_costNow 28 = .ok (.lstore_n 1, 1) := by decide +kernel
theorem dX7_costNow_29 : decode cX7_costNow 29 = .ok (.iinc 3 1, 3) := by decide +kernel
theorem dX7_costNow_32 : decode cX7_costNow 32 = .ok (.goto (-28), 3) := by decide +kernel
theorem dX7_costNow_35 : decode cX7_costNow 35 = .ok (.lload_n 1, 1) := by decide +kernel
theorem dX7_costNow_36 : decode cX7_costNow 36 = .ok (.lreturn, 1) := by decide +kernel
theorem dX7_rankBy_0 : decode cX7_rankBy 0 = .ok (.iconst 0, 1) := by decide +kernel
theorem dX7_rankBy_1 : decode cX7_rankBy 1 = .ok (.istore_n 2, 1) := by decide +kernel
theorem dX7_rankBy_2 : decode cX7_rankBy 2 = .ok (.iload_n 2, 1) := by decide +kernel
theorem dX7_rankBy_3 : decode cX7_rankBy 3 = .ok (.aload_n 0, 1) := by decide +kernel
theorem dX7_rankBy_4 : decode cX7_rankBy 4 = .ok (.getfield 154, 3) := by decide +kernel
theorem dX7_rankBy_7 : decode cX7_rankBy 7 = .ok (.if_icmp .ge 58, 3) := by decide +kernel
theorem dX7_rankBy_10 : decode cX7_rankBy 10 = .ok (.iload_n 2, 1) := by decide +kernel
theorem dX7_rankBy_11 : decode cX7_rankBy 11 = .ok (.istore_n 3, 1) := by decide +kernel
theorem dX7_rankBy_12 : decode cX7_rankBy 12 = .ok (.iload_n 3, 1) := by decide +kernel
theorem dX7_rankBy_13 : decode cX7_rankBy 13 = .ok (.ifCond .le 39, 3) := by decide +kernel
theorem dX7_rankBy_16 : decode cX7_rankBy 16 = .ok (.aload_n 1, 1) := by decide +kernel
theorem dX7_rankBy_17 : decode cX7_rankBy 17 = .ok (.aload_n 0, 1) := by decide +kernel
theorem dX7_rankBy_18 : decode cX7_rankBy 18 = .ok (.getfield 26, 3) := by decide +kernel
theorem dX7_rankBy_21 : decode cX7_rankBy 21 = .ok (.iload_n 3, 1) := by decide +kernel
theorem dX7_rankBy_22 : decode cX7_rankBy 22 = .ok (.iconst 1, 1) := by decide +kernel
theorem dX7_rankBy_23 : decode cX7_rankBy 23 = .ok (.isub, 1) := by decide +kernel
theorem dX7_rankBy_24 : decode cX7_rankBy 24 = .ok (.iaload, 1) := by decide +kernel
theorem dX7_rankBy_25 : decode cX7_rankBy 25 = .ok (.iaload, 1) := by decide +kernel
theorem dX7_rankBy_26 : decode cX7_rankBy 26 = .ok (.aload_n 1, 1) := by decide +kernel
theorem dX7_rankBy_27 : decode cX7_rankBy 27 = .ok (.iload_n 2, 1) := by decide +kernel
theorem dX7_rankBy_28 : decode cX7_rankBy 28 = .ok (.iaload, 1) := by decide +kernel
theorem dX7_rankBy_29 : decode cX7_rankBy 29 = .ok (.if_icmp .ge 23, 3) := by decide +kernel
theorem dX7_rankBy_32 : decode cX7_rankBy 32 = .ok (.aload_n 0, 1) := by decide +kernel
theorem dX7_rankBy_33 : decode cX7_rankBy 33 = .ok (.getfield 26, 3) := by decide +kernel
theorem dX7_rankBy_36 : decode cX7_rankBy 36 = .ok (.iload_n 3, 1) := by decide +kernel
theorem dX7_rankBy_37 : decode cX7_rankBy 37 = .ok (.aload_n 0, 1) := by decide +kernel
theorem dX7_rankBy_38 : decode cX7_rankBy 38 = .ok (.getfield 26, 3) := by decide +kernel
theorem dX7_rankBy_41 : decode cX7_rankBy 41 = .ok (.iload_n 3, 1) := by decide +kernel
theorem dX7_rankBy_42 : decode cX7_rankBy 42 = .ok (.iconst 1, 1) := by decide +kernel
theorem dX7_rankBy_43 : decode cX7_rankBy 43 = .ok (.isub, 1) := by decide +kernel
theorem dX7_rankBy_44 : decode cX7_rankBy 44 = .ok (.iaload, 1) := by decide +kernel
theorem dX7_rankBy_45 : decode cX7_rankBy 45 = .ok (.iastore, 1) := by decide +kernel
theorem dX7_rankBy_46 : decode cX7_rankBy 46 = .ok (.iinc 3 (-1), 3) := by decide +kernel
theorem dX7_rankBy_49 : decode cX7_rankBy 49 = .ok (.goto (-37), 3) := by decide +kernel
theorem dX7_rankBy_52 : decode cX7_rankBy 52 = .ok (.aload_n 0, 1) := by decide +kernel
theorem dX7_rankBy_53 : decode cX7_rankBy 53 = .ok (.getfield 26, 3) := by decide +kernel
theorem dX7_rankBy_56 : decode cX7_rankBy 56 = .ok (.iload_n 3, 1) := by decide +kernel
theorem dX7_rankBy_57 : decode cX7_rankBy 57 = .ok (.iload_n 2, 1) := by decide +kernel
theorem dX7_rankBy_58 : decode cX7_rankBy 58 = .ok (.iastore, 1) := by decide +kernel
theorem dX7_rankBy_59 : decode cX7_rankBy 59 = .ok (.iinc 2 1, 3) := by decide +kernel
theorem dX7_rankBy_62 : decode cX7_rankBy 62 = .ok (.goto (-60), 3) := by decide +kernel
theorem dX7_rankBy_65 : decode cX7_rankBy 65 = .ok (.return_, 1) := by decide +kernel
theorem dX7_at_0 : decode cX7_at 0 = .ok (.aload_n 0, 1) := by decide +kernel
theorem dX7_at_1 : decode cX7_at 1 = .ok (.getfield 176, 3) := by decide +kernel
theorem dX7_at_4 : decode cX7_at 4 = .ok (.ifCond .eq 18, 3) := by decide +kernel
theorem dX7_at_7 : decode cX7_at 7 = .ok (.iload_n 1, 1) := by decide +kernel
theorem dX7_at_8 : decode cX7_at 8 = .ok (.bipush 25, 2) := by decide +kernel
theorem dX7_at_10 : decode cX7_at 10 = .ok (.imul, 1) := by decide +kernel
theorem dX7_at_11 : decode cX7_at 11 = .ok (.iload_n 2, 1) := by decide +kernel
theorem dX7_at_12 : decode cX7_at 12 = .ok (.iadd, 1) := by decide +kernel
theorem dX7_at_13 : decode cX7_at 13 = .ok (.bipush 25, 2) := by decide +kernel
theorem dX7_at_15 : decode cX7_at 15 = .ok (.imul, 1) := by decide +kernel
theorem dX7_at_16 : decode cX7_at 16 = .ok (.iload 5, 2) := by decide +kernel
theorem dX7_at_18 : decode cX7_at 18 = .ok (.iadd, 1) := by decide +kernel
theorem dX7_at_19 : decode cX7_at 19 = .ok (.goto 26, 3) := by decide +kernel
theorem dX7_at_22 : decode cX7_at 22 = .ok (.iload_n 1, 1) := by decide +kernel
theorem dX7_at_23 : decode cX7_at 23 = .ok (.bipush 9, 2) := by decide +kernel
theorem dX7_at_25 : decode cX7_at 25 = .ok (.imul, 1) := by decide +kernel
theorem dX7_at_26 : decode cX7_at 26 = .ok (.iload_n 2, 1) := by decide +kernel
theorem dX7_at_27 : decode cX7_at 27 = .ok (.iadd, 1) := by decide +kernel
theorem dX7_at_28 : decode cX7_at 28 = .ok (.bipush 9, 2) := by decide +kernel
theorem dX7_at_30 : decode cX7_at 30 = .ok (.imul, 1) := by decide +kernel
theorem dX7_at_31 : decode cX7_at 31 = .ok (.iload_n 3, 1) := by decide +kernel
theorem dX7_at_32 : decode cX7_at 32 = .ok (.iadd, 1) := by decide +kernel
theorem dX7_at_33 : decode cX7_at 33 = .ok (.bipush 9, 2) := by decide +kernel
theorem dX7_at_35 : decode cX7_at 35 = .ok (.imul, 1) := by decide +kernel
theorem dX7_at_36 : decode cX7_at 36 = .ok (.iload 4, 2) := by decide +kernel
theorem dX7_at_38 : decode cX7_at 38 = .ok (.iadd, 1) := by decide +kernel
theorem dX7_at_39 : decode cX7_at 39 = .ok (.bipush 9, 2) := by decide +kernel
theorem dX7_at_41 : decode cX7_at 41 = .ok (.imul, 1) := by decide +kernel
theorem dX7_at_42 : decode cX7_at 42 = .ok (.iload 5, 2) := by decide +kernel
theorem dX7_at_44 : decode cX7_at 44 = .ok (.iadd, 1) := by decide +kernel
theorem dX7_at_45 : decode cX7_at 45 = .ok (.ireturn, 1) := by decide +kernel
theorem dX7_least_0 : decode cX7_least 0 = .ok (.iload_n 0, 1) := by decide +kernel
theorem dX7_least_1 : decode cX7_least 1 = .ok (.iload_n 1, 1) := by decide +kernel
theorem dX7_least_2 : decode cX7_least 2 = .ok (.if_icmp .ge 7, 3) := by decide +kernel
theorem dX7_least_5 : decode cX7_least 5 = .ok (.iload_n 0, 1) := by decide +kernel
theorem dX7_least_6 : decode cX7_least 6 = .ok (.goto 4, 3) := by decide +kernel
theorem dX7_least_9 : decode cX7_least 9 = .ok (.iload_n 1, 1) := by decide +kernel
theorem dX7_least_10 : decode cX7_least 10 = .ok (.ireturn, 1) := by decide +kernel
theorem dX7_arePricesAlike_0 : decode cX7_arePricesAlike 0 = .ok (.iconst 1, 1) := by decide +kernel
theorem dX7_arePricesAlike_1 : decode cX7_arePricesAlike 1 = .ok (.istore_n 1, 1) := by decide +kernel
theorem dX7_arePricesAlike_2 : decode cX7_arePricesAlike 2 = .ok (.iconst 1, 1) := by decide +kernel
theorem dX7_arePricesAlike_3 : decode cX7_arePricesAlike 3 = .ok (.istore_n 2, 1) := by decide +kernel
theorem dX7_arePricesAlike_4 : decode cX7_arePricesAlike 4 = .ok (.iload_n 2, 1) := by decide +kernel
theorem dX7_arePricesAlike_5 : decode cX7_arePricesAlike 5 = .ok (.aload_n 0, 1) := by decide +kernel
theorem dX7_arePricesAlike_6 : decode cX7_arePricesAlike 6 = .ok (.getfield 137, 3) := by decide +kernel
theorem dX7_arePricesAlike_9 : decode cX7_arePricesAlike 9 = .ok (.if_icmp .ge 34, 3) := by decide +kernel
theorem dX7_arePricesAlike_12 : decode cX7_arePricesAlike 12 = .ok (.iload_n 1, 1) := by decide +kernel
theorem dX7_arePricesAlike_13 : decode cX7_arePricesAlike 13 = .ok (.ifCond .eq 22, 3) := by decide +kernel
theorem dX7_arePricesAlike_16 : decode cX7_arePricesAlike 16 = .ok (.aload_n 0, 1) := by decide +kernel
theorem dX7_arePricesAlike_17 : decode cX7_arePricesAlike 17 = .ok (.getfield 7, 3) := by decide +kernel
theorem dX7_arePricesAlike_20 : decode cX7_arePricesAlike 20 = .ok (.iload_n 2, 1) := by decide +kernel
theorem dX7_arePricesAlike_21 : decode cX7_arePricesAlike 21 = .ok (.iaload, 1) := by decide +kernel
theorem dX7_arePricesAlike_22 : decode cX7_arePricesAlike 22 = .ok (.aload_n 0, 1) := by decide +kernel
theorem dX7_arePricesAlike_23 : decode cX7_arePricesAlike 23 = .ok (.getfield 7, 3) := by decide +kernel
theorem dX7_arePricesAlike_26 : decode cX7_arePricesAlike 26 = .ok (.iconst 0, 1) := by decide +kernel
theorem dX7_arePricesAlike_27 : decode cX7_arePricesAlike 27 = .ok (.iaload, 1) := by decide +kernel
theorem dX7_arePricesAlike_28 : decode cX7_arePricesAlike 28 = .ok (.if_icmp .ne 7, 3) := by decide +kernel
theorem dX7_arePricesAlike_31 : decode cX7_arePricesAlike 31 = .ok (.iconst 1, 1) := by decide +kernel
theorem dX7_arePricesAlike_32 : decode cX7_arePricesAlike 32 = .ok (.goto 4, 3) := by decide +kernel
theorem dX7_arePricesAlike_35 : decode cX7_arePricesAlike 35 = .ok (.iconst 0, 1) := by decide +kernel
theorem dX7_arePricesAlike_36 : decode cX7_arePricesAlike 36 = .ok (.istore_n 1, 1) := by decide +kernel
theorem dX7_arePricesAlike_37 : decode cX7_arePricesAlike 37 = .ok (.iinc 2 1, 3) := by decide +kernel
theorem dX7_arePricesAlike_40 : decode cX7_arePricesAlike 40 = .ok (.goto (-36), 3) := by decide +kernel
theorem dX7_arePricesAlike_43 : decode cX7_arePricesAlike 43 = .ok (.iload_n 1, 1) := by decide +kernel
theorem dX7_arePricesAlike_44 : decode cX7_arePricesAlike 44 = .ok (.ireturn, 1) := by decide +kernel
theorem dX7_mayBeFree_0 : decode cX7_mayBeFree 0 = .ok (.aload_n 0, 1) := by decide +kernel
theorem dX7_mayBeFree_1 : decode cX7_mayBeFree 1 = .ok (.invokevirtual 179, 3) := by decide +kernel
theorem dX7_mayBeFree_4 : decode cX7_mayBeFree 4 = .ok (.ifCond .ne 5, 3) := by decide +kernel
theorem dX7_mayBeFree_7 : decode cX7_mayBeFree 7 = .ok (.iconst 0, 1) := by decide +kernel
theorem dX7_mayBeFree_8 : decode cX7_mayBeFree 8 = .ok (.ireturn, 1) := by decide +kernel
theorem dX7_mayBeFree_9 : decode cX7_mayBeFree 9 = .ok (.aload_n 0, 1) := by decide +kernel
theorem dX7_mayBeFree_10 : decode cX7_mayBeFree 10 = .ok (.getfield 154, 3) := by decide +kernel
theorem dX7_mayBeFree_13 : decode cX7_mayBeFree 13 = .ok (.bipush 8, 2) := by decide +kernel
theorem dX7_mayBeFree_15 : decode cX7_mayBeFree 15 = .ok (.if_icmp .gt 7, 3) := by decide +kernel
theorem dX7_mayBeFree_18 : decode cX7_mayBeFree 18 = .ok (.iconst 1, 1) := by decide +kernel
theorem dX7_mayBeFree_19 : decode cX7_mayBeFree 19 = .ok (.goto 4, 3) := by decide +kernel
theorem dX7_mayBeFree_22 : decode cX7_mayBeFree 22 = .ok (.iconst 0, 1) := by decide +kernel
theorem dX7_mayBeFree_23 : decode cX7_mayBeFree 23 = .ok (.istore_n 1, 1) := by decide +kernel
theorem dX7_mayBeFree_24 : decode cX7_mayBeFree 24 = .ok (.iconst 0, 1) := by decide +kernel
theorem dX7_mayBeFree_25 : decode cX7_mayBeFree 25 = .ok (.istore_n 2, 1) := by decide +kernel
theorem dX7_mayBeFree_26 : decode cX7_mayBeFree 26 = .ok (.iload_n 2, 1) := by decide +kernel
theorem dX7_mayBeFree_27 : decode cX7_mayBeFree 27 = .ok (.aload_n 0, 1) := by decide +kernel
theorem dX7_mayBeFree_28 : decode cX7_mayBeFree 28 = .ok (.getfield 137, 3) := by decide +kernel
theorem dX7_mayBeFree_31 : decode cX7_mayBeFree 31 = .ok (.if_icmp .ge 29, 3) := by decide +kernel
theorem dX7_mayBeFree_34 : decode cX7_mayBeFree 34 = .ok (.iload_n 1, 1) := by decide +kernel
theorem dX7_mayBeFree_35 : decode cX7_mayBeFree 35 = .ok (.ifCond .eq 17, 3) := by decide +kernel
theorem dX7_mayBeFree_38 : decode cX7_mayBeFree 38 = .ok (.aload_n 0, 1) := by decide +kernel
theorem dX7_mayBeFree_39 : decode cX7_mayBeFree 39 = .ok (.getfield 7, 3) := by decide +kernel
theorem dX7_mayBeFree_42 : decode cX7_mayBeFree 42 = .ok (.iload_n 2, 1) := by decide +kernel
theorem dX7_mayBeFree_43 : decode cX7_mayBeFree 43 = .ok (.iaload, 1) := by decide +kernel
theorem dX7_mayBeFree_44 : decode cX7_mayBeFree 44 = .ok (.iconst 3, 1) := by decide +kernel
theorem dX7_mayBeFree_45 : decode cX7_mayBeFree 45 = .ok (.if_icmp .gt 7, 3) := by decide +kernel
theorem dX7_mayBeFree_48 : decode cX7_mayBeFree 48 = .ok (.iconst 1, 1) := by decide +kernel
theorem dX7_mayBeFree_49 : decode cX7_mayBeFree 49 = .ok (.goto 4, 3) := by decide +kernel
theorem dX7_mayBeFree_52 : decode cX7_mayBeFree 52 = .ok (.iconst 0, 1) := by decide +kernel
theorem dX7_mayBeFree_53 : decode cX7_mayBeFree 53 = .ok (.istore_n 1, 1) := by decide +kernel
theorem dX7_mayBeFree_54 : decode cX7_mayBeFree 54 = .ok (.iinc 2 1, 3) := by decide +kernel
theorem dX7_mayBeFree_57 : decode cX7_mayBeFree 57 = .ok (.goto (-31), 3) := by decide +kernel
theorem dX7_mayBeFree_60 : decode cX7_mayBeFree 60 = .ok (.iload_n 1, 1) := by decide +kernel
theorem dX7_mayBeFree_61 : decode cX7_mayBeFree 61 = .ok (.ifCond .ne 10, 3) := by decide +kernel
theorem dX7_mayBeFree_64 : decode cX7_mayBeFree 64 = .ok (.aload_n 0, 1) := by decide +kernel
theorem dX7_mayBeFree_65 : decode cX7_mayBeFree 65 = .ok (.invokevirtual 183, 3) := by decide +kernel
theorem dX7_mayBeFree_68 : decode cX7_mayBeFree 68 = .ok (.ifCond .eq 7, 3) := by decide +kernel
theorem dX7_mayBeFree_71 : decode cX7_mayBeFree 71 = .ok (.iconst 1, 1) := by decide +kernel
theorem dX7_mayBeFree_72 : decode cX7_mayBeFree 72 = .ok (.goto 4, 3) := by decide +kernel
theorem dX7_mayBeFree_75 : decode cX7_mayBeFree 75 = .ok (.iconst 0, 1) := by decide +kernel
theorem dX7_mayBeFree_76 : decode cX7_mayBeFree 76 = .ok (.ireturn, 1) := by decide +kernel
theorem dX7_behind_0 : decode cX7_behind 0 = .ok (.aload_n 0, 1) := by decide +kernel
theorem dX7_behind_1 : decode cX7_behind 1 = .ok (.getfield 154, 3) := by decide +kernel
theorem dX7_behind_4 : decode cX7_behind 4 = .ok (.iload 5, 2) := by decide +kernel
theorem dX7_behind_6 : decode cX7_behind 6 = .ok (.isub, 1) := by decide +kernel
theorem dX7_behind_7 : decode cX7_behind 7 = .ok (.iload 6, 2) := by decide +kernel
theorem dX7_behind_9 : decode cX7_behind 9 = .ok (.isub, 1) := by decide +kernel
theorem dX7_behind_10 : decode cX7_behind 10 = .ok (.istore 8, 2) := by decide +kernel
theorem dX7_behind_12 : decode cX7_behind 12 = .ok (.iload_n 3, 1) := by decide +kernel
theorem dX7_behind_13 : decode cX7_behind 13 = .ok (.iload 7, 2) := by decide +kernel
theorem dX7_behind_15 : decode cX7_behind 15 = .ok (.aload_n 0, 1) := by decide +kernel
theorem dX7_behind_16 : decode cX7_behind 16 = .ok (.getfield 40, 3) := by decide +kernel
theorem dX7_behind_19 : decode cX7_behind 19 = .ok (.iconst 1, 1) := by decide +kernel
theorem dX7_behind_20 : decode cX7_behind 20 = .ok (.iaload, 1) := by decide +kernel
theorem dX7_behind_21 : decode cX7_behind 21 = .ok (.imul, 1) := by decide +kernel
theorem dX7_behind_22 : decode cX7_behind 22 = .ok (.iadd, 1) := by decide +kernel
theorem dX7_behind_23 : decode cX7_behind 23 = .ok (.iload 8, 2) := by decide +kernel
theorem dX7_behind_25 : decode cX7_behind 25 = .ok (.invokestatic 186, 3) := by decide +kernel
theorem dX7_behind_28 : decode cX7_behind 28 = .ok (.istore 9, 2) := by decide +kernel
theorem dX7_behind_30 : decode cX7_behind 30 = .ok (.iload 4, 2) := by decide +kernel
theorem dX7_behind_32 : decode cX7_behind 32 = .ok (.iload 7, 2) := by decide +kernel
theorem dX7_behind_34 : decode cX7_behind 34 = .ok (.aload_n 0, 1) := by decide +kernel
theorem dX7_behind_35 : decode cX7_behind 35 = .ok (.getfield 40, 3) := by decide +kernel
theorem dX7_behind_38 : decode cX7_behind 38 = .ok (.iconst 2, 1) := by decide +kernel
theorem dX7_behind_39 : decode cX7_behind 39 = .ok (.iaload, 1) := by decide +kernel
theorem dX7_behind_40 : decode cX7_behind 40 = .ok (.imul, 1) := by decide +kernel
theorem dX7_behind_41 : decode cX7_behind 41 = .ok (.iadd, 1) := by decide +kernel
theorem dX7_behind_42 : decode cX7_behind 42 = .ok (.iload 8, 2) := by decide +kernel
theorem dX7_behind_44 : decode cX7_behind 44 = .ok (.invokestatic 186, 3) := by decide +kernel
theorem dX7_behind_47 : decode cX7_behind 47 = .ok (.istore 10, 2) := by decide +kernel
theorem dX7_behind_49 : decode cX7_behind 49 = .ok (.iload 7, 2) := by decide +kernel
theorem dX7_behind_51 : decode cX7_behind 51 = .ok (.aload_n 0, 1) := by decide +kernel
theorem dX7_behind_52 : decode cX7_behind 52 = .ok (.getfield 40, 3) := by decide +kernel
theorem dX7_behind_55 : decode cX7_behind 55 = .ok (.iconst 3, 1) := by decide +kernel
theorem dX7_behind_56 : decode cX7_behind 56 = .ok (.iaload, 1) := by decide +kernel
theorem dX7_behind_57 : decode cX7_behind 57 = .ok (.imul, 1) := by decide +kernel
theorem dX7_behind_58 : decode cX7_behind 58 = .ok (.iload 8, 2) := by decide +kernel
theorem dX7_behind_60 : decode cX7_behind 60 = .ok (.invokestatic 186, 3) := by decide +kernel
theorem dX7_behind_63 : decode cX7_behind 63 = .ok (.istore 11, 2) := by decide +kernel
theorem dX7_behind_65 : decode cX7_behind 65 = .ok (.iload 9, 2) := by decide +kernel
theorem dX7_behind_67 : decode cX7_behind 67 = .ok (.iload 10, 2) := by decide +kernel
theorem dX7_behind_69 : decode cX7_behind 69 = .ok (.iadd, 1) := by decide +kernel
theorem dX7_behind_70 : decode cX7_behind 70 = .ok (.iload 11, 2) := by decide +kernel
theorem dX7_behind_72 : decode cX7_behind 72 = .ok (.iadd, 1) := by decide +kernel
theorem dX7_behind_73 : decode cX7_behind 73 = .ok (.ifCond .ne 7, 3) := by decide +kernel
theorem dX7_behind_76 : decode cX7_behind 76 = .ok (.iconst (-1), 1) := by decide +kernel
theorem dX7_behind_77 : decode cX7_behind 77 = .ok (.goto 21, 3) := by decide +kernel
theorem dX7_behind_80 : decode cX7_behind 80 = .ok (.aload_n 0, 1) := by decide +kernel
theorem dX7_behind_81 : decode cX7_behind 81 = .ok (.iload_n 1, 1) := by decide +kernel
theorem dX7_behind_82 : decode cX7_behind 82 = .ok (.iconst 1, 1) := by decide +kernel
theorem dX7_behind_83 : decode cX7_behind 83 = .ok (.iadd, 1) := by decide +kernel
theorem dX7_behind_84 : decode cX7_behind 84 = .ok (.iload 9, 2) := by decide +kernel
theorem dX7_behind_86 : decode cX7_behind 86 = .ok (.iload 10, 2) := by decide +kernel
theorem dX7_behind_88 : decode cX7_behind 88 = .ok (.iload 11, 2) := by decide +kernel
theorem dX7_behind_90 : decode cX7_behind 90 = .ok (.iload 5, 2) := by decide +kernel
theorem dX7_behind_92 : decode cX7_behind 92 = .ok (.iload 6, 2) := by decide +kernel
theorem dX7_behind_94 : decode cX7_behind 94 = .ok (.iadd, 1) := by decide +kernel
theorem dX7_behind_95 : decode cX7_behind 95 = .ok (.invokevirtual 190, 3) := by decide +kernel
theorem dX7_behind_98 : decode cX7_behind 98 = .ok (.ireturn, 1) := by decide +kernel
theorem dX7_reachFrom_0 : decode cX7_reachFrom 0 = .ok (.aload_n 0, 1) := by decide +kernel
theorem dX7_reachFrom_1 : decode cX7_reachFrom 1 = .ok (.getfield 154, 3) := by decide +kernel
theorem dX7_reachFrom_4 : decode cX7_reachFrom 4 = .ok (.iload 5, 2) := by decide +kernel
theorem dX7_reachFrom_6 : decode cX7_reachFrom 6 = .ok (.isub, 1) := by decide +kernel
theorem dX7_reachFrom_7 : decode cX7_reachFrom 7 = .ok (.istore 6, 2) := by decide +kernel
theorem dX7_reachFrom_9 : decode cX7_reachFrom 9 = .ok (.iload_n 1, 1) := by decide +kernel
theorem dX7_reachFrom_10 : decode cX7_reachFrom 10 = .ok (.ifCond .ne 7, 3) := by decide +kernel
theorem dX7_reachFrom_13 : decode cX7_reachFrom 13 = .ok (.iconst 0, 1) := by decide +kernel
theorem dX7_reachFrom_14 : decode cX7_reachFrom 14 = .ok (.goto 9, 3) := by decide +kernel
theorem dX7_reachFrom_17 : decode cX7_reachFrom 17 = .ok (.iload_n 2, 1) := by decide +kernel
theorem dX7_reachFrom_18 : decode cX7_reachFrom 18 = .ok (.iload 6, 2) := by decide +kernel
theorem dX7_reachFrom_20 : decode cX7_reachFrom 20 = .ok (.invokestatic 186, 3) := by decide +kernel
theorem dX7_reachFrom_23 : decode cX7_reachFrom 23 = .ok (.istore 7, 2) := by decide +kernel
theorem dX7_reachFrom_25 : decode cX7_reachFrom 25 = .ok (.iconst 0, 1) := by decide +kernel
theorem dX7_reachFrom_26 : decode cX7_reachFrom 26 = .ok (.istore 8, 2) := by decide +kernel
theorem dX7_reachFrom_28 : decode cX7_reachFrom 28 = .ok (.iload 8, 2) := by decide +kernel
theorem dX7_reachFrom_30 : decode cX7_reachFrom 30 = .ok (.iload 7, 2) := by decide +kernel
theorem dX7_reachFrom_32 : decode cX7_reachFrom 32 = .ok (.if_icmp .gt 96, 3) := by decide +kernel
theorem dX7_reachFrom_35 : decode cX7_reachFrom 35 = .ok (.iload_n 1, 1) := by decide +kernel
theorem dX7_reachFrom_36 : decode cX7_reachFrom 36 = .ok (.aload_n 0, 1) := by decide +kernel
theorem dX7_reachFrom_37 : decode cX7_reachFrom 37 = .ok (.getfield 194, 3) := by decide +kernel
theorem dX7_reachFrom_40 : decode cX7_reachFrom 40 = .ok (.if_icmp .ne 7, 3) := by decide +kernel
theorem dX7_reachFrom_43 : decode cX7_reachFrom 43 = .ok (.iconst 0, 1) := by decide +kernel
theorem dX7_reachFrom_44 : decode cX7_reachFrom 44 = .ok (.goto 15, 3) := by decide +kernel
theorem dX7_reachFrom_47 : decode cX7_reachFrom 47 = .ok (.iload_n 2, 1) := by decide +kernel
theorem dX7_reachFrom_48 : decode cX7_reachFrom 48 = .ok (.iload 8, 2) := by decide +kernel
theorem dX7_reachFrom_50 : decode cX7_reachFrom 50 = .ok (.isub, 1) := by decide +kernel
theorem dX7_reachFrom_51 : decode cX7_reachFrom 51 = .ok (.iload 6, 2) := by decide +kernel
theorem dX7_reachFrom_53 : decode cX7_reachFrom 53 = .ok (.iload 8, 2) := by decide +kernel
theorem dX7_reachFrom_55 : decode cX7_reachFrom 55 = .ok (.isub, 1) := by decide +kernel
theorem dX7_reachFrom_56 : decode cX7_reachFrom 56 = .ok (.invokestatic 186, 3) := by decide +kernel
theorem dX7_reachFrom_59 : decode cX7_reachFrom 59 = .ok (.istore 9, 2) := by decide +kernel
theorem dX7_reachFrom_61 : decode cX7_reachFrom 61 = .ok (.iconst 0, 1) := by decide +kernel
theorem dX7_reachFrom_62 : decode cX7_reachFrom 62 = .ok (.istore 10, 2) := by decide +kernel
theorem dX7_reachFrom_64 : decode cX7_reachFrom 64 = .ok (.iload 10, 2) := by decide +kernel
theorem dX7_reachFrom_66 : decode cX7_reachFrom 66 = .ok (.iload 9, 2) := by decide +kernel
theorem dX7_reachFrom_68 : decode cX7_reachFrom 68 = .ok (.if_icmp .gt 54, 3) := by decide +kernel
theorem dX7_reachFrom_71 : decode cX7_reachFrom 71 = .ok (.iload 8, 2) := by decide +kernel
theorem dX7_reachFrom_73 : decode cX7_reachFrom 73 = .ok (.iload 6, 2) := by decide +kernel
theorem dX7_reachFrom_75 : decode cX7_reachFrom 75 = .ok (.if_icmp .ge 47, 3) := by decide +kernel
theorem dX7_reachFrom_78 : decode cX7_reachFrom 78 = .ok (.iload_n 1, 1) := by decide +kernel
theorem dX7_reachFrom_79 : decode cX7_reachFrom 79 = .ok (.aload_n 0, 1) := by decide +kernel
theorem dX7_reachFrom_80 : decode cX7_reachFrom 80 = .ok (.getfield 194, 3) := by decide +kernel
theorem dX7_reachFrom_83 : decode cX7_reachFrom 83 = .ok (.if_icmp .ge 39, 3) := by decide +kernel
theorem dX7_reachFrom_86 : decode cX7_reachFrom 86 = .ok (.aload_n 0, 1) := by decide +kernel
theorem dX7_reachFrom_87 : decode cX7_reachFrom 87 = .ok (.iload_n 1, 1) := by decide +kernel
theorem dX7_reachFrom_88 : decode cX7_reachFrom 88 = .ok (.iload_n 2, 1) := by decide +kernel
theorem dX7_reachFrom_89 : decode cX7_reachFrom 89 = .ok (.iload_n 3, 1) := by decide +kernel
theorem dX7_reachFrom_90 : decode cX7_reachFrom 90 = .ok (.iload 4, 2) := by decide +kernel
theorem dX7_reachFrom_92 : decode cX7_reachFrom 92 = .ok (.iload 5, 2) := by decide +kernel
theorem dX7_reachFrom_94 : decode cX7_reachFrom 94 = .ok (.iload 8, 2) := by decide +kernel
theorem dX7_reachFrom_96 : decode cX7_reachFrom 96 = .ok (.iload 10, 2) := by decide +kernel
theorem dX7_reachFrom_98 : decode cX7_reachFrom 98 = .ok (.invokevirtual 197, 3) := by decide +kernel
theorem dX7_reachFrom_101 : decode cX7_reachFrom 101 = .ok (.istore 11, 2) := by decide +kernel
theorem dX7_reachFrom_103 : decode cX7_reachFrom 103 = .ok (.iload 11, 2) := by decide +kernel
theorem dX7_reachFrom_105 : decode cX7_reachFrom 105 = .ok (.ifCond .lt 11, 3) := by decide +kernel
theorem dX7_reachFrom_108 : decode cX7_reachFrom 108 = .ok (.aload_n 0, 1) := by decide +kernel
theorem dX7_reachFrom_109 : decode cX7_reachFrom 109 = .ok (.getfield 33, 3) := by decide +kernel
theorem dX7_reachFrom_112 : decode cX7_reachFrom 112 = .ok (.iload 11, 2) := by decide +kernel
theorem dX7_reachFrom_114 : decode cX7_reachFrom 114 = .ok (.iconst 1, 1) := by decide +kernel
theorem dX7_reachFrom_115 : decode cX7_reachFrom 115 = .ok (.bastore, 1) := by decide +kernel
theorem dX7_reachFrom_116 : decode cX7_reachFrom 116 = .ok (.iinc 10 1, 3) := by decide +kernel
theorem dX7_reachFrom_119 : decode cX7_reachFrom 119 = .ok (.goto (-55), 3) := by decide +kernel
theorem dX7_reachFrom_122 : decode cX7_reachFrom 122 = .ok (.iinc 8 1, 3) := by decide +kernel
theorem dX7_reachFrom_125 : decode cX7_reachFrom 125 = .ok (.goto (-97), 3) := by decide +kernel
theorem dX7_reachFrom_128 : decode cX7_reachFrom 128 = .ok (.return_, 1) := by decide +kernel
theorem dX7_costOf_0 : decode cX7_costOf 0 = .ok (.iload_n 1, 1) := by decide +kernel
theorem dX7_costOf_1 : decode cX7_costOf 1 = .ok (.i2l, 1) := by decide +kernel
theorem dX7_costOf_2 : decode cX7_costOf 2 = .ok (.aload_n 0, 1) := by decide +kernel
theorem dX7_costOf_3 : decode cX7_costOf 3 = .ok (.getfield 201, 3) := by decide +kernel
theorem dX7_costOf_6 : decode cX7_costOf 6 = .ok (.i2l, 1) := by decide +kernel
theorem dX7_costOf_7 : decode cX7_costOf 7 = .ok (.lmul, 1) := by decide +kernel
theorem dX7_costOf_8 : decode cX7_costOf 8 = .ok (.aload_n 0, 1) := by decide +kernel
theorem dX7_costOf_9 : decode cX7_costOf 9 = .ok (.getfield 37, 3) := by decide +kernel
theorem dX7_costOf_12 : decode cX7_costOf 12 = .ok (.iload 5, 2) := by decide +kernel
theorem dX7_costOf_14 : decode cX7_costOf 14 = .ok (.iload 6, 2) := by decide +kernel
theorem dX7_costOf_16 : decode cX7_costOf 16 = .ok (.iadd, 1) := by decide +kernel
theorem dX7_costOf_17 : decode cX7_costOf 17 = .ok (.laload, 1) := by decide +kernel
theorem dX7_costOf_18 : decode cX7_costOf 18 = .ok (.aload_n 0, 1) := by decide +kernel
theorem dX7_costOf_19 : decode cX7_costOf 19 = .ok (.getfield 37, 3) := by decide +kernel
theorem dX7_costOf_22 : decode cX7_costOf 22 = .ok (.iload 5, 2) := by decide +kernel
theorem dX7_costOf_24 : decode cX7_costOf 24 = .ok (.laload, 1) := by decide +kernel
theorem dX7_costOf_25 : decode cX7_costOf 25 = .ok (.lsub, 1) := by decide +kernel
theorem dX7_costOf_26 : decode cX7_costOf 26 = .ok (.lmul, 1) := by decide +kernel
theorem dX7_costOf_27 : decode cX7_costOf 27 = .ok (.lstore 8, 2) := by decide +kernel
theorem dX7_costOf_29 : decode cX7_costOf 29 = .ok (.iload 5, 2) := by decide +kernel
theorem dX7_costOf_31 : decode cX7_costOf 31 = .ok (.iload 6, 2) := by decide +kernel
theorem dX7_costOf_33 : decode cX7_costOf 33 = .ok (.iadd, 1) := by decide +kernel
theorem dX7_costOf_34 : decode cX7_costOf 34 = .ok (.aload_n 0, 1) := by decide +kernel
theorem dX7_costOf_35 : decode cX7_costOf 35 = .ok (.getfield 154, 3) := by decide +kernel
theorem dX7_costOf_38 : decode cX7_costOf 38 = .ok (.if_icmp .ne 6, 3) := by decide +kernel
theorem dX7_costOf_41 : decode cX7_costOf 41 = .ok (.lload 8, 2) := by decide +kernel
theorem dX7_costOf_43 : decode cX7_costOf 43 = .ok (.lreturn, 1) := by decide +kernel
theorem dX7_costOf_44 : decode cX7_costOf 44 = .ok (.iload_n 1, 1) := by decide +kernel
theorem dX7_costOf_45 : decode cX7_costOf 45 = .ok (.aload_n 0, 1) := by decide +kernel
theorem dX7_costOf_46 : decode cX7_costOf 46 = .ok (.getfield 194, 3) := by decide +kernel
theorem dX7_costOf_49 : decode cX7_costOf 49 = .ok (.if_icmp .ge 21, 3) := by decide +kernel
theorem dX7_costOf_52 : decode cX7_costOf 52 = .ok (.aload_n 0, 1) := by decide +kernel
theorem dX7_costOf_53 : decode cX7_costOf 53 = .ok (.iload_n 1, 1) := by decide +kernel
theorem dX7_costOf_54 : decode cX7_costOf 54 = .ok (.iload_n 2, 1) := by decide +kernel
theorem dX7_costOf_55 : decode cX7_costOf 55 = .ok (.iload_n 3, 1) := by decide +kernel
theorem dX7_costOf_56 : decode cX7_costOf 56 = .ok (.iload 4, 2) := by decide +kernel
theorem dX7_costOf_58 : decode cX7_costOf 58 = .ok (.iload 5, 2) := by decide +kernel
theorem dX7_costOf_60 : decode cX7_costOf 60 = .ok (.iload 6, 2) := by decide +kernel
theorem dX7_costOf_62 : decode cX7_costOf 62 = .ok (.iload 7, 2) := by decide +kernel
theorem dX7_costOf_64 : decode cX7_costOf 64 = .ok (.invokevirtual 197, 3) := by decide +kernel
theorem dX7_costOf_67 : decode cX7_costOf 67 = .ok (.goto 4, 3) := by decide +kernel
theorem dX7_costOf_70 : decode cX7_costOf 70 = .ok (.iconst (-1), 1) := by decide +kernel
theorem dX7_costOf_71 : decode cX7_costOf 71 = .ok (.istore 10, 2) := by decide +kernel
theorem dX7_costOf_73 : decode cX7_costOf 73 = .ok (.iload 10, 2) := by decide +kernel
theorem dX7_costOf_75 : decode cX7_costOf 75 = .ok (.ifCond .lt 17, 3) := by decide +kernel
theorem dX7_costOf_78 : decode cX7_costOf 78 = .ok (.aload_n 0, 1) := by decide +kernel
theorem dX7_costOf_79 : decode cX7_costOf 79 = .ok (.getfield 30, 3) := by decide +kernel
theorem dX7_costOf_82 : decode cX7_costOf 82 = .ok (.iload 10, 2) := by decide +kernel
theorem dX7_costOf_84 : decode cX7_costOf 84 = .ok (.laload, 1) := by decide +kernel
theorem dX7_costOf_85 : decode cX7_costOf 85 = .ok (.ldc2_w 204, 3) := by decide +kernel
theorem dX7_costOf_88 : decode cX7_costOf 88 = .ok (.lcmp, 1) := by decide +kernel
theorem dX7_costOf_89 : decode cX7_costOf 89 = .ok (.ifCond .lt 9, 3) := by decide +kernel
theorem dX7_costOf_92 : decode cX7_costOf 92 = .ok (.ldc2_w 204, 3) := by decide +kernel
theorem dX7_costOf_95 : decode cX7_costOf 95 = .ok (.goto 13, 3) := by decide +kernel
theorem dX7_costOf_98 : decode cX7_costOf 98 = .ok (.lload 8, 2) := by decide +kernel
theorem dX7_costOf_100 : decode cX7_costOf 100 = .ok (.aload_n 0, 1) := by decide +kernel
theorem dX7_costOf_101 : decode cX7_costOf 101 = .ok (.getfield 30, 3) := by decide +kernel
theorem dX7_costOf_104 : decode cX7_costOf 104 = .ok (.iload 10, 2) := by decide +kernel
theorem dX7_costOf_106 : decode cX7_costOf 106 = .ok (.laload, 1) := by decide +kernel
theorem dX7_costOf_107 : decode cX7_costOf 107 = .ok (.ladd, 1) := by decide +kernel
theorem dX7_costOf_108 : decode cX7_costOf 108 = .ok (.lreturn, 1) := by decide +kernel
theorem dX7_weigh_0 : decode cX7_weigh 0 = .ok (.aload_n 0, 1) := by decide +kernel
theorem dX7_weigh_1 : decode cX7_weigh 1 = .ok (.getfield 154, 3) := by decide +kernel
theorem dX7_weigh_4 : decode cX7_weigh 4 = .ok (.iload 5, 2) := by decide +kernel
theorem dX7_weigh_6 : decode cX7_weigh 6 = .ok (.isub, 1) := by decide +kernel
theorem dX7_weigh_7 : decode cX7_weigh 7 = .ok (.istore 6, 2) := by decide +kernel
theorem dX7_weigh_9 : decode cX7_weigh 9 = .ok (.ldc2_w 204, 3) := by decide +kernel
theorem dX7_weigh_12 : decode cX7_weigh 12 = .ok (.lstore 7, 2) := by decide +kernel
theorem dX7_weigh_14 : decode cX7_weigh 14 = .ok (.iload_n 1, 1) := by decide +kernel
theorem dX7_weigh_15 : decode cX7_weigh 15 = .ok (.ifCond .ne 7, 3) := by decide +kernel
theorem dX7_weigh_18 : decode cX7_weigh 18 = .ok (.iconst 0, 1) := by decide +kernel
theorem dX7_weigh_19 : decode cX7_weigh 19 = .ok (.goto 9, 3) := by decide +kernel
theorem dX7_weigh_22 : decode cX7_weigh 22 = .ok (.iload_n 2, 1) := by decide +kernel
theorem dX7_weigh_23 : decode cX7_weigh 23 = .ok (.iload 6, 2) := by decide +kernel
theorem dX7_weigh_25 : decode cX7_weigh 25 = .ok (.invokestatic 186, 3) := by decide +kernel
theorem dX7_weigh_28 : decode cX7_weigh 28 = .ok (.istore 9, 2) := by decide +kernel
theorem dX7_weigh_30 : decode cX7_weigh 30 = .ok (.iconst 0, 1) := by decide +kernel
theorem dX7_weigh_31 : decode cX7_weigh 31 = .ok (.istore 10, 2) := by decide +kernel
theorem dX7_weigh_33 : decode cX7_weigh 33 = .ok (.iload 10, 2) := by decide +kernel
theorem dX7_weigh_35 : decode cX7_weigh 35 = .ok (.iload 9, 2) := by decide +kernel
theorem dX7_weigh_37 : decode cX7_weigh 37 = .ok (.if_icmp .gt 85, 3) := by decide +kernel
theorem dX7_weigh_40 : decode cX7_weigh 40 = .ok (.iload_n 1, 1) := by decide +kernel
theorem dX7_weigh_41 : decode cX7_weigh 41 = .ok (.aload_n 0, 1) := by decide +kernel
theorem dX7_weigh_42 : decode cX7_weigh 42 = .ok (.getfield 194, 3) := by decide +kernel
theorem dX7_weigh_45 : decode cX7_weigh 45 = .ok (.if_icmp .ne 7, 3) := by decide +kernel
theorem dX7_weigh_48 : decode cX7_weigh 48 = .ok (.iconst 0, 1) := by decide +kernel
theorem dX7_weigh_49 : decode cX7_weigh 49 = .ok (.goto 15, 3) := by decide +kernel
theorem dX7_weigh_52 : decode cX7_weigh 52 = .ok (.iload_n 2, 1) := by decide +kernel
theorem dX7_weigh_53 : decode cX7_weigh 53 = .ok (.iload 10, 2) := by decide +kernel
theorem dX7_weigh_55 : decode cX7_weigh 55 = .ok (.isub, 1) := by decide +kernel
theorem dX7_weigh_56 : decode cX7_weigh 56 = .ok (.iload 6, 2) := by decide +kernel
theorem dX7_weigh_58 : decode cX7_weigh 58 = .ok (.iload 10, 2) := by decide +kernel
theorem dX7_weigh_60 : decode cX7_weigh 60 = .ok (.isub, 1) := by decide +kernel
theorem dX7_weigh_61 : decode cX7_weigh 61 = .ok (.invokestatic 186, 3) := by decide +kernel
theorem dX7_weigh_64 : decode cX7_weigh 64 = .ok (.istore 11, 2) := by decide +kernel
theorem dX7_weigh_66 : decode cX7_weigh 66 = .ok (.iconst 0, 1) := by decide +kernel
theorem dX7_weigh_67 : decode cX7_weigh 67 = .ok (.istore 12, 2) := by decide +kernel
theorem dX7_weigh_69 : decode cX7_weigh 69 = .ok (.iload 12, 2) := by decide +kernel
theorem dX7_weigh_71 : decode cX7_weigh 71 = .ok (.iload 11, 2) := by decide +kernel
theorem dX7_weigh_73 : decode cX7_weigh 73 = .ok (.if_icmp .gt 43, 3) := by decide +kernel
theorem dX7_weigh_76 : decode cX7_weigh 76 = .ok (.aload_n 0, 1) := by decide +kernel
theorem dX7_weigh_77 : decode cX7_weigh 77 = .ok (.iload_n 1, 1) := by decide +kernel
theorem dX7_weigh_78 : decode cX7_weigh 78 = .ok (.iload_n 2, 1) := by decide +kernel
theorem dX7_weigh_79 : decode cX7_weigh 79 = .ok (.iload_n 3, 1) := by decide +kernel
theorem dX7_weigh_80 : decode cX7_weigh 80 = .ok (.iload 4, 2) := by decide +kernel
theorem dX7_weigh_82 : decode cX7_weigh 82 = .ok (.iload 5, 2) := by decide +kernel
theorem dX7_weigh_84 : decode cX7_weigh 84 = .ok (.iload 10, 2) := by decide +kernel
theorem dX7_weigh_86 : decode cX7_weigh 86 = .ok (.iload 12, 2) := by decide +kernel
theorem dX7_weigh_88 : decode cX7_weigh 88 = .ok (.invokevirtual 206, 3) := by decide +kernel
theorem dX7_weigh_91 : decode cX7_weigh 91 = .ok (.lstore 13, 2) := by decide +kernel
theorem dX7_weigh_93 : decode cX7_weigh 93 = .ok (.lload 13, 2) := by decide +kernel
theorem dX7_weigh_95 : decode cX7_weigh 95 = .ok (.lload 7, 2) := by decide +kernel
theorem dX7_weigh_97 : decode cX7_weigh 97 = .ok (.lcmp, 1) := by decide +kernel
theorem dX7_weigh_98 : decode cX7_weigh 98 = .ok (.ifCond .ge 8, 3) := by decide +kernel
theorem dX7_weigh_101 : decode cX7_weigh 101 = .ok (.lload 13, 2) := by decide +kernel
theorem dX7_weigh_103 : decode cX7_weigh 103 = .ok (.goto 5, 3) := by decide +kernel
theorem dX7_weigh_106 : decode cX7_weigh 106 = .ok (.lload 7, 2) := by decide +kernel
theorem dX7_weigh_108 : decode cX7_weigh 108 = .ok (.lstore 7, 2) := by decide +kernel
theorem dX7_weigh_110 : decode cX7_weigh 110 = .ok (.iinc 12 1, 3) := by decide +kernel
theorem dX7_weigh_113 : decode cX7_weigh 113 = .ok (.goto (-44), 3) := by decide +kernel
theorem dX7_weigh_116 : decode cX7_weigh 116 = .ok (.iinc 10 1, 3) := by decide +kernel
theorem dX7_weigh_119 : decode cX7_weigh 119 = .ok (.goto (-86), 3) := by decide +kernel
theorem dX7_weigh_122 : decode cX7_weigh 122 = .ok (.aload_n 0, 1) := by decide +kernel
theorem dX7_weigh_123 : decode cX7_weigh 123 = .ok (.getfield 30, 3) := by decide +kernel
theorem dX7_weigh_126 : decode cX7_weigh 126 = .ok (.aload_n 0, 1) := by decide +kernel
theorem dX7_weigh_127 : decode cX7_weigh 127 = .ok (.iload_n 1, 1) := by decide +kernel
theorem dX7_weigh_128 : decode cX7_weigh 128 = .ok (.iload_n 2, 1) := by decide +kernel
theorem dX7_weigh_129 : decode cX7_weigh 129 = .ok (.iload_n 3, 1) := by decide +kernel
theorem dX7_weigh_130 : decode cX7_weigh 130 = .ok (.iload 4, 2) := by decide +kernel
theorem dX7_weigh_132 : decode cX7_weigh 132 = .ok (.iload 5, 2) := by decide +kernel
theorem dX7_weigh_134 : decode cX7_weigh 134 = .ok (.invokevirtual 190, 3) := by decide +kernel
theorem dX7_weigh_137 : decode cX7_weigh 137 = .ok (.lload 7, 2) := by decide +kernel
theorem dX7_weigh_139 : decode cX7_weigh 139 = .ok (.lastore, 1) := by decide +kernel
theorem dX7_weigh_140 : decode cX7_weigh 140 = .ok (.return_, 1) := by decide +kernel
theorem dX7_goThrough_0 : decode cX7_goThrough 0 = .ok (.aload_n 0, 1) := by decide +kernel
theorem dX7_goThrough_1 : decode cX7_goThrough 1 = .ok (.getfield 176, 3) := by decide +kernel
theorem dX7_goThrough_4 : decode cX7_goThrough 4 = .ok (.ifCond .eq 8, 3) := by decide +kernel
theorem dX7_goThrough_7 : decode cX7_goThrough 7 = .ok (.bipush 24, 2) := by decide +kernel
theorem dX7_goThrough_9 : decode cX7_goThrough 9 = .ok (.goto 5, 3) := by decide +kernel
theorem dX7_goThrough_12 : decode cX7_goThrough 12 = .ok (.bipush 8, 2) := by decide +kernel
theorem dX7_goThrough_14 : decode cX7_goThrough 14 = .ok (.istore_n 3, 1) := by decide +kernel
theorem dX7_goThrough_15 : decode cX7_goThrough 15 = .ok (.aload_n 0, 1) := by decide +kernel
theorem dX7_goThrough_16 : decode cX7_goThrough 16 = .ok (.getfield 176, 3) := by decide +kernel
theorem dX7_goThrough_19 : decode cX7_goThrough 19 = .ok (.ifCond .eq 7, 3) := by decide +kernel
theorem dX7_goThrough_22 : decode cX7_goThrough 22 = .ok (.iconst 0, 1) := by decide +kernel
theorem dX7_goThrough_23 : decode cX7_goThrough 23 = .ok (.goto 5, 3) := by decide +kernel
theorem dX7_goThrough_26 : decode cX7_goThrough 26 = .ok (.bipush 8, 2) := by decide +kernel
theorem dX7_goThrough_28 : decode cX7_goThrough 28 = .ok (.istore 4, 2) := by decide +kernel
theorem dX7_goThrough_30 : decode cX7_goThrough 30 = .ok (.iconst 0, 1) := by decide +kernel
theorem dX7_goThrough_31 : decode cX7_goThrough 31 = .ok (.istore 5, 2) := by decide +kernel
theorem dX7_goThrough_33 : decode cX7_goThrough 33 = .ok (.iload 5, 2) := by decide +kernel
theorem dX7_goThrough_35 : decode cX7_goThrough 35 = .ok (.iload_n 3, 1) := by decide +kernel
theorem dX7_goThrough_36 : decode cX7_goThrough 36 = .ok (.if_icmp .gt 113, 3) := by decide +kernel
theorem dX7_goThrough_39 : decode cX7_goThrough 39 = .ok (.iconst 0, 1) := by decide +kernel
theorem dX7_goThrough_40 : decode cX7_goThrough 40 = .ok (.istore 6, 2) := by decide +kernel
theorem dX7_goThrough_42 : decode cX7_goThrough 42 = .ok (.iload 6, 2) := by decide +kernel
theorem dX7_goThrough_44 : decode cX7_goThrough 44 = .ok (.iload 4, 2) := by decide +kernel
theorem dX7_goThrough_46 : decode cX7_goThrough 46 = .ok (.if_icmp .gt 97, 3) := by decide +kernel
theorem dX7_goThrough_49 : decode cX7_goThrough 49 = .ok (.iconst 0, 1) := by decide +kernel
theorem dX7_goThrough_50 : decode cX7_goThrough 50 = .ok (.istore 7, 2) := by decide +kernel
theorem dX7_goThrough_52 : decode cX7_goThrough 52 = .ok (.iload 7, 2) := by decide +kernel
theorem dX7_goThrough_54 : decode cX7_goThrough 54 = .ok (.iload 4, 2) := by decide +kernel
theorem dX7_goThrough_56 : decode cX7_goThrough 56 = .ok (.if_icmp .gt 81, 3) := by decide +kernel
theorem dX7_goThrough_59 : decode cX7_goThrough 59 = .ok (.iconst 0, 1) := by decide +kernel
theorem dX7_goThrough_60 : decode cX7_goThrough 60 = .ok (.istore 8, 2) := by decide +kernel
theorem dX7_goThrough_62 : decode cX7_goThrough 62 = .ok (.iload 8, 2) := by decide +kernel
theorem dX7_goThrough_64 : decode cX7_goThrough 64 = .ok (.aload_n 0, 1) := by decide +kernel
theorem dX7_goThrough_65 : decode cX7_goThrough 65 = .ok (.getfield 154, 3) := by decide +kernel
theorem dX7_goThrough_68 : decode cX7_goThrough 68 = .ok (.if_icmp .ge 63, 3) := by decide +kernel
theorem dX7_goThrough_71 : decode cX7_goThrough 71 = .ok (.aload_n 0, 1) := by decide +kernel
theorem dX7_goThrough_72 : decode cX7_goThrough 72 = .ok (.getfield 33, 3) := by decide +kernel
theorem dX7_goThrough_75 : decode cX7_goThrough 75 = .ok (.aload_n 0, 1) := by decide +kernel
theorem dX7_goThrough_76 : decode cX7_goThrough 76 = .ok (.iload_n 1, 1) := by decide +kernel
theorem dX7_goThrough_77 : decode cX7_goThrough 77 = .ok (.iload 5, 2) := by decide +kernel
theorem dX7_goThrough_79 : decode cX7_goThrough 79 = .ok (.iload 6, 2) := by decide +kernel
theorem dX7_goThrough_81 : decode cX7_goThrough 81 = .ok (.iload 7, 2) := by decide +kernel
theorem dX7_goThrough_83 : decode cX7_goThrough 83 = .ok (.iload 8, 2) := by decide +kernel
theorem dX7_goThrough_85 : decode cX7_goThrough 85 = .ok (.invokevirtual 190, 3) := by decide +kernel
theorem dX7_goThrough_88 : decode cX7_goThrough 88 = .ok (.baload, 1) := by decide +kernel
theorem dX7_goThrough_89 : decode cX7_goThrough 89 = .ok (.ifCond .eq 36, 3) := by decide +kernel
theorem dX7_goThrough_92 : decode cX7_goThrough 92 = .ok (.iload_n 2, 1) := by decide +kernel
theorem dX7_goThrough_93 : decode cX7_goThrough 93 = .ok (.ifCond .eq 19, 3) := by decide +kernel
theorem dX7_goThrough_96 : decode cX7_goThrough 96 = .ok (.aload_n 0, 1) := by decide +kernel
theorem dX7_goThrough_97 : decode cX7_goThrough 97 = .ok (.iload_n 1, 1) := by decide +kernel
theorem dX7_goThrough_98 : decode cX7_goThrough 98 = .ok (.iload 5, 2) := by decide +kernel
theorem dX7_goThrough_100 : decode cX7_goThrough 100 = .ok (.iload 6, 2) := by decide +kernel
theorem dX7_goThrough_102 : decode cX7_goThrough 102 = .ok (.iload 7, 2) := by decide +kernel
theorem dX7_goThrough_104 : decode cX7_goThrough 104 = .ok (.iload 8, 2) := by decide +kernel
theorem dX7_goThrough_106 : decode cX7_goThrough 106 = .ok (.invokevirtual 210, 3) := by decide +kernel
theorem dX7_goThrough_109 : decode cX7_goThrough 109 = .ok (.goto 16, 3) := by decide +kernel
theorem dX7_goThrough_112 : decode cX7_goThrough 112 = .ok (.aload_n 0, 1) := by decide +kernel
theorem dX7_goThrough_113 : decode cX7_goThrough 113 = .ok (.iload_n 1, 1) := by decide +kernel
theorem dX7_goThrough_114 : decode cX7_goThrough 114 = .ok (.iload 5, 2) := by decide +kernel
theorem dX7_goThrough_116 : decode cX7_goThrough 116 = .ok (.iload 6, 2) := by decide +kernel
theorem dX7_goThrough_118 : decode cX7_goThrough 118 = .ok (.iload 7, 2) := by decide +kernel
theorem dX7_goThrough_120 : decode cX7_goThrough 120 = .ok (.iload 8, 2) := by decide +kernel
theorem dX7_goThrough_122 : decode cX7_goThrough 122 = .ok (.invokevirtual 214, 3) := by decide +kernel
theorem dX7_goThrough_125 : decode cX7_goThrough 125 = .ok (.iinc 8 1, 3) := by decide +kernel
theorem dX7_goThrough_128 : decode cX7_goThrough 128 = .ok (.goto (-66), 3) := by decide +kernel
theorem dX7_goThrough_131 : decode cX7_goThrough 131 = .ok (.iinc 7 1, 3) := by decide +kernel
theorem dX7_goThrough_134 : decode cX7_goThrough 134 = .ok (.goto (-82), 3) := by decide +kernel
theorem dX7_goThrough_137 : decode cX7_goThrough 137 = .ok (.iinc 6 1, 3) := by decide +kernel
theorem dX7_goThrough_140 : decode cX7_goThrough 140 = .ok (.goto (-98), 3) := by decide +kernel
theorem dX7_goThrough_143 : decode cX7_goThrough 143 = .ok (.iinc 5 1, 3) := by decide +kernel
theorem dX7_goThrough_146 : decode cX7_goThrough 146 = .ok (.goto (-113), 3) := by decide +kernel
theorem dX7_goThrough_149 : decode cX7_goThrough 149 = .ok (.return_, 1) := by decide +kernel
theorem dX7_buildFree_0 : decode cX7_buildFree 0 = .ok (.aload_n 0, 1) := by decide +kernel
theorem dX7_buildFree_1 : decode cX7_buildFree 1 = .ok (.aload_n 0, 1) := by decide +kernel
theorem dX7_buildFree_2 : decode cX7_buildFree 2 = .ok (.invokevirtual 183, 3) := by decide +kernel
theorem dX7_buildFree_5 : decode cX7_buildFree 5 = .ok (.putfield 176, 3) := by decide +kernel
theorem dX7_buildFree_8 : decode cX7_buildFree 8 = .ok (.aload_n 0, 1) := by decide +kernel
theorem dX7_buildFree_9 : decode cX7_buildFree 9 = .ok (.aload_n 0, 1) := by decide +kernel
theorem dX7_buildFree_10 : decode cX7_buildFree 10 = .ok (.getfield 176, 3) := by decide +kernel
theorem dX7_buildFree_13 : decode cX7_buildFree 13 = .ok (.ifCond .eq 12, 3) := by decide +kernel
theorem dX7_buildFree_16 : decode cX7_buildFree 16 = .ok (.aload_n 0, 1) := by decide +kernel
theorem dX7_buildFree_17 : decode cX7_buildFree 17 = .ok (.getfield 7, 3) := by decide +kernel
theorem dX7_buildFree_20 : decode cX7_buildFree 20 = .ok (.iconst 0, 1) := by decide +kernel
theorem dX7_buildFree_21 : decode cX7_buildFree 21 = .ok (.iaload, 1) := by decide +kernel
theorem dX7_buildFree_22 : decode cX7_buildFree 22 = .ok (.goto 4, 3) := by decide +kernel
theorem dX7_buildFree_25 : decode cX7_buildFree 25 = .ok (.iconst 1, 1) := by decide +kernel
theorem dX7_buildFree_26 : decode cX7_buildFree 26 = .ok (.putfield 201, 3) := by decide +kernel
theorem dX7_buildFree_29 : decode cX7_buildFree 29 = .ok (.aload_n 0, 1) := by decide +kernel
theorem dX7_buildFree_30 : decode cX7_buildFree 30 = .ok (.aload_n 0, 1) := by decide +kernel
theorem dX7_buildFree_31 : decode cX7_buildFree 31 = .ok (.getfield 176, 3) := by decide +kernel
theorem dX7_buildFree_34 : decode cX7_buildFree 34 = .ok (.ifCond .eq 7, 3) := by decide +kernel
theorem dX7_buildFree_37 : decode cX7_buildFree 37 = .ok (.iload_n 2, 1) := by decide +kernel
theorem dX7_buildFree_38 : decode cX7_buildFree 38 = .ok (.goto 5, 3) := by decide +kernel
theorem dX7_buildFree_41 : decode cX7_buildFree 41 = .ok (.bipush 31, 2) := by decide +kernel
theorem dX7_buildFree_43 : decode cX7_buildFree 43 = .ok (.putfield 194, 3) := by decide +kernel
theorem dX7_buildFree_46 : decode cX7_buildFree 46 = .ok (.iconst 0, 1) := by decide +kernel
theorem dX7_buildFree_47 : decode cX7_buildFree 47 = .ok (.istore_n 3, 1) := by decide +kernel
theorem dX7_buildFree_48 : decode cX7_buildFree 48 = .ok (.iload_n 3, 1) := by decide +kernel
theorem dX7_buildFree_49 : decode cX7_buildFree 49 = .ok (.iconst 4, 1) := by decide +kernel
theorem dX7_buildFree_50 : decode cX7_buildFree 50 = .ok (.if_icmp .ge 16, 3) := by decide +kernel
theorem dX7_buildFree_53 : decode cX7_buildFree 53 = .ok (.aload_n 0, 1) := by decide +kernel
theorem dX7_buildFree_54 : decode cX7_buildFree 54 = .ok (.getfield 40, 3) := by decide +kernel
theorem dX7_buildFree_57 : decode cX7_buildFree 57 = .ok (.iload_n 3, 1) := by decide +kernel
theorem dX7_buildFree_58 : decode cX7_buildFree 58 = .ok (.iconst 0, 1) := by decide +kernel
theorem dX7_buildFree_59 : decode cX7_buildFree 59 = .ok (.iastore, 1) := by decide +kernel
theorem dX7_buildFree_60 : decode cX7_buildFree 60 = .ok (.iinc 3 1, 3) := by decide +kernel
theorem dX7_buildFree_63 : decode cX7_buildFree 63 = .ok (.goto (-15), 3) := by decide +kernel
theorem dX7_buildFree_66 : decode cX7_buildFree 66 = .ok (.iconst 0, 1) := by decide +kernel
theorem dX7_buildFree_67 : decode cX7_buildFree 67 = .ok (.istore_n 3, 1) := by decide +kernel
theorem dX7_buildFree_68 : decode cX7_buildFree 68 = .ok (.iload_n 3, 1) := by decide +kernel
theorem dX7_buildFree_69 : decode cX7_buildFree 69 = .ok (.aload_n 0, 1) := by decide +kernel
theorem dX7_buildFree_70 : decode cX7_buildFree 70 = .ok (.getfield 137, 3) := by decide +kernel
theorem dX7_buildFree_73 : decode cX7_buildFree 73 = .ok (.if_icmp .ge 35, 3) := by decide +kernel
theorem dX7_buildFree_76 : decode cX7_buildFree 76 = .ok (.aload_n 0, 1) := by decide +kernel
theorem dX7_buildFree_77 : decode cX7_buildFree 77 = .ok (.getfield 40, 3) := by decide +kernel
theorem dX7_buildFree_80 : decode cX7_buildFree 80 = .ok (.aload_n 0, 1) := by decide +kernel
theorem dX7_buildFree_81 : decode cX7_buildFree 81 = .ok (.getfield 176, 3) := by decide +kernel
theorem dX7_buildFree_84 : decode cX7_buildFree 84 = .ok (.ifCond .eq 7, 3) := by decide +kernel
theorem dX7_buildFree_87 : decode cX7_buildFree 87 = .ok (.iconst 1, 1) := by decide +kernel
theorem dX7_buildFree_88 : decode cX7_buildFree 88 = .ok (.goto 9, 3) := by decide +kernel
theorem dX7_buildFree_91 : decode cX7_buildFree 91 = .ok (.aload_n 0, 1) := by decide +kernel
theorem dX7_buildFree_92 : decode cX7_buildFree 92 = .ok (.getfield 7, 3) := by decide +kernel
theorem dX7_buildFree_95 : decode cX7_buildFree 95 = .ok (.iload_n 3, 1) := by decide +kernel
theorem dX7_buildFree_96 : decode cX7_buildFree 96 = .ok (.iaload, 1) := by decide +kernel
theorem dX7_buildFree_97 : decode cX7_buildFree 97 = .ok (.dup2, 1) := by decide +kernel
theorem dX7_buildFree_98 : decode cX7_buildFree 98 = .ok (.iaload, 1) := by decide +kernel
theorem dX7_buildFree_99 : decode cX7_buildFree 99 = .ok (.iconst 1, 1) := by decide +kernel
theorem dX7_buildFree_100 : decode cX7_buildFree 100 = .ok (.iadd, 1) := by decide +kernel
theorem dX7_buildFree_101 : decode cX7_buildFree 101 = .ok (.iastore, 1) := by decide +kernel
theorem dX7_buildFree_102 : decode cX7_buildFree 102 = .ok (.iinc 3 1, 3) := by decide +kernel
theorem dX7_buildFree_105 : decode cX7_buildFree 105 = .ok (.goto (-37), 3) := by decide +kernel
theorem dX7_buildFree_108 : decode cX7_buildFree 108 = .ok (.aload_n 0, 1) := by decide +kernel
theorem dX7_buildFree_109 : decode cX7_buildFree 109 = .ok (.aload_n 1, 1) := by decide +kernel
theorem dX7_buildFree_110 : decode cX7_buildFree 110 = .ok (.invokevirtual 217, 3) := by decide +kernel
theorem dX7_buildFree_113 : decode cX7_buildFree 113 = .ok (.aload_n 0, 1) := by decide +kernel
theorem dX7_buildFree_114 : decode cX7_buildFree 114 = .ok (.getfield 37, 3) := by decide +kernel
theorem dX7_buildFree_117 : decode cX7_buildFree 117 = .ok (.iconst 0, 1) := by decide +kernel
theorem dX7_buildFree_118 : decode cX7_buildFree 118 = .ok (.lconst 0, 1) := by decide +kernel
theorem dX7_buildFree_119 : decode cX7_buildFree 119 = .ok (.lastore, 1) := by decide +kernel
theorem dX7_buildFree_120 : decode cX7_buildFree 120 = .ok (.iconst 0, 1) := by decide +kernel
theorem dX7_buildFree_121 : decode cX7_buildFree 121 = .ok (.istore_n 3, 1) := by decide +kernel
theorem dX7_buildFree_122 : decode cX7_buildFree 122 = .ok (.iload_n 3, 1) := by decide +kernel
theorem dX7_buildFree_123 : decode cX7_buildFree 123 = .ok (.aload_n 0, 1) := by decide +kernel
theorem dX7_buildFree_124 : decode cX7_buildFree 124 = .ok (.getfield 154, 3) := by decide +kernel
theorem dX7_buildFree_127 : decode cX7_buildFree 127 = .ok (.if_icmp .ge 33, 3) := by decide +kernel
theorem dX7_buildFree_130 : decode cX7_buildFree 130 = .ok (.aload_n 0, 1) := by decide +kernel
theorem dX7_buildFree_131 : decode cX7_buildFree 131 = .ok (.getfield 37, 3) := by decide +kernel
theorem dX7_buildFree_134 : decode cX7_buildFree 134 = .ok (.iload_n 3, 1) := by decide +kernel
theorem dX7_buildFree_135 : decode cX7_buildFree 135 = .ok (.iconst 1, 1) := by decide +kernel
theorem dX7_buildFree_136 : decode cX7_buildFree 136 = .ok (.iadd, 1) := by decide +kernel
theorem dX7_buildFree_137 : decode cX7_buildFree 137 = .ok (.aload_n 0, 1) := by decide +kernel
theorem dX7_buildFree_138 : decode cX7_buildFree 138 = .ok (.getfield 37, 3) := by decide +kernel
theorem dX7_buildFree_141 : decode cX7_buildFree 141 = .ok (.iload_n 3, 1) := by decide +kernel
theorem dX7_buildFree_142 : decode cX7_buildFree 142 = .ok (.laload, 1) := by decide +kernel
theorem dX7_buildFree_143 : decode cX7_buildFree 143 = .ok (.aload_n 1, 1) := by decide +kernel
theorem dX7_buildFree_144 : decode cX7_buildFree 144 = .ok (.aload_n 0, 1) := by decide +kernel
theorem dX7_buildFree_145 : decode cX7_buildFree 145 = .ok (.getfield 26, 3) := by decide +kernel
theorem dX7_buildFree_148 : decode cX7_buildFree 148 = .ok (.iload_n 3, 1) := by decide +kernel
theorem dX7_buildFree_149 : decode cX7_buildFree 149 = .ok (.iaload, 1) := by decide +kernel
theorem dX7_buildFree_150 : decode cX7_buildFree 150 = .ok (.iaload, 1) := by decide +kernel
theorem dX7_buildFree_151 : decode cX7_buildFree 151 = .ok (.i2l, 1) := by decide +kernel
theorem dX7_buildFree_152 : decode cX7_buildFree 152 = .ok (.ladd, 1) := by decide +kernel
theorem dX7_buildFree_153 : decode cX7_buildFree 153 = .ok (.lastore, 1) := by decide +kernel
theorem dX7_buildFree_154 : decode cX7_buildFree 154 = .ok (.iinc 3 1, 3) := by decide +kernel
theorem dX7_buildFree_157 : decode cX7_buildFree 157 = .ok (.goto (-35), 3) := by decide +kernel
theorem dX7_buildFree_160 : decode cX7_buildFree 160 = .ok (.aload_n 0, 1) := by decide +kernel
theorem dX7_buildFree_161 : decode cX7_buildFree 161 = .ok (.getfield 176, 3) := by decide +kernel
theorem dX7_buildFree_164 : decode cX7_buildFree 164 = .ok (.ifCond .eq 9, 3) := by decide +kernel
theorem dX7_buildFree_167 : decode cX7_buildFree 167 = .ok (.sipush 15625, 3) := by decide +kernel
theorem dX7_buildFree_170 : decode cX7_buildFree 170 = .ok (.goto 5, 3) := by decide +kernel
theorem dX7_buildFree_173 : decode cX7_buildFree 173 = .ok (.ldc 29, 2) := by decide +kernel
theorem dX7_buildFree_175 : decode cX7_buildFree 175 = .ok (.istore_n 3, 1) := by decide +kernel
theorem dX7_buildFree_176 : decode cX7_buildFree 176 = .ok (.iconst 0, 1) := by decide +kernel
theorem dX7_buildFree_177 : decode cX7_buildFree 177 = .ok (.istore 4, 2) := by decide +kernel
theorem dX7_buildFree_179 : decode cX7_buildFree 179 = .ok (.iload 4, 2) := by decide +kernel
theorem dX7_buildFree_181 : decode cX7_buildFree 181 = .ok (.iload_n 3, 1) := by decide +kernel
theorem dX7_buildFree_182 : decode cX7_buildFree 182 = .ok (.if_icmp .ge 17, 3) := by decide +kernel
theorem dX7_buildFree_185 : decode cX7_buildFree 185 = .ok (.aload_n 0, 1) := by decide +kernel
theorem dX7_buildFree_186 : decode cX7_buildFree 186 = .ok (.getfield 33, 3) := by decide +kernel
theorem dX7_buildFree_189 : decode cX7_buildFree 189 = .ok (.iload 4, 2) := by decide +kernel
theorem dX7_buildFree_191 : decode cX7_buildFree 191 = .ok (.iconst 0, 1) := by decide +kernel
theorem dX7_buildFree_192 : decode cX7_buildFree 192 = .ok (.bastore, 1) := by decide +kernel
theorem dX7_buildFree_193 : decode cX7_buildFree 193 = .ok (.iinc 4 1, 3) := by decide +kernel
theorem dX7_buildFree_196 : decode cX7_buildFree 196 = .ok (.goto (-17), 3) := by decide +kernel
theorem dX7_buildFree_199 : decode cX7_buildFree 199 = .ok (.aload_n 0, 1) := by decide +kernel
theorem dX7_buildFree_200 : decode cX7_buildFree 200 = .ok (.getfield 33, 3) := by decide +kernel
theorem dX7_buildFree_203 : decode cX7_buildFree 203 = .ok (.aload_n 0, 1) := by decide +kernel
theorem dX7_buildFree_204 : decode cX7_buildFree 204 = .ok (.iconst 0, 1) := by decide +kernel
theorem dX7_buildFree_205 : decode cX7_buildFree 205 = .ok (.iconst 1, 1) := by decide +kernel
theorem dX7_buildFree_206 : decode cX7_buildFree 206 = .ok (.iconst 0, 1) := by decide +kernel
theorem dX7_buildFree_207 : decode cX7_buildFree 207 = .ok (.iconst 0, 1) := by decide +kernel
theorem dX7_buildFree_208 : decode cX7_buildFree 208 = .ok (.iconst 0, 1) := by decide +kernel
theorem dX7_buildFree_209 : decode cX7_buildFree 209 = .ok (.invokevirtual 190, 3) := by decide +kernel
theorem dX7_buildFree_212 : decode cX7_buildFree 212 = .ok (.iconst 1, 1) := by decide +kernel
theorem dX7_buildFree_213 : decode cX7_buildFree 213 = .ok (.bastore, 1) := by decide +kernel
theorem dX7_buildFree_214 : decode cX7_buildFree 214 = .ok (.iconst 0, 1) := by decide +kernel
theorem dX7_buildFree_215 : decode cX7_buildFree 215 = .ok (.istore 4, 2) := by decide +kernel
theorem dX7_buildFree_217 : decode cX7_buildFree 217 = .ok (.iload 4, 2) := by decide +kernel
theorem dX7_buildFree_219 : decode cX7_buildFree 219 = .ok (.aload_n 0, 1) := by decide +kernel
theorem dX7_buildFree_220 : decode cX7_buildFree 220 = .ok (.getfield 194, 3) := by decide +kernel
theorem dX7_buildFree_223 : decode cX7_buildFree 223 = .ok (.if_icmp .ge 16, 3) := by decide +kernel
theorem dX7_buildFree_226 : decode cX7_buildFree 226 = .ok (.aload_n 0, 1) := by decide +kernel
theorem dX7_buildFree_227 : decode cX7_buildFree 227 = .ok (.iload 4, 2) := by decide +kernel
theorem dX7_buildFree_229 : decode cX7_buildFree 229 = .ok (.iconst 1, 1) := by decide +kernel
theorem dX7_buildFree_230 : decode cX7_buildFree 230 = .ok (.invokevirtual 221, 3) := by decide +kernel
theorem dX7_buildFree_233 : decode cX7_buildFree 233 = .ok (.iinc 4 1, 3) := by decide +kernel
theorem dX7_buildFree_236 : decode cX7_buildFree 236 = .ok (.goto (-19), 3) := by decide +kernel
theorem dX7_buildFree_239 : decode cX7_buildFree 239 = .ok (.aload_n 0, 1) := by decide +kernel
theorem dX7_buildFree_240 : decode cX7_buildFree 240 = .ok (.getfield 194, 3) := by decide +kernel
theorem dX7_buildFree_243 : decode cX7_buildFree 243 = .ok (.istore 4, 2) := by decide +kernel
theorem dX7_buildFree_245 : decode cX7_buildFree 245 = .ok (.iload 4, 2) := by decide +kernel
theorem dX7_buildFree_247 : decode cX7_buildFree 247 = .ok (.ifCond .lt 16, 3) := by decide +kernel
theorem dX7_buildFree_250 : decode cX7_buildFree 250 = .ok (.aload_n 0, 1) := by decide +kernel
theorem dX7_buildFree_251 : decode cX7_buildFree 251 = .ok (.iload 4, 2) := by decide +kernel
theorem dX7_buildFree_253 : decode cX7_buildFree 253 = .ok (.iconst 0, 1) := by decide +kernel
theorem dX7_buildFree_254 : decode cX7_buildFree 254 = .ok (.invokevirtual 221, 3) := by decide +kernel
theorem dX7_buildFree_257 : decode cX7_buildFree 257 = .ok (.iinc 4 (-1), 3) := by decide +kernel
theorem dX7_buildFree_260 : decode cX7_buildFree 260 = .ok (.goto (-15), 3) := by decide +kernel
theorem dX7_buildFree_263 : decode cX7_buildFree 263 = .ok (.aload_n 0, 1) := by decide +kernel
theorem dX7_buildFree_264 : decode cX7_buildFree 264 = .ok (.getfield 30, 3) := by decide +kernel
theorem dX7_buildFree_267 : decode cX7_buildFree 267 = .ok (.aload_n 0, 1) := by decide +kernel
theorem dX7_buildFree_268 : decode cX7_buildFree 268 = .ok (.iconst 0, 1) := by decide +kernel
theorem dX7_buildFree_269 : decode cX7_buildFree 269 = .ok (.iconst 1, 1) := by decide +kernel
theorem dX7_buildFree_270 : decode cX7_buildFree 270 = .ok (.iconst 0, 1) := by decide +kernel
theorem dX7_buildFree_271 : decode cX7_buildFree 271 = .ok (.iconst 0, 1) := by decide +kernel
theorem dX7_buildFree_272 : decode cX7_buildFree 272 = .ok (.iconst 0, 1) := by decide +kernel
theorem dX7_buildFree_273 : decode cX7_buildFree 273 = .ok (.invokevirtual 190, 3) := by decide +kernel
theorem dX7_buildFree_276 : decode cX7_buildFree 276 = .ok (.laload, 1) := by decide +kernel
theorem dX7_buildFree_277 : decode cX7_buildFree 277 = .ok (.ldc2_w 204, 3) := by decide +kernel
theorem dX7_buildFree_280 : decode cX7_buildFree 280 = .ok (.lcmp, 1) := by decide +kernel
theorem dX7_buildFree_281 : decode cX7_buildFree 281 = .ok (.ifCond .lt 5, 3) := by decide +kernel
theorem dX7_buildFree_284 : decode cX7_buildFree 284 = .ok (.iconst 0, 1) := by decide +kernel
theorem dX7_buildFree_285 : decode cX7_buildFree 285 = .ok (.ireturn, 1) := by decide +kernel
theorem dX7_buildFree_286 : decode cX7_buildFree 286 = .ok (.aload_n 0, 1) := by decide +kernel
theorem dX7_buildFree_287 : decode cX7_buildFree 287 = .ok (.invokevirtual 225, 3) := by decide +kernel
theorem dX7_buildFree_290 : decode cX7_buildFree 290 = .ok (.iconst 1, 1) := by decide +kernel
theorem dX7_buildFree_291 : decode cX7_buildFree 291 = .ok (.ireturn, 1) := by decide +kernel
theorem dX7_choose_0 : decode cX7_choose 0 = .ok (.aload_n 0, 1) := by decide +kernel
theorem dX7_choose_1 : decode cX7_choose 1 = .ok (.getfield 154, 3) := by decide +kernel
theorem dX7_choose_4 : decode cX7_choose 4 = .ok (.iload 5, 2) := by decide +kernel
theorem dX7_choose_6 : decode cX7_choose 6 = .ok (.isub, 1) := by decide +kernel
theorem dX7_choose_7 : decode cX7_choose 7 = .ok (.istore 6, 2) := by decide +kernel
theorem dX7_choose_9 : decode cX7_choose 9 = .ok (.iload_n 1, 1) := by decide +kernel
theorem dX7_choose_10 : decode cX7_choose 10 = .ok (.ifCond .ne 7, 3) := by decide +kernel
theorem dX7_choose_13 : decode cX7_choose 13 = .ok (.iconst 0, 1) := by decide +kernel
theorem dX7_choose_14 : decode cX7_choose 14 = .ok (.goto 9, 3) := by decide +kernel
theorem dX7_choose_17 : decode cX7_choose 17 = .ok (.iload_n 2, 1) := by decide +kernel
theorem dX7_choose_18 : decode cX7_choose 18 = .ok (.iload 6, 2) := by decide +kernel
theorem dX7_choose_20 : decode cX7_choose 20 = .ok (.invokestatic 186, 3) := by decide +kernel
theorem dX7_choose_23 : decode cX7_choose 23 = .ok (.istore 7, 2) := by decide +kernel
theorem dX7_choose_25 : decode cX7_choose 25 = .ok (.iload 7, 2) := by decide +kernel
theorem dX7_choose_27 : decode cX7_choose 27 = .ok (.ifCond .lt 99, 3) := by decide +kernel
theorem dX7_choose_30 : decode cX7_choose 30 = .ok (.iload_n 1, 1) := by decide +kernel
theorem dX7_choose_31 : decode cX7_choose 31 = .ok (.aload_n 0, 1) := by decide +kernel
theorem dX7_choose_32 : decode cX7_choose 32 = .ok (.getfield 194, 3) := by decide +kernel
theorem dX7_choose_35 : decode cX7_choose 35 = .ok (.if_icmp .ne 7, 3) := by decide +kernel
theorem dX7_choose_38 : decode cX7_choose 38 = .ok (.iconst 0, 1) := by decide +kernel
theorem dX7_choose_39 : decode cX7_choose 39 = .ok (.goto 15, 3) := by decide +kernel
theorem dX7_choose_42 : decode cX7_choose 42 = .ok (.iload_n 2, 1) := by decide +kernel
theorem dX7_choose_43 : decode cX7_choose 43 = .ok (.iload 7, 2) := by decide +kernel
theorem dX7_choose_45 : decode cX7_choose 45 = .ok (.isub, 1) := by decide +kernel
theorem dX7_choose_46 : decode cX7_choose 46 = .ok (.iload 6, 2) := by decide +kernel
theorem dX7_choose_48 : decode cX7_choose 48 = .ok (.iload 7, 2) := by decide +kernel
theorem dX7_choose_50 : decode cX7_choose 50 = .ok (.isub, 1) := by decide +kernel
theorem dX7_choose_51 : decode cX7_choose 51 = .ok (.invokestatic 186, 3) := by decide +kernel
theorem dX7_choose_54 : decode cX7_choose 54 = .ok (.istore 8, 2) := by decide +kernel
theorem dX7_choose_56 : decode cX7_choose 56 = .ok (.iconst 0, 1) := by decide +kernel
theorem dX7_choose_57 : decode cX7_choose 57 = .ok (.istore 9, 2) := by decide +kernel
theorem dX7_choose_59 : decode cX7_choose 59 = .ok (.iload 9, 2) := by decide +kernel
theorem dX7_choose_61 : decode cX7_choose 61 = .ok (.iload 8, 2) := by decide +kernel
theorem dX7_choose_63 : decode cX7_choose 63 = .ok (.if_icmp .gt 57, 3) := by decide +kernel
theorem dX7_choose_66 : decode cX7_choose 66 = .ok (.aload_n 0, 1) := by decide +kernel
theorem dX7_choose_67 : decode cX7_choose 67 = .ok (.iload_n 1, 1) := by decide +kernel
theorem dX7_choose_68 : decode cX7_choose 68 = .ok (.iload_n 2, 1) := by decide +kernel
theorem dX7_choose_69 : decode cX7_choose 69 = .ok (.iload_n 3, 1) := by decide +kernel
theorem dX7_choose_70 : decode cX7_choose 70 = .ok (.iload 4, 2) := by decide +kernel
theorem dX7_choose_72 : decode cX7_choose 72 = .ok (.iload 5, 2) := by decide +kernel
theorem dX7_choose_74 : decode cX7_choose 74 = .ok (.iload 7, 2) := by decide +kernel
theorem dX7_choose_76 : decode cX7_choose 76 = .ok (.iload 9, 2) := by decide +kernel
theorem dX7_choose_78 : decode cX7_choose 78 = .ok (.invokevirtual 206, 3) := by decide +kernel
theorem dX7_choose_81 : decode cX7_choose 81 = .ok (.aload_n 0, 1) := by decide +kernel
theorem dX7_choose_82 : decode cX7_choose 82 = .ok (.getfield 30, 3) := by decide +kernel
theorem dX7_choose_85 : decode cX7_choose 85 = .ok (.aload_n 0, 1) := by decide +kernel
theorem dX7_choose_86 : decode cX7_choose 86 = .ok (.iload_n 1, 1) := by decide +kernel
theorem dX7_choose_87 : decode cX7_choose 87 = .ok (.iload_n 2, 1) := by decide +kernel
theorem dX7_choose_88 : decode cX7_choose 88 = .ok (.iload_n 3, 1) := by decide +kernel
theorem dX7_choose_89 : decode cX7_choose 89 = .ok (.iload 4, 2) := by decide +kernel
theorem dX7_choose_91 : decode cX7_choose 91 = .ok (.iload 5, 2) := by decide +kernel
theorem dX7_choose_93 : decode cX7_choose 93 = .ok (.invokevirtual 190, 3) := by decide +kernel
theorem dX7_choose_96 : decode cX7_choose 96 = .ok (.laload, 1) := by decide +kernel
theorem dX7_choose_97 : decode cX7_choose 97 = .ok (.lcmp, 1) := by decide +kernel
theorem dX7_choose_98 : decode cX7_choose 98 = .ok (.ifCond .ne 16, 3) := by decide +kernel
theorem dX7_choose_101 : decode cX7_choose 101 = .ok (.aload_n 0, 1) := by decide +kernel
theorem dX7_choose_102 : decode cX7_choose 102 = .ok (.iload 7, 2) := by decide +kernel
theorem dX7_choose_104 : decode cX7_choose 104 = .ok (.putfield 228, 3) := by decide +kernel
theorem dX7_choose_107 : decode cX7_choose 107 = .ok (.aload_n 0, 1) := by decide +kernel
theorem dX7_choose_108 : decode cX7_choose 108 = .ok (.iload 9, 2) := by decide +kernel
theorem dX7_choose_110 : decode cX7_choose 110 = .ok (.putfield 231, 3) := by decide +kernel
theorem dX7_choose_113 : decode cX7_choose 113 = .ok (.return_, 1) := by decide +kernel
theorem dX7_choose_114 : decode cX7_choose 114 = .ok (.iinc 9 1, 3) := by decide +kernel
theorem dX7_choose_117 : decode cX7_choose 117 = .ok (.goto (-58), 3) := by decide +kernel
theorem dX7_choose_120 : decode cX7_choose 120 = .ok (.iinc 7 (-1), 3) := by decide +kernel
theorem dX7_choose_123 : decode cX7_choose 123 = .ok (.goto (-98), 3) := by decide +kernel
theorem dX7_choose_126 : decode cX7_choose 126 = .ok (.return_, 1) := by decide +kernel
theorem dX7_open_0 : decode cX7_open 0 = .ok (.aload_n 0, 1) := by decide +kernel
theorem dX7_open_1 : decode cX7_open 1 = .ok (.getfield 43, 3) := by decide +kernel
theorem dX7_open_4 : decode cX7_open 4 = .ok (.aload_n 0, 1) := by decide +kernel
theorem dX7_open_5 : decode cX7_open 5 = .ok (.getfield 234, 3) := by decide +kernel
theorem dX7_open_8 : decode cX7_open 8 = .ok (.lload_n 1, 1) := by decide +kernel
theorem dX7_open_9 : decode cX7_open 9 = .ok (.lastore, 1) := by decide +kernel
theorem dX7_open_10 : decode cX7_open 10 = .ok (.aload_n 0, 1) := by decide +kernel
theorem dX7_open_11 : decode cX7_open 11 = .ok (.getfield 46, 3) := by decide +kernel
theorem dX7_open_14 : decode cX7_open 14 = .ok (.aload_n 0, 1) := by decide +kernel
theorem dX7_open_15 : decode cX7_open 15 = .ok (.getfield 234, 3) := by decide +kernel
theorem dX7_open_18 : decode cX7_open 18 = .ok (.iload_n 3, 1) := by decide +kernel
theorem dX7_open_19 : decode cX7_open 19 = .ok (.iastore, 1) := by decide +kernel
theorem dX7_open_20 : decode cX7_open 20 = .ok (.aload_n 0, 1) := by decide +kernel
theorem dX7_open_21 : decode cX7_open 21 = .ok (.getfield 49, 3) := by decide +kernel
theorem dX7_open_24 : decode cX7_open 24 = .ok (.aload_n 0, 1) := by decide +kernel
theorem dX7_open_25 : decode cX7_open 25 = .ok (.getfield 234, 3) := by decide +kernel
theorem dX7_open_28 : decode cX7_open 28 = .ok (.iload 4, 2) := by decide +kernel
theorem dX7_open_30 : decode cX7_open 30 = .ok (.iastore, 1) := by decide +kernel
theorem dX7_open_31 : decode cX7_open 31 = .ok (.aload_n 0, 1) := by decide +kernel
theorem dX7_open_32 : decode cX7_open 32 = .ok (.dup, 1) := by decide +kernel
theorem dX7_open_33 : decode cX7_open 33 = .ok (.getfield 234, 3) := by decide +kernel
theorem dX7_open_36 : decode cX7_open 36 = .ok (.iconst 1, 1) := by decide +kernel
theorem dX7_open_37 : decode cX7_open 37 = .ok (.iadd, 1) := by decide +kernel
theorem dX7_open_38 : decode cX7_open 38 = .ok (.putfield 234, 3) := by decide +kernel
theorem dX7_open_41 : decode cX7_open 41 = .ok (.return_, 1) := by decide +kernel
theorem dX7_findTurn_0 : decode cX7_findTurn 0 = .ok (.aload_n 0, 1) := by decide +kernel
theorem dX7_findTurn_1 : decode cX7_findTurn 1 = .ok (.iconst 0, 1) := by decide +kernel
theorem dX7_findTurn_2 : decode cX7_findTurn 2 = .ok (.putfield 237, 3) := by decide +kernel
theorem dX7_findTurn_5 : decode cX7_findTurn 5 = .ok (.iconst 0, 1) := by decide +kernel
theorem dX7_findTurn_6 : decode cX7_findTurn 6 = .ok (.istore_n 2, 1) := by decide +kernel
theorem dX7_findTurn_7 : decode cX7_findTurn 7 = .ok (.iload_n 2, 1) := by decide +kernel
theorem dX7_findTurn_8 : decode cX7_findTurn 8 = .ok (.aload_n 0, 1) := by decide +kernel
theorem dX7_findTurn_9 : decode cX7_findTurn 9 = .ok (.getfield 234, 3) := by decide +kernel
theorem dX7_findTurn_12 : decode cX7_findTurn 12 = .ok (.if_icmp .ge 109, 3) := by decide +kernel
theorem dX7_findTurn_15 : decode cX7_findTurn 15 = .ok (.aload_n 0, 1) := by decide +kernel
theorem dX7_findTurn_16 : decode cX7_findTurn 16 = .ok (.getfield 49, 3) := by decide +kernel
theorem dX7_findTurn_19 : decode cX7_findTurn 19 = .ok (.iload_n 2, 1) := by decide +kernel
theorem dX7_findTurn_20 : decode cX7_findTurn 20 = .ok (.iaload, 1) := by decide +kernel
theorem dX7_findTurn_21 : decode cX7_findTurn 21 = .ok (.iload_n 1, 1) := by decide +kernel
theorem dX7_findTurn_22 : decode cX7_findTurn 22 = .ok (.if_icmp .ne 93, 3) := by decide +kernel
theorem dX7_findTurn_25 : decode cX7_findTurn 25 = .ok (.aload_n 0, 1) := by decide +kernel
theorem dX7_findTurn_26 : decode cX7_findTurn 26 = .ok (.getfield 237, 3) := by decide +kernel
theorem dX7_findTurn_29 : decode cX7_findTurn 29 = .ok (.istore_n 3, 1) := by decide +kernel
theorem dX7_findTurn_30 : decode cX7_findTurn 30 = .ok (.iload_n 3, 1) := by decide +kernel
theorem dX7_findTurn_31 : decode cX7_findTurn 31 = .ok (.ifCond .le 67, 3) := by decide +kernel
theorem dX7_findTurn_34 : decode cX7_findTurn 34 = .ok (.aload_n 0, 1) := by decide +kernel
theorem dX7_findTurn_35 : decode cX7_findTurn 35 = .ok (.getfield 43, 3) := by decide +kernel
theorem dX7_findTurn_38 : decode cX7_findTurn 38 = .ok (.iload_n 2, 1) := by decide +kernel
theorem dX7_findTurn_39 : decode cX7_findTurn 39 = .ok (.laload, 1) := by decide +kernel
theorem dX7_findTurn_40 : decode cX7_findTurn 40 = .ok (.aload_n 0, 1) := by decide +kernel
theorem dX7_findTurn_41 : decode cX7_findTurn 41 = .ok (.getfield 46, 3) := by decide +kernel
theorem dX7_findTurn_44 : decode cX7_findTurn 44 = .ok (.iload_n 2, 1) := by decide +kernel
theorem dX7_findTurn_45 : decode cX7_findTurn 45 = .ok (.iaload, 1) := by decide +kernel
theorem dX7_findTurn_46 : decode cX7_findTurn 46 = .ok (.aload_n 0, 1) := by decide +kernel
theorem dX7_findTurn_47 : decode cX7_findTurn 47 = .ok (.getfield 43, 3) := by decide +kernel
theorem dX7_findTurn_50 : decode cX7_findTurn 50 = .ok (.aload_n 0, 1) := by decide +kernel
theorem dX7_findTurn_51 : decode cX7_findTurn 51 = .ok (.getfield 52, 3) := by decide +kernel
theorem dX7_findTurn_54 : decode cX7_findTurn 54 = .ok (.iload_n 3, 1) := by decide +kernel
theorem dX7_findTurn_55 : decode cX7_findTurn 55 = .ok (.iconst 1, 1) := by decide +kernel
theorem dX7_findTurn_56 : decode cX7_findTurn 56 = .ok (.isub, 1) := by decide +kernel
theorem dX7_findTurn_57 : decode cX7_findTurn 57 = .ok (.iaload, 1) := by decide +kernel
theorem dX7_findTurn_58 : decode cX7_findTurn 58 = .ok (.laload, 1) := by decide +kernel
theorem dX7_findTurn_59 : decode cX7_findTurn 59 = .ok (.aload_n 0, 1) := by decide +kernel
theorem dX7_findTurn_60 : decode cX7_findTurn 60 = .ok (.getfield 46, 3) := by decide +kernel
theorem dX7_findTurn_63 : decode cX7_findTurn 63 = .ok (.aload_n 0, 1) := by decide +kernel
theorem dX7_findTurn_64 : decode cX7_findTurn 64 = .ok (.getfield 52, 3) := by decide +kernel
theorem dX7_findTurn_67 : decode cX7_findTurn 67 = .ok (.iload_n 3, 1) := by decide +kernel
theorem dX7_findTurn_68 : decode cX7_findTurn 68 = .ok (.iconst 1, 1) := by decide +kernel
theorem dX7_findTurn_69 : decode cX7_findTurn 69 = .ok (.isub, 1) := by decide +kernel
theorem dX7_findTurn_70 : decode cX7_findTurn 70 = .ok (.iaload, 1) := by decide +kernel
theorem dX7_findTurn_71 : decode cX7_findTurn 71 = .ok (.iaload, 1) := by decide +kernel
theorem dX7_findTurn_72 : decode cX7_findTurn 72 = .ok (.invokestatic 240, 3) := by decide +kernel
theorem dX7_findTurn_75 : decode cX7_findTurn 75 = .ok (.ifCond .eq 23, 3) := by decide +kernel
theorem dX7_findTurn_78 : decode cX7_findTurn 78 = .ok (.aload_n 0, 1) := by decide +kernel
theorem dX7_findTurn_79 : decode cX7_findTurn 79 = .ok (.getfield 52, 3) := by decide +kernel
theorem dX7_findTurn_82 : decode cX7_findTurn 82 = .ok (.iload_n 3, 1) := by decide +kernel
theorem dX7_findTurn_83 : decode cX7_findTurn 83 = .ok (.aload_n 0, 1) := by decide +kernel
theorem dX7_findTurn_84 : decode cX7_findTurn 84 = .ok (.getfield 52, 3) := by decide +kernel
theorem dX7_findTurn_87 : decode cX7_findTurn 87 = .ok (.iload_n 3, 1) := by decide +kernel
theorem dX7_findTurn_88 : decode cX7_findTurn 88 = .ok (.iconst 1, 1) := by decide +kernel
theorem dX7_findTurn_89 : decode cX7_findTurn 89 = .ok (.isub, 1) := by decide +kernel
theorem dX7_findTurn_90 : decode cX7_findTurn 90 = .ok (.iaload, 1) := by decide +kernel
theorem dX7_findTurn_91 : decode cX7_findTurn 91 = .ok (.iastore, 1) := by decide +kernel
theorem dX7_findTurn_92 : decode cX7_findTurn 92 = .ok (.iinc 3 (-1), 3) := by decide +kernel
theorem dX7_findTurn_95 : decode cX7_findTurn 95 = .ok (.goto (-65), 3) := by decide +kernel
theorem dX7_findTurn_98 : decode cX7_findTurn 98 = .ok (.aload_n 0, 1) := by decide +kernel
theorem dX7_findTurn_99 : decode cX7_findTurn 99 = .ok (.getfield 52, 3) := by decide +kernel
theorem dX7_findTurn_102 : decode cX7_findTurn 102 = .ok (.iload_n 3, 1) := by decide +kernel
theorem dX7_findTurn_103 : decode cX7_findTurn 103 = .ok (.iload_n 2, 1) := by decide +kernel
theorem dX7_findTurn_104 : decode cX7_findTurn 104 = .ok (.iastore, 1) := by decide +kernel
theorem dX7_findTurn_105 : decode cX7_findTurn 105 = .ok (.aload_n 0, 1) := by decide +kernel
theorem dX7_findTurn_106 : decode cX7_findTurn 106 = .ok (.dup, 1) := by decide +kernel
theorem dX7_findTurn_107 : decode cX7_findTurn 107 = .ok (.getfield 237, 3) := by decide +kernel
theorem dX7_findTurn_110 : decode cX7_findTurn 110 = .ok (.iconst 1, 1) := by decide +kernel
theorem dX7_findTurn_111 : decode cX7_findTurn 111 = .ok (.iadd, 1) := by decide +kernel
theorem dX7_findTurn_112 : decode cX7_findTurn 112 = .ok (.putfield 237, 3) := by decide +kernel
theorem dX7_findTurn_115 : decode cX7_findTurn 115 = .ok (.iinc 2 1, 3) := by decide +kernel
theorem dX7_findTurn_118 : decode cX7_findTurn 118 = .ok (.goto (-111), 3) := by decide +kernel
theorem dX7_findTurn_121 : decode cX7_findTurn 121 = .ok (.return_, 1) := by decide +kernel
theorem dX7_layFree_0 : decode cX7_layFree 0 = .ok (.aload_n 0, 1) := by decide +kernel
theorem dX7_layFree_1 : decode cX7_layFree 1 = .ok (.iconst 0, 1) := by decide +kernel
theorem dX7_layFree_2 : decode cX7_layFree 2 = .ok (.putfield 234, 3) := by decide +kernel
theorem dX7_layFree_5 : decode cX7_layFree 5 = .ok (.aload_n 0, 1) := by decide +kernel
theorem dX7_layFree_6 : decode cX7_layFree 6 = .ok (.lconst 0, 1) := by decide +kernel
theorem dX7_layFree_7 : decode cX7_layFree 7 = .ok (.iconst 0, 1) := by decide +kernel
theorem dX7_layFree_8 : decode cX7_layFree 8 = .ok (.iconst 0, 1) := by decide +kernel
theorem dX7_layFree_9 : decode cX7_layFree 9 = .ok (.invokevirtual 244, 3) := by decide +kernel
theorem dX7_layFree_12 : decode cX7_layFree 12 = .ok (.iconst 1, 1) := by decide +kernel
theorem dX7_layFree_13 : decode cX7_layFree 13 = .ok (.istore_n 1, 1) := by decide +kernel
theorem dX7_layFree_14 : decode cX7_layFree 14 = .ok (.iconst 0, 1) := by decide +kernel
theorem dX7_layFree_15 : decode cX7_layFree 15 = .ok (.istore_n 2, 1) := by decide +kernel
theorem dX7_layFree_16 : decode cX7_layFree 16 = .ok (.iconst 0, 1) := by decide +kernel
theorem dX7_layFree_17 : decode cX7_layFree 17 = .ok (.istore_n 3, 1) := by decide +kernel
theorem dX7_layFree_18 : decode cX7_layFree 18 = .ok (.iconst 0, 1) := by decide +kernel
theorem dX7_layFree_19 : decode cX7_layFree 19 = .ok (.istore 4, 2) := by decide +kernel
theorem dX7_layFree_21 : decode cX7_layFree 21 = .ok (.iconst 0, 1) := by decide +kernel
theorem dX7_layFree_22 : decode cX7_layFree 22 = .ok (.istore 5, 2) := by decide +kernel
theorem dX7_layFree_24 : decode cX7_layFree 24 = .ok (.iload 4, 2) := by decide +kernel
theorem dX7_layFree_26 : decode cX7_layFree 26 = .ok (.aload_n 0, 1) := by decide +kernel
theorem dX7_layFree_27 : decode cX7_layFree 27 = .ok (.getfield 154, 3) := by decide +kernel
theorem dX7_layFree_30 : decode cX7_layFree 30 = .ok (.if_icmp .ge 223, 3) := by decide +kernel
theorem dX7_layFree_33 : decode cX7_layFree 33 = .ok (.aload_n 0, 1) := by decide +kernel
theorem dX7_layFree_34 : decode cX7_layFree 34 = .ok (.iload 5, 2) := by decide +kernel
theorem dX7_layFree_36 : decode cX7_layFree 36 = .ok (.invokevirtual 248, 3) := by decide +kernel
theorem dX7_layFree_39 : decode cX7_layFree 39 = .ok (.aload_n 0, 1) := by decide +kernel
theorem dX7_layFree_40 : decode cX7_layFree 40 = .ok (.iload 5, 2) := by decide +kernel
theorem dX7_layFree_42 : decode cX7_layFree 42 = .ok (.iload_n 1, 1) := by decide +kernel
theorem dX7_layFree_43 : decode cX7_layFree 43 = .ok (.iload_n 2, 1) := by decide +kernel
theorem dX7_layFree_44 : decode cX7_layFree 44 = .ok (.iload_n 3, 1) := by decide +kernel
theorem dX7_layFree_45 : decode cX7_layFree 45 = .ok (.iload 4, 2) := by decide +kernel
theorem dX7_layFree_47 : decode cX7_layFree 47 = .ok (.invokevirtual 252, 3) := by decide +kernel
theorem dX7_layFree_50 : decode cX7_layFree 50 = .ok (.aload_n 0, 1) := by decide +kernel
theorem dX7_layFree_51 : decode cX7_layFree 51 = .ok (.getfield 228, 3) := by decide +kernel
theorem dX7_layFree_54 : decode cX7_layFree 54 = .ok (.istore 6, 2) := by decide +kernel
theorem dX7_layFree_56 : decode cX7_layFree 56 = .ok (.aload_n 0, 1) := by decide +kernel
theorem dX7_layFree_57 : decode cX7_layFree 57 = .ok (.getfield 231, 3) := by decide +kernel
theorem dX7_layFree_60 : decode cX7_layFree 60 = .ok (.istore 7, 2) := by decide +kernel
theorem dX7_layFree_62 : decode cX7_layFree 62 = .ok (.iconst 0, 1) := by decide +kernel
theorem dX7_layFree_63 : decode cX7_layFree 63 = .ok (.istore 8, 2) := by decide +kernel
theorem dX7_layFree_65 : decode cX7_layFree 65 = .ok (.iload 8, 2) := by decide +kernel
theorem dX7_layFree_67 : decode cX7_layFree 67 = .ok (.iload 6, 2) := by decide +kernel
theorem dX7_layFree_69 : decode cX7_layFree 69 = .ok (.if_icmp .ge 63, 3) := by decide +kernel
theorem dX7_layFree_72 : decode cX7_layFree 72 = .ok (.aload_n 0, 1) := by decide +kernel
theorem dX7_layFree_73 : decode cX7_layFree 73 = .ok (.getfield 16, 3) := by decide +kernel
theorem dX7_layFree_76 : decode cX7_layFree 76 = .ok (.aload_n 0, 1) := by decide +kernel
theorem dX7_layFree_77 : decode cX7_layFree 77 = .ok (.getfield 26, 3) := by decide +kernel
theorem dX7_layFree_80 : decode cX7_layFree 80 = .ok (.iload 4, 2) := by decide +kernel
theorem dX7_layFree_82 : decode cX7_layFree 82 = .ok (.iload 8, 2) := by decide +kernel
theorem dX7_layFree_84 : decode cX7_layFree 84 = .ok (.iadd, 1) := by decide +kernel
theorem dX7_layFree_85 : decode cX7_layFree 85 = .ok (.iaload, 1) := by decide +kernel
theorem dX7_layFree_86 : decode cX7_layFree 86 = .ok (.aload_n 0, 1) := by decide +kernel
theorem dX7_layFree_87 : decode cX7_layFree 87 = .ok (.getfield 43, 3) := by decide +kernel
theorem dX7_layFree_90 : decode cX7_layFree 90 = .ok (.aload_n 0, 1) := by decide +kernel
theorem dX7_layFree_91 : decode cX7_layFree 91 = .ok (.getfield 52, 3) := by decide +kernel
theorem dX7_layFree_94 : decode cX7_layFree 94 = .ok (.iload 8, 2) := by decide +kernel
theorem dX7_layFree_96 : decode cX7_layFree 96 = .ok (.iaload, 1) := by decide +kernel
theorem dX7_layFree_97 : decode cX7_layFree 97 = .ok (.laload, 1) := by decide +kernel
theorem dX7_layFree_98 : decode cX7_layFree 98 = .ok (.lastore, 1) := by decide +kernel
theorem dX7_layFree_99 : decode cX7_layFree 99 = .ok (.aload_n 0, 1) := by decide +kernel
theorem dX7_layFree_100 : decode cX7_layFree 100 = .ok (.getfield 20, 3) := by decide +kernel
theorem dX7_layFree_103 : decode cX7_layFree 103 = .ok (.aload_n 0, 1) := by decide +kernel
theorem dX7_layFree_104 : decode cX7_layFree 104 = .ok (.getfield 26, 3) := by decide +kernel
theorem dX7_layFree_107 : decode cX7_layFree 107 = .ok (.iload 4, 2) := by decide +kernel
theorem dX7_layFree_109 : decode cX7_layFree 109 = .ok (.iload 8, 2) := by decide +kernel
theorem dX7_layFree_111 : decode cX7_layFree 111 = .ok (.iadd, 1) := by decide +kernel
theorem dX7_layFree_112 : decode cX7_layFree 112 = .ok (.iaload, 1) := by decide +kernel
theorem dX7_layFree_113 : decode cX7_layFree 113 = .ok (.aload_n 0, 1) := by decide +kernel
theorem dX7_layFree_114 : decode cX7_layFree 114 = .ok (.getfield 46, 3) := by decide +kernel
theorem dX7_layFree_117 : decode cX7_layFree 117 = .ok (.aload_n 0, 1) := by decide +kernel
theorem dX7_layFree_118 : decode cX7_layFree 118 = .ok (.getfield 52, 3) := by decide +kernel
theorem dX7_layFree_121 : decode cX7_layFree 121 = .ok (.iload 8, 2) := by decide +kernel
theorem dX7_layFree_123 : decode cX7_layFree 123 = .ok (.iaload, 1) := by decide +kernel
theorem dX7_layFree_124 : decode cX7_layFree 124 = .ok (.iaload, 1) := by decide +kernel
theorem dX7_layFree_125 : decode cX7_layFree 125 = .ok (.iastore, 1) := by decide +kernel
theorem dX7_layFree_126 : decode cX7_layFree 126 = .ok (.iinc 8 1, 3) := by decide +kernel
theorem dX7_layFree_129 : decode cX7_layFree 129 = .ok (.goto (-64), 3) := by decide +kernel
theorem dX7_layFree_132 : decode cX7_layFree 132 = .ok (.iload 6, 2) := by decide +kernel
theorem dX7_layFree_134 : decode cX7_layFree 134 = .ok (.istore 8, 2) := by decide +kernel
theorem dX7_layFree_136 : decode cX7_layFree 136 = .ok (.iload 8, 2) := by decide +kernel
theorem dX7_layFree_138 : decode cX7_layFree 138 = .ok (.iload 6, 2) := by decide +kernel
theorem dX7_layFree_140 : decode cX7_layFree 140 = .ok (.iload 7, 2) := by decide +kernel
theorem dX7_layFree_142 : decode cX7_layFree 142 = .ok (.iadd, 1) := by decide +kernel
theorem dX7_layFree_143 : decode cX7_layFree 143 = .ok (.if_icmp .ge 22, 3) := by decide +kernel
theorem dX7_layFree_146 : decode cX7_layFree 146 = .ok (.aload_n 0, 1) := by decide +kernel
theorem dX7_layFree_147 : decode cX7_layFree 147 = .ok (.aload_n 0, 1) := by decide +kernel
theorem dX7_layFree_148 : decode cX7_layFree 148 = .ok (.getfield 52, 3) := by decide +kernel
theorem dX7_layFree_151 : decode cX7_layFree 151 = .ok (.iload 8, 2) := by decide +kernel
theorem dX7_layFree_153 : decode cX7_layFree 153 = .ok (.iaload, 1) := by decide +kernel
theorem dX7_layFree_154 : decode cX7_layFree 154 = .ok (.iload 5, 2) := by decide +kernel
theorem dX7_layFree_156 : decode cX7_layFree 156 = .ok (.invokevirtual 255, 3) := by decide +kernel
theorem dX7_layFree_159 : decode cX7_layFree 159 = .ok (.iinc 8 1, 3) := by decide +kernel
theorem dX7_layFree_162 : decode cX7_layFree 162 = .ok (.goto (-26), 3) := by decide +kernel
theorem dX7_layFree_165 : decode cX7_layFree 165 = .ok (.aload_n 0, 1) := by decide +kernel
theorem dX7_layFree_166 : decode cX7_layFree 166 = .ok (.iload 5, 2) := by decide +kernel
theorem dX7_layFree_168 : decode cX7_layFree 168 = .ok (.invokevirtual 259, 3) := by decide +kernel
theorem dX7_layFree_171 : decode cX7_layFree 171 = .ok (.aload_n 0, 1) := by decide +kernel
theorem dX7_layFree_172 : decode cX7_layFree 172 = .ok (.getfield 154, 3) := by decide +kernel
theorem dX7_layFree_175 : decode cX7_layFree 175 = .ok (.iload 4, 2) := by decide +kernel
theorem dX7_layFree_177 : decode cX7_layFree 177 = .ok (.isub, 1) := by decide +kernel
theorem dX7_layFree_178 : decode cX7_layFree 178 = .ok (.iload 6, 2) := by decide +kernel
theorem dX7_layFree_180 : decode cX7_layFree 180 = .ok (.isub, 1) := by decide +kernel
theorem dX7_layFree_181 : decode cX7_layFree 181 = .ok (.istore 8, 2) := by decide +kernel
theorem dX7_layFree_183 : decode cX7_layFree 183 = .ok (.iload_n 2, 1) := by decide +kernel
theorem dX7_layFree_184 : decode cX7_layFree 184 = .ok (.iload 7, 2) := by decide +kernel
theorem dX7_layFree_186 : decode cX7_layFree 186 = .ok (.aload_n 0, 1) := by decide +kernel
theorem dX7_layFree_187 : decode cX7_layFree 187 = .ok (.getfield 40, 3) := by decide +kernel
theorem dX7_layFree_190 : decode cX7_layFree 190 = .ok (.iconst 1, 1) := by decide +kernel
theorem dX7_layFree_191 : decode cX7_layFree 191 = .ok (.iaload, 1) := by decide +kernel
theorem dX7_layFree_192 : decode cX7_layFree 192 = .ok (.imul, 1) := by decide +kernel
theorem dX7_layFree_193 : decode cX7_layFree 193 = .ok (.iadd, 1) := by decide +kernel
theorem dX7_layFree_194 : decode cX7_layFree 194 = .ok (.iload 8, 2) := by decide +kernel
theorem dX7_layFree_196 : decode cX7_layFree 196 = .ok (.invokestatic 186, 3) := by decide +kernel
theorem dX7_layFree_199 : decode cX7_layFree 199 = .ok (.istore 9, 2) := by decide +kernel
theorem dX7_layFree_201 : decode cX7_layFree 201 = .ok (.iload_n 3, 1) := by decide +kernel
theorem dX7_layFree_202 : decode cX7_layFree 202 = .ok (.iload 7, 2) := by decide +kernel
theorem dX7_layFree_204 : decode cX7_layFree 204 = .ok (.aload_n 0, 1) := by decide +kernel
theorem dX7_layFree_205 : decode cX7_layFree 205 = .ok (.getfield 40, 3) := by decide +kernel
theorem dX7_layFree_208 : decode cX7_layFree 208 = .ok (.iconst 2, 1) := by decide +kernel
theorem dX7_layFree_209 : decode cX7_layFree 209 = .ok (.iaload, 1) := by decide +kernel
theorem dX7_layFree_210 : decode cX7_layFree 210 = .ok (.imul, 1) := by decide +kernel
theorem dX7_layFree_211 : decode cX7_layFree 211 = .ok (.iadd, 1) := by decide +kernel
theorem dX7_layFree_212 : decode cX7_layFree 212 = .ok (.iload 8, 2) := by decide +kernel
theorem dX7_layFree_214 : decode cX7_layFree 214 = .ok (.invokestatic 186, 3) := by decide +kernel
theorem dX7_layFree_217 : decode cX7_layFree 217 = .ok (.istore 10, 2) := by decide +kernel
theorem dX7_layFree_219 : decode cX7_layFree 219 = .ok (.iload 7, 2) := by decide +kernel
theorem dX7_layFree_221 : decode cX7_layFree 221 = .ok (.aload_n 0, 1) := by decide +kernel
theorem dX7_layFree_222 : decode cX7_layFree 222 = .ok (.getfield 40, 3) := by decide +kernel
theorem dX7_layFree_225 : decode cX7_layFree 225 = .ok (.iconst 3, 1) := by decide +kernel
theorem dX7_layFree_226 : decode cX7_layFree 226 = .ok (.iaload, 1) := by decide +kernel
theorem dX7_layFree_227 : decode cX7_layFree 227 = .ok (.imul, 1) := by decide +kernel
theorem dX7_layFree_228 : decode cX7_layFree 228 = .ok (.iload 8, 2) := by decide +kernel
theorem dX7_layFree_230 : decode cX7_layFree 230 = .ok (.invokestatic 186, 3) := by decide +kernel
theorem dX7_layFree_233 : decode cX7_layFree 233 = .ok (.istore_n 3, 1) := by decide +kernel
theorem dX7_layFree_234 : decode cX7_layFree 234 = .ok (.iload 9, 2) := by decide +kernel
theorem dX7_layFree_236 : decode cX7_layFree 236 = .ok (.istore_n 1, 1) := by decide +kernel
theorem dX7_layFree_237 : decode cX7_layFree 237 = .ok (.iload 10, 2) := by decide +kernel
theorem dX7_layFree_239 : decode cX7_layFree 239 = .ok (.istore_n 2, 1) := by decide +kernel
theorem dX7_layFree_240 : decode cX7_layFree 240 = .ok (.iload 4, 2) := by decide +kernel
theorem dX7_layFree_242 : decode cX7_layFree 242 = .ok (.iload 6, 2) := by decide +kernel
theorem dX7_layFree_244 : decode cX7_layFree 244 = .ok (.iadd, 1) := by decide +kernel
theorem dX7_layFree_245 : decode cX7_layFree 245 = .ok (.istore 4, 2) := by decide +kernel
theorem dX7_layFree_247 : decode cX7_layFree 247 = .ok (.iinc 5 1, 3) := by decide +kernel
theorem dX7_layFree_250 : decode cX7_layFree 250 = .ok (.goto (-226), 3) := by decide +kernel
theorem dX7_layFree_253 : decode cX7_layFree 253 = .ok (.return_, 1) := by decide +kernel
theorem dX7_goOn_0 : decode cX7_goOn 0 = .ok (.iconst 0, 1) := by decide +kernel
theorem dX7_goOn_1 : decode cX7_goOn 1 = .ok (.istore_n 3, 1) := by decide +kernel
theorem dX7_goOn_2 : decode cX7_goOn 2 = .ok (.iload_n 3, 1) := by decide +kernel
theorem dX7_goOn_3 : decode cX7_goOn 3 = .ok (.aload_n 0, 1) := by decide +kernel
theorem dX7_goOn_4 : decode cX7_goOn 4 = .ok (.getfield 137, 3) := by decide +kernel
theorem dX7_goOn_7 : decode cX7_goOn 7 = .ok (.if_icmp .ge 56, 3) := by decide +kernel
theorem dX7_goOn_10 : decode cX7_goOn 10 = .ok (.aload_n 0, 1) := by decide +kernel
theorem dX7_goOn_11 : decode cX7_goOn 11 = .ok (.aload_n 0, 1) := by decide +kernel
theorem dX7_goOn_12 : decode cX7_goOn 12 = .ok (.getfield 43, 3) := by decide +kernel
theorem dX7_goOn_15 : decode cX7_goOn 15 = .ok (.iload_n 1, 1) := by decide +kernel
theorem dX7_goOn_16 : decode cX7_goOn 16 = .ok (.laload, 1) := by decide +kernel
theorem dX7_goOn_17 : decode cX7_goOn 17 = .ok (.aload_n 0, 1) := by decide +kernel
theorem dX7_goOn_18 : decode cX7_goOn 18 = .ok (.getfield 46, 3) := by decide +kernel
theorem dX7_goOn_21 : decode cX7_goOn 21 = .ok (.iload_n 1, 1) := by decide +kernel
theorem dX7_goOn_22 : decode cX7_goOn 22 = .ok (.iaload, 1) := by decide +kernel
theorem dX7_goOn_23 : decode cX7_goOn 23 = .ok (.iload_n 3, 1) := by decide +kernel
theorem dX7_goOn_24 : decode cX7_goOn 24 = .ok (.invokestatic 262, 3) := by decide +kernel
theorem dX7_goOn_27 : decode cX7_goOn 27 = .ok (.aload_n 0, 1) := by decide +kernel
theorem dX7_goOn_28 : decode cX7_goOn 28 = .ok (.getfield 46, 3) := by decide +kernel
theorem dX7_goOn_31 : decode cX7_goOn 31 = .ok (.iload_n 1, 1) := by decide +kernel
theorem dX7_goOn_32 : decode cX7_goOn 32 = .ok (.iaload, 1) := by decide +kernel
theorem dX7_goOn_33 : decode cX7_goOn 33 = .ok (.iconst 1, 1) := by decide +kernel
theorem dX7_goOn_34 : decode cX7_goOn 34 = .ok (.iadd, 1) := by decide +kernel
theorem dX7_goOn_35 : decode cX7_goOn 35 = .ok (.iload_n 2, 1) := by decide +kernel
theorem dX7_goOn_36 : decode cX7_goOn 36 = .ok (.aload_n 0, 1) := by decide +kernel
theorem dX7_goOn_37 : decode cX7_goOn 37 = .ok (.getfield 176, 3) := by decide +kernel
theorem dX7_goOn_40 : decode cX7_goOn 40 = .ok (.ifCond .eq 7, 3) := by decide +kernel
theorem dX7_goOn_43 : decode cX7_goOn 43 = .ok (.iconst 1, 1) := by decide +kernel
theorem dX7_goOn_44 : decode cX7_goOn 44 = .ok (.goto 9, 3) := by decide +kernel
theorem dX7_goOn_47 : decode cX7_goOn 47 = .ok (.aload_n 0, 1) := by decide +kernel
theorem dX7_goOn_48 : decode cX7_goOn 48 = .ok (.getfield 7, 3) := by decide +kernel
theorem dX7_goOn_51 : decode cX7_goOn 51 = .ok (.iload_n 3, 1) := by decide +kernel
theorem dX7_goOn_52 : decode cX7_goOn 52 = .ok (.iaload, 1) := by decide +kernel
theorem dX7_goOn_53 : decode cX7_goOn 53 = .ok (.iadd, 1) := by decide +kernel
theorem dX7_goOn_54 : decode cX7_goOn 54 = .ok (.invokevirtual 244, 3) := by decide +kernel
theorem dX7_goOn_57 : decode cX7_goOn 57 = .ok (.iinc 3 1, 3) := by decide +kernel
theorem dX7_goOn_60 : decode cX7_goOn 60 = .ok (.goto (-58), 3) := by decide +kernel
theorem dX7_goOn_63 : decode cX7_goOn 63 = .ok (.return_, 1) := by decide +kernel
theorem dX7_forget_0 : decode cX7_forget 0 = .ok (.iconst 0, 1) := by decide +kernel
theorem dX7_forget_1 : decode cX7_forget 1 = .ok (.istore_n 2, 1) := by decide +kernel
theorem dX7_forget_2 : decode cX7_forget 2 = .ok (.iconst 0, 1) := by decide +kernel
theorem dX7_forget_3 : decode cX7_forget 3 = .ok (.istore_n 3, 1) := by decide +kernel
theorem dX7_forget_4 : decode cX7_forget 4 = .ok (.iload_n 3, 1) := by decide +kernel
theorem dX7_forget_5 : decode cX7_forget 5 = .ok (.aload_n 0, 1) := by decide +kernel
theorem dX7_forget_6 : decode cX7_forget 6 = .ok (.getfield 234, 3) := by decide +kernel
theorem dX7_forget_9 : decode cX7_forget 9 = .ok (.if_icmp .ge 58, 3) := by decide +kernel
theorem dX7_forget_12 : decode cX7_forget 12 = .ok (.aload_n 0, 1) := by decide +kernel
theorem dX7_forget_13 : decode cX7_forget 13 = .ok (.getfield 49, 3) := by decide +kernel
theorem dX7_forget_16 : decode cX7_forget 16 = .ok (.iload_n 3, 1) := by decide +kernel
theorem dX7_forget_17 : decode cX7_forget 17 = .ok (.iaload, 1) := by decide +kernel
theorem dX7_forget_18 : decode cX7_forget 18 = .ok (.iload_n 1, 1) := by decide +kernel
theorem dX7_forget_19 : decode cX7_forget 19 = .ok (.if_icmp .le 42, 3) := by decide +kernel
theorem dX7_forget_22 : decode cX7_forget 22 = .ok (.aload_n 0, 1) := by decide +kernel
theorem dX7_forget_23 : decode cX7_forget 23 = .ok (.getfield 43, 3) := by decide +kernel
theorem dX7_forget_26 : decode cX7_forget 26 = .ok (.iload_n 2, 1) := by decide +kernel
theorem dX7_forget_27 : decode cX7_forget 27 = .ok (.aload_n 0, 1) := by decide +kernel
theorem dX7_forget_28 : decode cX7_forget 28 = .ok (.getfield 43, 3) := by decide +kernel
theorem dX7_forget_31 : decode cX7_forget 31 = .ok (.iload_n 3, 1) := by decide +kernel
theorem dX7_forget_32 : decode cX7_forget 32 = .ok (.laload, 1) := by decide +kernel
theorem dX7_forget_33 : decode cX7_forget 33 = .ok (.lastore, 1) := by decide +kernel
theorem dX7_forget_34 : decode cX7_forget 34 = .ok (.aload_n 0, 1) := by decide +kernel
theorem dX7_forget_35 : decode cX7_forget 35 = .ok (.getfield 46, 3) := by decide +kernel
theorem dX7_forget_38 : decode cX7_forget 38 = .ok (.iload_n 2, 1) := by decide +kernel
theorem dX7_forget_39 : decode cX7_forget 39 = .ok (.aload_n 0, 1) := by decide +kernel
theorem dX7_forget_40 : decode cX7_forget 40 = .ok (.getfield 46, 3) := by decide +kernel
theorem dX7_forget_43 : decode cX7_forget 43 = .ok (.iload_n 3, 1) := by decide +kernel
theorem dX7_forget_44 : decode cX7_forget 44 = .ok (.iaload, 1) := by decide +kernel
theorem dX7_forget_45 : decode cX7_forget 45 = .ok (.iastore, 1) := by decide +kernel
theorem dX7_forget_46 : decode cX7_forget 46 = .ok (.aload_n 0, 1) := by decide +kernel
theorem dX7_forget_47 : decode cX7_forget 47 = .ok (.getfield 49, 3) := by decide +kernel
theorem dX7_forget_50 : decode cX7_forget 50 = .ok (.iload_n 2, 1) := by decide +kernel
theorem dX7_forget_51 : decode cX7_forget 51 = .ok (.aload_n 0, 1) := by decide +kernel
theorem dX7_forget_52 : decode cX7_forget 52 = .ok (.getfield 49, 3) := by decide +kernel
theorem dX7_forget_55 : decode cX7_forget 55 = .ok (.iload_n 3, 1) := by decide +kernel
theorem dX7_forget_56 : decode cX7_forget 56 = .ok (.iaload, 1) := by decide +kernel
theorem dX7_forget_57 : decode cX7_forget 57 = .ok (.iastore, 1) := by decide +kernel
theorem dX7_forget_58 : decode cX7_forget 58 = .ok (.iinc 2 1, 3) := by decide +kernel
theorem dX7_forget_61 : decode cX7_forget 61 = .ok (.iinc 3 1, 3) := by decide +kernel
theorem dX7_forget_64 : decode cX7_forget 64 = .ok (.goto (-60), 3) := by decide +kernel
theorem dX7_forget_67 : decode cX7_forget 67 = .ok (.aload_n 0, 1) := by decide +kernel
theorem dX7_forget_68 : decode cX7_forget 68 = .ok (.iload_n 2, 1) := by decide +kernel
theorem dX7_forget_69 : decode cX7_forget 69 = .ok (.putfield 234, 3) := by decide +kernel
theorem dX7_forget_72 : decode cX7_forget 72 = .ok (.return_, 1) := by decide +kernel
theorem dX7_countsOf_0 : decode cX7_countsOf 0 = .ok (.lconst 0, 1) := by decide +kernel
theorem dX7_countsOf_1 : decode cX7_countsOf 1 = .ok (.lstore_n 3, 1) := by decide +kernel
theorem dX7_countsOf_2 : decode cX7_countsOf 2 = .ok (.iload_n 1, 1) := by decide +kernel
theorem dX7_countsOf_3 : decode cX7_countsOf 3 = .ok (.istore 5, 2) := by decide +kernel
theorem dX7_countsOf_5 : decode cX7_countsOf 5 = .ok (.iload 5, 2) := by decide +kernel
theorem dX7_countsOf_7 : decode cX7_countsOf 7 = .ok (.iload_n 2, 1) := by decide +kernel
theorem dX7_countsOf_8 : decode cX7_countsOf 8 = .ok (.if_icmp .ge 20, 3) := by decide +kernel
theorem dX7_countsOf_11 : decode cX7_countsOf 11 = .ok (.lload_n 3, 1) := by decide +kernel
theorem dX7_countsOf_12 : decode cX7_countsOf 12 = .ok (.aload_n 0, 1) := by decide +kernel
theorem dX7_countsOf_13 : decode cX7_countsOf 13 = .ok (.getfield 13, 3) := by decide +kernel
theorem dX7_countsOf_16 : decode cX7_countsOf 16 = .ok (.iload 5, 2) := by decide +kernel
theorem dX7_countsOf_18 : decode cX7_countsOf 18 = .ok (.iaload, 1) := by decide +kernel
theorem dX7_countsOf_19 : decode cX7_countsOf 19 = .ok (.i2l, 1) := by decide +kernel
theorem dX7_countsOf_20 : decode cX7_countsOf 20 = .ok (.ladd, 1) := by decide +kernel
theorem dX7_countsOf_21 : decode cX7_countsOf 21 = .ok (.lstore_n 3, 1) := by decide +kernel
theorem dX7_countsOf_22 : decode cX7_countsOf 22 = .ok (.iinc 5 1, 3) := by decide +kernel
theorem dX7_countsOf_25 : decode cX7_countsOf 25 = .ok (.goto (-20), 3) := by decide +kernel
theorem dX7_countsOf_28 : decode cX7_countsOf 28 = .ok (.lload_n 3, 1) := by decide +kernel
theorem dX7_countsOf_29 : decode cX7_countsOf 29 = .ok (.lreturn, 1) := by decide +kernel
theorem dX7_costOfNode_0 : decode cX7_costOfNode 0 = .ok (.iload_n 2, 1) := by decide +kernel
theorem dX7_costOfNode_1 : decode cX7_costOfNode 1 = .ok (.iload_n 1, 1) := by decide +kernel
theorem dX7_costOfNode_2 : decode cX7_costOfNode 2 = .ok (.isub, 1) := by decide +kernel
theorem dX7_costOfNode_3 : decode cX7_costOfNode 3 = .ok (.iconst 2, 1) := by decide +kernel
theorem dX7_costOfNode_4 : decode cX7_costOfNode 4 = .ok (.if_icmp .ge 7, 3) := by decide +kernel
theorem dX7_costOfNode_7 : decode cX7_costOfNode 7 = .ok (.lconst 0, 1) := by decide +kernel
theorem dX7_costOfNode_8 : decode cX7_costOfNode 8 = .ok (.goto 16, 3) := by decide +kernel
theorem dX7_costOfNode_11 : decode cX7_costOfNode 11 = .ok (.aload_n 0, 1) := by decide +kernel
theorem dX7_costOfNode_12 : decode cX7_costOfNode 12 = .ok (.getfield 58, 3) := by decide +kernel
theorem dX7_costOfNode_15 : decode cX7_costOfNode 15 = .ok (.bipush 24, 2) := by decide +kernel
theorem dX7_costOfNode_17 : decode cX7_costOfNode 17 = .ok (.iload_n 1, 1) := by decide +kernel
theorem dX7_costOfNode_18 : decode cX7_costOfNode 18 = .ok (.imul, 1) := by decide +kernel
theorem dX7_costOfNode_19 : decode cX7_costOfNode 19 = .ok (.iload_n 2, 1) := by decide +kernel
theorem dX7_costOfNode_20 : decode cX7_costOfNode 20 = .ok (.iadd, 1) := by decide +kernel
theorem dX7_costOfNode_21 : decode cX7_costOfNode 21 = .ok (.iconst 1, 1) := by decide +kernel
theorem dX7_costOfNode_22 : decode cX7_costOfNode 22 = .ok (.isub, 1) := by decide +kernel
theorem dX7_costOfNode_23 : decode cX7_costOfNode 23 = .ok (.laload, 1) := by decide +kernel
theorem dX7_costOfNode_24 : decode cX7_costOfNode 24 = .ok (.lreturn, 1) := by decide +kernel
theorem dX7_findDeals_0 : decode cX7_findDeals 0 = .ok (.iload_n 1, 1) := by decide +kernel
theorem dX7_findDeals_1 : decode cX7_findDeals 1 = .ok (.istore_n 3, 1) := by decide +kernel
theorem dX7_findDeals_2 : decode cX7_findDeals 2 = .ok (.iload_n 3, 1) := by decide +kernel
theorem dX7_findDeals_3 : decode cX7_findDeals 3 = .ok (.iload_n 2, 1) := by decide +kernel
theorem dX7_findDeals_4 : decode cX7_findDeals 4 = .ok (.iconst 1, 1) := by decide +kernel
theorem dX7_findDeals_5 : decode cX7_findDeals 5 = .ok (.iadd, 1) := by decide +kernel
theorem dX7_findDeals_6 : decode cX7_findDeals 6 = .ok (.if_icmp .gt 37, 3) := by decide +kernel
theorem dX7_findDeals_9 : decode cX7_findDeals 9 = .ok (.aload_n 0, 1) := by decide +kernel
theorem dX7_findDeals_10 : decode cX7_findDeals 10 = .ok (.getfield 61, 3) := by decide +kernel
theorem dX7_findDeals_13 : decode cX7_findDeals 13 = .ok (.bipush 30, 2) := by decide +kernel
theorem dX7_findDeals_15 : decode cX7_findDeals 15 = .ok (.aload_n 0, 1) := by decide +kernel
theorem dX7_findDeals_16 : decode cX7_findDeals 16 = .ok (.getfield 137, 3) := by decide +kernel
theorem dX7_findDeals_19 : decode cX7_findDeals 19 = .ok (.imul, 1) := by decide +kernel
theorem dX7_findDeals_20 : decode cX7_findDeals 20 = .ok (.iload_n 3, 1) := by decide +kernel
theorem dX7_findDeals_21 : decode cX7_findDeals 21 = .ok (.iadd, 1) := by decide +kernel
theorem dX7_findDeals_22 : decode cX7_findDeals 22 = .ok (.iload_n 3, 1) := by decide +kernel
theorem dX7_findDeals_23 : decode cX7_findDeals 23 = .ok (.iload_n 2, 1) := by decide +kernel
theorem dX7_findDeals_24 : decode cX7_findDeals 24 = .ok (.iconst 1, 1) := by decide +kernel
theorem dX7_findDeals_25 : decode cX7_findDeals 25 = .ok (.iadd, 1) := by decide +kernel
theorem dX7_findDeals_26 : decode cX7_findDeals 26 = .ok (.if_icmp .ne 7, 3) := by decide +kernel
theorem dX7_findDeals_29 : decode cX7_findDeals 29 = .ok (.lconst 0, 1) := by decide +kernel
theorem dX7_findDeals_30 : decode cX7_findDeals 30 = .ok (.goto 6, 3) := by decide +kernel
theorem dX7_findDeals_33 : decode cX7_findDeals 33 = .ok (.ldc2_w 204, 3) := by decide +kernel
theorem dX7_findDeals_36 : decode cX7_findDeals 36 = .ok (.lastore, 1) := by decide +kernel
theorem dX7_findDeals_37 : decode cX7_findDeals 37 = .ok (.iinc 3 1, 3) := by decide +kernel
theorem dX7_findDeals_40 : decode cX7_findDeals 40 = .ok (.goto (-38), 3) := by decide +kernel
theorem dX7_findDeals_43 : decode cX7_findDeals 43 = .ok (.aload_n 0, 1) := by decide +kernel
theorem dX7_findDeals_44 : decode cX7_findDeals 44 = .ok (.getfield 137, 3) := by decide +kernel
theorem dX7_findDeals_47 : decode cX7_findDeals 47 = .ok (.iconst 1, 1) := by decide +kernel
theorem dX7_findDeals_48 : decode cX7_findDeals 48 = .ok (.isub, 1) := by decide +kernel
theorem dX7_findDeals_49 : decode cX7_findDeals 49 = .ok (.istore_n 3, 1) := by decide +kernel
theorem dX7_findDeals_50 : decode cX7_findDeals 50 = .ok (.iload_n 3, 1) := by decide +kernel
theorem dX7_findDeals_51 : decode cX7_findDeals 51 = .ok (.ifCond .lt 93, 3) := by decide +kernel
theorem dX7_findDeals_54 : decode cX7_findDeals 54 = .ok (.iload_n 1, 1) := by decide +kernel
theorem dX7_findDeals_55 : decode cX7_findDeals 55 = .ok (.istore 4, 2) := by decide +kernel
theorem dX7_findDeals_57 : decode cX7_findDeals 57 = .ok (.iload 4, 2) := by decide +kernel
theorem dX7_findDeals_59 : decode cX7_findDeals 59 = .ok (.iload_n 2, 1) := by decide +kernel
theorem dX7_findDeals_60 : decode cX7_findDeals 60 = .ok (.iconst 1, 1) := by decide +kernel
theorem dX7_findDeals_61 : decode cX7_findDeals 61 = .ok (.iadd, 1) := by decide +kernel
theorem dX7_findDeals_62 : decode cX7_findDeals 62 = .ok (.if_icmp .gt 76, 3) := by decide +kernel
theorem dX7_findDeals_65 : decode cX7_findDeals 65 = .ok (.ldc2_w 204, 3) := by decide +kernel
theorem dX7_findDeals_68 : decode cX7_findDeals 68 = .ok (.lstore 5, 2) := by decide +kernel
theorem dX7_findDeals_70 : decode cX7_findDeals 70 = .ok (.iload 4, 2) := by decide +kernel
theorem dX7_findDeals_72 : decode cX7_findDeals 72 = .ok (.istore 7, 2) := by decide +kernel
theorem dX7_findDeals_74 : decode cX7_findDeals 74 = .ok (.iload 7, 2) := by decide +kernel
theorem dX7_findDeals_76 : decode cX7_findDeals 76 = .ok (.iload_n 2, 1) := by decide +kernel
theorem dX7_findDeals_77 : decode cX7_findDeals 77 = .ok (.iconst 1, 1) := by decide +kernel
theorem dX7_findDeals_78 : decode cX7_findDeals 78 = .ok (.iadd, 1) := by decide +kernel
theorem dX7_findDeals_79 : decode cX7_findDeals 79 = .ok (.if_icmp .gt 39, 3) := by decide +kernel
theorem dX7_findDeals_82 : decode cX7_findDeals 82 = .ok (.aload_n 0, 1) := by decide +kernel
theorem dX7_findDeals_83 : decode cX7_findDeals 83 = .ok (.iload_n 1, 1) := by decide +kernel
theorem dX7_findDeals_84 : decode cX7_findDeals 84 = .ok (.iload_n 2, 1) := by decide +kernel
theorem dX7_findDeals_85 : decode cX7_findDeals 85 = .ok (.iload_n 3, 1) := by decide +kernel
theorem dX7_findDeals_86 : decode cX7_findDeals 86 = .ok (.iload 4, 2) := by decide +kernel
theorem dX7_findDeals_88 : decode cX7_findDeals 88 = .ok (.iload 7, 2) := by decide +kernel
theorem dX7_findDeals_90 : decode cX7_findDeals 90 = .ok (.invokevirtual 266, 3) := by decide +kernel
theorem dX7_findDeals_93 : decode cX7_findDeals 93 = .ok (.lstore 8, 2) := by decide +kernel
theorem dX7_findDeals_95 : decode cX7_findDeals 95 = .ok (.lload 8, 2) := by decide +kernel
theorem dX7_findDeals_97 : decode cX7_findDeals 97 = .ok (.lload 5, 2) := by decide +kernel
theorem dX7_findDeals_99 : decode cX7_findDeals 99 = .ok (.lcmp, 1) := by decide +kernel
theorem dX7_findDeals_100 : decode cX7_findDeals 100 = .ok (.ifCond .ge 8, 3) := by decide +kernel
theorem dX7_findDeals_103 : decode cX7_findDeals 103 = .ok (.lload 8, 2) := by decide +kernel
theorem dX7_findDeals_105 : decode cX7_findDeals 105 = .ok (.goto 5, 3) := by decide +kernel
theorem dX7_findDeals_108 : decode cX7_findDeals 108 = .ok (.lload 5, 2) := by decide +kernel
theorem dX7_findDeals_110 : decode cX7_findDeals 110 = .ok (.lstore 5, 2) := by decide +kernel
theorem dX7_findDeals_112 : decode cX7_findDeals 112 = .ok (.iinc 7 1, 3) := by decide +kernel
theorem dX7_findDeals_115 : decode cX7_findDeals 115 = .ok (.goto (-41), 3) := by decide +kernel
theorem dX7_findDeals_118 : decode cX7_findDeals 118 = .ok (.aload_n 0, 1) := by decide +kernel
theorem dX7_findDeals_119 : decode cX7_findDeals 119 = .ok (.getfield 61, 3) := by decide +kernel
theorem dX7_findDeals_122 : decode cX7_findDeals 122 = .ok (.bipush 30, 2) := by decide +kernel
theorem dX7_findDeals_124 : decode cX7_findDeals 124 = .ok (.iload_n 3, 1) := by decide +kernel
theorem dX7_findDeals_125 : decode cX7_findDeals 125 = .ok (.imul, 1) := by decide +kernel
theorem dX7_findDeals_126 : decode cX7_findDeals 126 = .ok (.iload 4, 2) := by decide +kernel
theorem dX7_findDeals_128 : decode cX7_findDeals 128 = .ok (.iadd, 1) := by decide +kernel
theorem dX7_findDeals_129 : decode cX7_findDeals 129 = .ok (.lload 5, 2) := by decide +kernel
theorem dX7_findDeals_131 : decode cX7_findDeals 131 = .ok (.lastore, 1) := by decide +kernel
theorem dX7_findDeals_132 : decode cX7_findDeals 132 = .ok (.iinc 4 1, 3) := by decide +kernel
theorem dX7_findDeals_135 : decode cX7_findDeals 135 = .ok (.goto (-78), 3) := by decide +kernel
theorem dX7_findDeals_138 : decode cX7_findDeals 138 = .ok (.iinc 3 (-1), 3) := by decide +kernel
theorem dX7_findDeals_141 : decode cX7_findDeals 141 = .ok (.goto (-91), 3) := by decide +kernel
theorem dX7_findDeals_144 : decode cX7_findDeals 144 = .ok (.return_, 1) := by decide +kernel
theorem dX7_dealt_0 : decode cX7_dealt 0 = .ok (.aload_n 0, 1) := by decide +kernel
theorem dX7_dealt_1 : decode cX7_dealt 1 = .ok (.getfield 61, 3) := by decide +kernel
theorem dX7_dealt_4 : decode cX7_dealt 4 = .ok (.bipush 30, 2) := by decide +kernel
theorem dX7_dealt_6 : decode cX7_dealt 6 = .ok (.iload_n 3, 1) := by decide +kernel
theorem dX7_dealt_7 : decode cX7_dealt 7 = .ok (.iconst 1, 1) := by decide +kernel
theorem dX7_dealt_8 : decode cX7_dealt 8 = .ok (.iadd, 1) := by decide +kernel
theorem dX7_dealt_9 : decode cX7_dealt 9 = .ok (.imul, 1) := by decide +kernel
theorem dX7_dealt_10 : decode cX7_dealt 10 = .ok (.iload 5, 2) := by decide +kernel
theorem dX7_dealt_12 : decode cX7_dealt 12 = .ok (.iadd, 1) := by decide +kernel
theorem dX7_dealt_13 : decode cX7_dealt 13 = .ok (.laload, 1) := by decide +kernel
theorem dX7_dealt_14 : decode cX7_dealt 14 = .ok (.lstore 6, 2) := by decide +kernel
theorem dX7_dealt_16 : decode cX7_dealt 16 = .ok (.iload 5, 2) := by decide +kernel
theorem dX7_dealt_18 : decode cX7_dealt 18 = .ok (.iload 4, 2) := by decide +kernel
theorem dX7_dealt_20 : decode cX7_dealt 20 = .ok (.isub, 1) := by decide +kernel
theorem dX7_dealt_21 : decode cX7_dealt 21 = .ok (.iload_n 2, 1) := by decide +kernel
theorem dX7_dealt_22 : decode cX7_dealt 22 = .ok (.iload_n 1, 1) := by decide +kernel
theorem dX7_dealt_23 : decode cX7_dealt 23 = .ok (.isub, 1) := by decide +kernel
theorem dX7_dealt_24 : decode cX7_dealt 24 = .ok (.iconst 1, 1) := by decide +kernel
theorem dX7_dealt_25 : decode cX7_dealt 25 = .ok (.iadd, 1) := by decide +kernel
theorem dX7_dealt_26 : decode cX7_dealt 26 = .ok (.if_icmp .eq 12, 3) := by decide +kernel
theorem dX7_dealt_29 : decode cX7_dealt 29 = .ok (.lload 6, 2) := by decide +kernel
theorem dX7_dealt_31 : decode cX7_dealt 31 = .ok (.ldc2_w 204, 3) := by decide +kernel
theorem dX7_dealt_34 : decode cX7_dealt 34 = .ok (.lcmp, 1) := by decide +kernel
theorem dX7_dealt_35 : decode cX7_dealt 35 = .ok (.ifCond .lt 7, 3) := by decide +kernel
theorem dX7_dealt_38 : decode cX7_dealt 38 = .ok (.ldc2_w 204, 3) := by decide +kernel
theorem dX7_dealt_41 : decode cX7_dealt 41 = .ok (.lreturn, 1) := by decide +kernel
theorem dX7_dealt_42 : decode cX7_dealt 42 = .ok (.aload_n 0, 1) := by decide +kernel
theorem dX7_dealt_43 : decode cX7_dealt 43 = .ok (.getfield 7, 3) := by decide +kernel
theorem dX7_dealt_46 : decode cX7_dealt 46 = .ok (.iload_n 3, 1) := by decide +kernel
theorem dX7_dealt_47 : decode cX7_dealt 47 = .ok (.iaload, 1) := by decide +kernel
theorem dX7_dealt_48 : decode cX7_dealt 48 = .ok (.i2l, 1) := by decide +kernel
theorem dX7_dealt_49 : decode cX7_dealt 49 = .ok (.aload_n 0, 1) := by decide +kernel
theorem dX7_dealt_50 : decode cX7_dealt 50 = .ok (.iload 4, 2) := by decide +kernel
theorem dX7_dealt_52 : decode cX7_dealt 52 = .ok (.iload 5, 2) := by decide +kernel
theorem dX7_dealt_54 : decode cX7_dealt 54 = .ok (.invokevirtual 270, 3) := by decide +kernel
theorem dX7_dealt_57 : decode cX7_dealt 57 = .ok (.lmul, 1) := by decide +kernel
theorem dX7_dealt_58 : decode cX7_dealt 58 = .ok (.aload_n 0, 1) := by decide +kernel
theorem dX7_dealt_59 : decode cX7_dealt 59 = .ok (.iload 4, 2) := by decide +kernel
theorem dX7_dealt_61 : decode cX7_dealt 61 = .ok (.iload 5, 2) := by decide +kernel
theorem dX7_dealt_63 : decode cX7_dealt 63 = .ok (.invokevirtual 274, 3) := by decide +kernel
theorem dX7_dealt_66 : decode cX7_dealt 66 = .ok (.ladd, 1) := by decide +kernel
theorem dX7_dealt_67 : decode cX7_dealt 67 = .ok (.lload 6, 2) := by decide +kernel
theorem dX7_dealt_69 : decode cX7_dealt 69 = .ok (.ladd, 1) := by decide +kernel
theorem dX7_dealt_70 : decode cX7_dealt 70 = .ok (.lreturn, 1) := by decide +kernel
theorem dX7_findNodes_0 : decode cX7_findNodes 0 = .ok (.iconst 2, 1) := by decide +kernel
theorem dX7_findNodes_1 : decode cX7_findNodes 1 = .ok (.istore_n 1, 1) := by decide +kernel
theorem dX7_findNodes_2 : decode cX7_findNodes 2 = .ok (.iload_n 1, 1) := by decide +kernel
theorem dX7_findNodes_3 : decode cX7_findNodes 3 = .ok (.aload_n 0, 1) := by decide +kernel
theorem dX7_findNodes_4 : decode cX7_findNodes 4 = .ok (.getfield 154, 3) := by decide +kernel
theorem dX7_findNodes_7 : decode cX7_findNodes 7 = .ok (.if_icmp .gt 58, 3) := by decide +kernel
theorem dX7_findNodes_10 : decode cX7_findNodes 10 = .ok (.iconst 0, 1) := by decide +kernel
theorem dX7_findNodes_11 : decode cX7_findNodes 11 = .ok (.istore_n 2, 1) := by decide +kernel
theorem dX7_findNodes_12 : decode cX7_findNodes 12 = .ok (.iload_n 2, 1) := by decide +kernel
theorem dX7_findNodes_13 : decode cX7_findNodes 13 = .ok (.iload_n 1, 1) := by decide +kernel
theorem dX7_findNodes_14 : decode cX7_findNodes 14 = .ok (.iadd, 1) := by decide +kernel
theorem dX7_findNodes_15 : decode cX7_findNodes 15 = .ok (.aload_n 0, 1) := by decide +kernel
theorem dX7_findNodes_16 : decode cX7_findNodes 16 = .ok (.getfield 154, 3) := by decide +kernel
theorem dX7_findNodes_19 : decode cX7_findNodes 19 = .ok (.if_icmp .gt 40, 3) := by decide +kernel
theorem dX7_findNodes_22 : decode cX7_findNodes 22 = .ok (.aload_n 0, 1) := by decide +kernel
theorem dX7_findNodes_23 : decode cX7_findNodes 23 = .ok (.iload_n 2, 1) := by decide +kernel
theorem dX7_findNodes_24 : decode cX7_findNodes 24 = .ok (.iload_n 2, 1) := by decide +kernel
theorem dX7_findNodes_25 : decode cX7_findNodes 25 = .ok (.iload_n 1, 1) := by decide +kernel
theorem dX7_findNodes_26 : decode cX7_findNodes 26 = .ok (.iadd, 1) := by decide +kernel
theorem dX7_findNodes_27 : decode cX7_findNodes 27 = .ok (.iconst 1, 1) := by decide +kernel
theorem dX7_findNodes_28 : decode cX7_findNodes 28 = .ok (.isub, 1) := by decide +kernel
theorem dX7_findNodes_29 : decode cX7_findNodes 29 = .ok (.invokevirtual 277, 3) := by decide +kernel
theorem dX7_findNodes_32 : decode cX7_findNodes 32 = .ok (.aload_n 0, 1) := by decide +kernel
theorem dX7_findNodes_33 : decode cX7_findNodes 33 = .ok (.getfield 58, 3) := by decide +kernel
theorem dX7_findNodes_36 : decode cX7_findNodes 36 = .ok (.bipush 24, 2) := by decide +kernel
theorem dX7_findNodes_38 : decode cX7_findNodes 38 = .ok (.iload_n 2, 1) := by decide +kernel
theorem dX7_findNodes_39 : decode cX7_findNodes 39 = .ok (.imul, 1) := by decide +kernel
theorem dX7_findNodes_40 : decode cX7_findNodes 40 = .ok (.iload_n 2, 1) := by decide +kernel
theorem dX7_findNodes_41 : decode cX7_findNodes 41 = .ok (.iadd, 1) := by decide +kernel
theorem dX7_findNodes_42 : decode cX7_findNodes 42 = .ok (.iload_n 1, 1) := by decide +kernel
theorem dX7_findNodes_43 : decode cX7_findNodes 43 = .ok (.iadd, 1) := by decide +kernel
theorem dX7_findNodes_44 : decode cX7_findNodes 44 = .ok (.iconst 1, 1) := by decide +kernel
theorem dX7_findNodes_45 : decode cX7_findNodes 45 = .ok (.isub, 1) := by decide +kernel
theorem dX7_findNodes_46 : decode cX7_findNodes 46 = .ok (.aload_n 0, 1) := by decide +kernel
theorem dX7_findNodes_47 : decode cX7_findNodes 47 = .ok (.getfield 61, 3) := by decide +kernel
theorem dX7_findNodes_50 : decode cX7_findNodes 50 = .ok (.iload_n 2, 1) := by decide +kernel
theorem dX7_findNodes_51 : decode cX7_findNodes 51 = .ok (.laload, 1) := by decide +kernel
theorem dX7_findNodes_52 : decode cX7_findNodes 52 = .ok (.lastore, 1) := by decide +kernel
theorem dX7_findNodes_53 : decode cX7_findNodes 53 = .ok (.iinc 2 1, 3) := by decide +kernel
theorem dX7_findNodes_56 : decode cX7_findNodes 56 = .ok (.goto (-44), 3) := by decide +kernel
theorem dX7_findNodes_59 : decode cX7_findNodes 59 = .ok (.iinc 1 1, 3) := by decide +kernel
theorem dX7_findNodes_62 : decode cX7_findNodes 62 = .ok (.goto (-60), 3) := by decide +kernel
theorem dX7_findNodes_65 : decode cX7_findNodes 65 = .ok (.return_, 1) := by decide +kernel
theorem dX7_wait_0 : decode cX7_wait 0 = .ok (.aload_n 0, 1) := by decide +kernel
theorem dX7_wait_1 : decode cX7_wait 1 = .ok (.getfield 64, 3) := by decide +kernel
theorem dX7_wait_4 : decode cX7_wait 4 = .ok (.aload_n 0, 1) := by decide +kernel
theorem dX7_wait_5 : decode cX7_wait 5 = .ok (.getfield 280, 3) := by decide +kernel
theorem dX7_wait_8 : decode cX7_wait 8 = .ok (.iload_n 1, 1) := by decide +kernel
theorem dX7_wait_9 : decode cX7_wait 9 = .ok (.iastore, 1) := by decide +kernel
theorem dX7_wait_10 : decode cX7_wait 10 = .ok (.aload_n 0, 1) := by decide +kernel
theorem dX7_wait_11 : decode cX7_wait 11 = .ok (.getfield 67, 3) := by decide +kernel
theorem dX7_wait_14 : decode cX7_wait 14 = .ok (.aload_n 0, 1) := by decide +kernel
theorem dX7_wait_15 : decode cX7_wait 15 = .ok (.getfield 280, 3) := by decide +kernel
theorem dX7_wait_18 : decode cX7_wait 18 = .ok (.iload_n 2, 1) := by decide +kernel
theorem dX7_wait_19 : decode cX7_wait 19 = .ok (.iastore, 1) := by decide +kernel
theorem dX7_wait_20 : decode cX7_wait 20 = .ok (.aload_n 0, 1) := by decide +kernel
theorem dX7_wait_21 : decode cX7_wait 21 = .ok (.getfield 70, 3) := by decide +kernel
theorem dX7_wait_24 : decode cX7_wait 24 = .ok (.aload_n 0, 1) := by decide +kernel
theorem dX7_wait_25 : decode cX7_wait 25 = .ok (.getfield 280, 3) := by decide +kernel
theorem dX7_wait_28 : decode cX7_wait 28 = .ok (.lload_n 3, 1) := by decide +kernel
theorem dX7_wait_29 : decode cX7_wait 29 = .ok (.lastore, 1) := by decide +kernel
theorem dX7_wait_30 : decode cX7_wait 30 = .ok (.aload_n 0, 1) := by decide +kernel
theorem dX7_wait_31 : decode cX7_wait 31 = .ok (.getfield 73, 3) := by decide +kernel
theorem dX7_wait_34 : decode cX7_wait 34 = .ok (.aload_n 0, 1) := by decide +kernel
theorem dX7_wait_35 : decode cX7_wait 35 = .ok (.getfield 280, 3) := by decide +kernel
theorem dX7_wait_38 : decode cX7_wait 38 = .ok (.iload 5, 2) := by decide +kernel
theorem dX7_wait_40 : decode cX7_wait 40 = .ok (.iastore, 1) := by decide +kernel
theorem dX7_wait_41 : decode cX7_wait 41 = .ok (.aload_n 0, 1) := by decide +kernel
theorem dX7_wait_42 : decode cX7_wait 42 = .ok (.dup, 1) := by decide +kernel
theorem dX7_wait_43 : decode cX7_wait 43 = .ok (.getfield 280, 3) := by decide +kernel
theorem dX7_wait_46 : decode cX7_wait 46 = .ok (.iconst 1, 1) := by decide +kernel
theorem dX7_wait_47 : decode cX7_wait 47 = .ok (.iadd, 1) := by decide +kernel
theorem dX7_wait_48 : decode cX7_wait 48 = .ok (.putfield 280, 3) := by decide +kernel
theorem dX7_wait_51 : decode cX7_wait 51 = .ok (.return_, 1) := by decide +kernel
theorem dX7_buildOrdered_0 : decode cX7_buildOrdered 0 = .ok (.aload_n 0, 1) := by decide +kernel
theorem dX7_buildOrdered_1 : decode cX7_buildOrdered 1 = .ok (.getfield 154, 3) := by decide +kernel
theorem dX7_buildOrdered_4 : decode cX7_buildOrdered 4 = .ok (.iconst 1, 1) := by decide +kernel
theorem dX7_buildOrdered_5 : decode cX7_buildOrdered 5 = .ok (.if_icmp .ne 62, 3) := by decide +kernel
theorem dX7_buildOrdered_8 : decode cX7_buildOrdered 8 = .ok (.iconst 0, 1) := by decide +kernel
theorem dX7_buildOrdered_9 : decode cX7_buildOrdered 9 = .ok (.istore_n 1, 1) := by decide +kernel
theorem dX7_buildOrdered_10 : decode cX7_buildOrdered 10 = .ok (.iconst 1, 1) := by decide +kernel
theorem dX7_buildOrdered_11 : decode cX7_buildOrdered 11 = .ok (.istore_n 2, 1) := by decide +kernel
theorem dX7_buildOrdered_12 : decode cX7_buildOrdered 12 = .ok (.iload_n 2, 1) := by decide +kernel
theorem dX7_buildOrdered_13 : decode cX7_buildOrdered 13 = .ok (.aload_n 0, 1) := by decide +kernel
theorem dX7_buildOrdered_14 : decode cX7_buildOrdered 14 = .ok (.getfield 137, 3) := by decide +kernel
theorem dX7_buildOrdered_17 : decode cX7_buildOrdered 17 = .ok (.if_icmp .ge 30, 3) := by decide +kernel
theorem dX7_buildOrdered_20 : decode cX7_buildOrdered 20 = .ok (.aload_n 0, 1) := by decide +kernel
theorem dX7_buildOrdered_21 : decode cX7_buildOrdered 21 = .ok (.getfield 7, 3) := by decide +kernel
theorem dX7_buildOrdered_24 : decode cX7_buildOrdered 24 = .ok (.iload_n 2, 1) := by decide +kernel
theorem dX7_buildOrdered_25 : decode cX7_buildOrdered 25 = .ok (.iaload, 1) := by decide +kernel
theorem dX7_buildOrdered_26 : decode cX7_buildOrdered 26 = .ok (.aload_n 0, 1) := by decide +kernel
theorem dX7_buildOrdered_27 : decode cX7_buildOrdered 27 = .ok (.getfield 7, 3) := by decide +kernel
theorem dX7_buildOrdered_30 : decode cX7_buildOrdered 30 = .ok (.iload_n 1, 1) := by decide +kernel
theorem dX7_buildOrdered_31 : decode cX7_buildOrdered 31 = .ok (.iaload, 1) := by decide +kernel
theorem dX7_buildOrdered_32 : decode cX7_buildOrdered 32 = .ok (.if_icmp .ge 7, 3) := by decide +kernel
theorem dX7_buildOrdered_35 : decode cX7_buildOrdered 35 = .ok (.iload_n 2, 1) := by decide +kernel
theorem dX7_buildOrdered_36 : decode cX7_buildOrdered 36 = .ok (.goto 4, 3) := by decide +kernel
theorem dX7_buildOrdered_39 : decode cX7_buildOrdered 39 = .ok (.iload_n 1, 1) := by decide +kernel
theorem dX7_buildOrdered_40 : decode cX7_buildOrdered 40 = .ok (.istore_n 1, 1) := by decide +kernel
theorem dX7_buildOrdered_41 : decode cX7_buildOrdered 41 = .ok (.iinc 2 1, 3) := by decide +kernel
theorem dX7_buildOrdered_44 : decode cX7_buildOrdered 44 = .ok (.goto (-32), 3) := by decide +kernel
theorem dX7_buildOrdered_47 : decode cX7_buildOrdered 47 = .ok (.aload_n 0, 1) := by decide +kernel
theorem dX7_buildOrdered_48 : decode cX7_buildOrdered 48 = .ok (.getfield 16, 3) := by decide +kernel
theorem dX7_buildOrdered_51 : decode cX7_buildOrdered 51 = .ok (.iconst 0, 1) := by decide +kernel
theorem dX7_buildOrdered_52 : decode cX7_buildOrdered 52 = .ok (.lconst 0, 1) := by decide +kernel
theorem dX7_buildOrdered_53 : decode cX7_buildOrdered 53 = .ok (.iconst 0, 1) := by decide +kernel
theorem dX7_buildOrdered_54 : decode cX7_buildOrdered 54 = .ok (.iload_n 1, 1) := by decide +kernel
theorem dX7_buildOrdered_55 : decode cX7_buildOrdered 55 = .ok (.invokestatic 262, 3) := by decide +kernel
theorem dX7_buildOrdered_58 : decode cX7_buildOrdered 58 = .ok (.lastore, 1) := by decide +kernel
theorem dX7_buildOrdered_59 : decode cX7_buildOrdered 59 = .ok (.aload_n 0, 1) := by decide +kernel
theorem dX7_buildOrdered_60 : decode cX7_buildOrdered 60 = .ok (.getfield 20, 3) := by decide +kernel
theorem dX7_buildOrdered_63 : decode cX7_buildOrdered 63 = .ok (.iconst 0, 1) := by decide +kernel
theorem dX7_buildOrdered_64 : decode cX7_buildOrdered 64 = .ok (.iconst 1, 1) := by decide +kernel
theorem dX7_buildOrdered_65 : decode cX7_buildOrdered 65 = .ok (.iastore, 1) := by decide +kernel
theorem dX7_buildOrdered_66 : decode cX7_buildOrdered 66 = .ok (.return_, 1) := by decide +kernel
theorem dX7_buildOrdered_67 : decode cX7_buildOrdered 67 = .ok (.aload_n 0, 1) := by decide +kernel
theorem dX7_buildOrdered_68 : decode cX7_buildOrdered 68 = .ok (.invokevirtual 283, 3) := by decide +kernel
theorem dX7_buildOrdered_71 : decode cX7_buildOrdered 71 = .ok (.aload_n 0, 1) := by decide +kernel
theorem dX7_buildOrdered_72 : decode cX7_buildOrdered 72 = .ok (.iconst 0, 1) := by decide +kernel
theorem dX7_buildOrdered_73 : decode cX7_buildOrdered 73 = .ok (.putfield 280, 3) := by decide +kernel
theorem dX7_buildOrdered_76 : decode cX7_buildOrdered 76 = .ok (.aload_n 0, 1) := by decide +kernel
theorem dX7_buildOrdered_77 : decode cX7_buildOrdered 77 = .ok (.iconst 0, 1) := by decide +kernel
theorem dX7_buildOrdered_78 : decode cX7_buildOrdered 78 = .ok (.aload_n 0, 1) := by decide +kernel
theorem dX7_buildOrdered_79 : decode cX7_buildOrdered 79 = .ok (.getfield 154, 3) := by decide +kernel
theorem dX7_buildOrdered_82 : decode cX7_buildOrdered 82 = .ok (.iconst 1, 1) := by decide +kernel
theorem dX7_buildOrdered_83 : decode cX7_buildOrdered 83 = .ok (.isub, 1) := by decide +kernel
theorem dX7_buildOrdered_84 : decode cX7_buildOrdered 84 = .ok (.lconst 0, 1) := by decide +kernel
theorem dX7_buildOrdered_85 : decode cX7_buildOrdered 85 = .ok (.iconst 0, 1) := by decide +kernel
theorem dX7_buildOrdered_86 : decode cX7_buildOrdered 86 = .ok (.invokevirtual 286, 3) := by decide +kernel
theorem dX7_buildOrdered_89 : decode cX7_buildOrdered 89 = .ok (.aload_n 0, 1) := by decide +kernel
theorem dX7_buildOrdered_90 : decode cX7_buildOrdered 90 = .ok (.getfield 280, 3) := by decide +kernel
theorem dX7_buildOrdered_93 : decode cX7_buildOrdered 93 = .ok (.ifCond .le 56, 3) := by decide +kernel
theorem dX7_buildOrdered_96 : decode cX7_buildOrdered 96 = .ok (.aload_n 0, 1) := by decide +kernel
theorem dX7_buildOrdered_97 : decode cX7_buildOrdered 97 = .ok (.dup, 1) := by decide +kernel
theorem dX7_buildOrdered_98 : decode cX7_buildOrdered 98 = .ok (.getfield 280, 3) := by decide +kernel
theorem dX7_buildOrdered_101 : decode cX7_buildOrdered 101 = .ok (.iconst 1, 1) := by decide +kernel
theorem dX7_buildOrdered_102 : decode cX7_buildOrdered 102 = .ok (.isub, 1) := by decide +kernel
theorem dX7_buildOrdered_103 : decode cX7_buildOrdered 103 = .ok (.putfield 280, 3) := by decide +kernel
theorem dX7_buildOrdered_106 : decode cX7_buildOrdered 106 = .ok (.aload_n 0, 1) := by decide +kernel
theorem dX7_buildOrdered_107 : decode cX7_buildOrdered 107 = .ok (.aload_n 0, 1) := by decide +kernel
theorem dX7_buildOrdered_108 : decode cX7_buildOrdered 108 = .ok (.getfield 64, 3) := by decide +kernel
theorem dX7_buildOrdered_111 : decode cX7_buildOrdered 111 = .ok (.aload_n 0, 1) := by decide +kernel
theorem dX7_buildOrdered_112 : decode cX7_buildOrdered 112 = .ok (.getfield 280, 3) := by decide +kernel
theorem dX7_buildOrdered_115 : decode cX7_buildOrdered 115 = .ok (.iaload, 1) := by decide +kernel
theorem dX7_buildOrdered_116 : decode cX7_buildOrdered 116 = .ok (.aload_n 0, 1) := by decide +kernel
theorem dX7_buildOrdered_117 : decode cX7_buildOrdered 117 = .ok (.getfield 67, 3) := by decide +kernel
theorem dX7_buildOrdered_120 : decode cX7_buildOrdered 120 = .ok (.aload_n 0, 1) := by decide +kernel
theorem dX7_buildOrdered_121 : decode cX7_buildOrdered 121 = .ok (.getfield 280, 3) := by decide +kernel
theorem dX7_buildOrdered_124 : decode cX7_buildOrdered 124 = .ok (.iaload, 1) := by decide +kernel
theorem dX7_buildOrdered_125 : decode cX7_buildOrdered 125 = .ok (.aload_n 0, 1) := by decide +kernel
theorem dX7_buildOrdered_126 : decode cX7_buildOrdered 126 = .ok (.getfield 70, 3) := by decide +kernel
theorem dX7_buildOrdered_129 : decode cX7_buildOrdered 129 = .ok (.aload_n 0, 1) := by decide +kernel
theorem dX7_buildOrdered_130 : decode cX7_buildOrdered 130 = .ok (.getfield 280, 3) := by decide +kernel
theorem dX7_buildOrdered_133 : decode cX7_buildOrdered 133 = .ok (.laload, 1) := by decide +kernel
theorem dX7_buildOrdered_134 : decode cX7_buildOrdered 134 = .ok (.aload_n 0, 1) := by decide +kernel
theorem dX7_buildOrdered_135 : decode cX7_buildOrdered 135 = .ok (.getfield 73, 3) := by decide +kernel
theorem dX7_buildOrdered_138 : decode cX7_buildOrdered 138 = .ok (.aload_n 0, 1) := by decide +kernel
theorem dX7_buildOrdered_139 : decode cX7_buildOrdered 139 = .ok (.getfield 280, 3) := by decide +kernel
theorem dX7_buildOrdered_142 : decode cX7_buildOrdered 142 = .ok (.iaload, 1) := by decide +kernel
theorem dX7_buildOrdered_143 : decode cX7_buildOrdered 143 = .ok (.invokevirtual 290, 3) := by decide +kernel
theorem dX7_buildOrdered_146 : decode cX7_buildOrdered 146 = .ok (.goto (-57), 3) := by decide +kernel
theorem dX7_buildOrdered_149 : decode cX7_buildOrdered 149 = .ok (.return_, 1) := by decide +kernel
theorem dX7_deal_0 : decode cX7_deal 0 = .ok (.aload_n 0, 1) := by decide +kernel
theorem dX7_deal_1 : decode cX7_deal 1 = .ok (.iload_n 1, 1) := by decide +kernel
theorem dX7_deal_2 : decode cX7_deal 2 = .ok (.iload_n 2, 1) := by decide +kernel
theorem dX7_deal_3 : decode cX7_deal 3 = .ok (.invokevirtual 277, 3) := by decide +kernel
theorem dX7_deal_6 : decode cX7_deal 6 = .ok (.iload_n 1, 1) := by decide +kernel
theorem dX7_deal_7 : decode cX7_deal 7 = .ok (.istore 6, 2) := by decide +kernel
theorem dX7_deal_9 : decode cX7_deal 9 = .ok (.iconst 0, 1) := by decide +kernel
theorem dX7_deal_10 : decode cX7_deal 10 = .ok (.istore 7, 2) := by decide +kernel
theorem dX7_deal_12 : decode cX7_deal 12 = .ok (.iload 7, 2) := by decide +kernel
theorem dX7_deal_14 : decode cX7_deal 14 = .ok (.aload_n 0, 1) := by decide +kernel
theorem dX7_deal_15 : decode cX7_deal 15 = .ok (.getfield 137, 3) := by decide +kernel
theorem dX7_deal_18 : decode cX7_deal 18 = .ok (.if_icmp .ge 117, 3) := by decide +kernel
theorem dX7_deal_21 : decode cX7_deal 21 = .ok (.iload 6, 2) := by decide +kernel
theorem dX7_deal_23 : decode cX7_deal 23 = .ok (.istore 8, 2) := by decide +kernel
theorem dX7_deal_25 : decode cX7_deal 25 = .ok (.aload_n 0, 1) := by decide +kernel
theorem dX7_deal_26 : decode cX7_deal 26 = .ok (.iload_n 1, 1) := by decide +kernel
theorem dX7_deal_27 : decode cX7_deal 27 = .ok (.iload_n 2, 1) := by decide +kernel
theorem dX7_deal_28 : decode cX7_deal 28 = .ok (.iload 7, 2) := by decide +kernel
theorem dX7_deal_30 : decode cX7_deal 30 = .ok (.iload 6, 2) := by decide +kernel
theorem dX7_deal_32 : decode cX7_deal 32 = .ok (.iload 8, 2) := by decide +kernel
theorem dX7_deal_34 : decode cX7_deal 34 = .ok (.invokevirtual 266, 3) := by decide +kernel
theorem dX7_deal_37 : decode cX7_deal 37 = .ok (.aload_n 0, 1) := by decide +kernel
theorem dX7_deal_38 : decode cX7_deal 38 = .ok (.getfield 61, 3) := by decide +kernel
theorem dX7_deal_41 : decode cX7_deal 41 = .ok (.bipush 30, 2) := by decide +kernel
theorem dX7_deal_43 : decode cX7_deal 43 = .ok (.iload 7, 2) := by decide +kernel
theorem dX7_deal_45 : decode cX7_deal 45 = .ok (.imul, 1) := by decide +kernel
theorem dX7_deal_46 : decode cX7_deal 46 = .ok (.iload 6, 2) := by decide +kernel
theorem dX7_deal_48 : decode cX7_deal 48 = .ok (.iadd, 1) := by decide +kernel
theorem dX7_deal_49 : decode cX7_deal 49 = .ok (.laload, 1) := by decide +kernel
theorem dX7_deal_50 : decode cX7_deal 50 = .ok (.lcmp, 1) := by decide +kernel
theorem dX7_deal_51 : decode cX7_deal 51 = .ok (.ifCond .eq 9, 3) := by decide +kernel
theorem dX7_deal_54 : decode cX7_deal 54 = .ok (.iinc 8 1, 3) := by decide +kernel
theorem dX7_deal_57 : decode cX7_deal 57 = .ok (.goto (-32), 3) := by decide +kernel
theorem dX7_deal_60 : decode cX7_deal 60 = .ok (.lload_n 3, 1) := by decide +kernel
theorem dX7_deal_61 : decode cX7_deal 61 = .ok (.iload 5, 2) := by decide +kernel
theorem dX7_deal_63 : decode cX7_deal 63 = .ok (.iload 7, 2) := by decide +kernel
theorem dX7_deal_65 : decode cX7_deal 65 = .ok (.invokestatic 262, 3) := by decide +kernel
theorem dX7_deal_68 : decode cX7_deal 68 = .ok (.lstore 9, 2) := by decide +kernel
theorem dX7_deal_70 : decode cX7_deal 70 = .ok (.iload 8, 2) := by decide +kernel
theorem dX7_deal_72 : decode cX7_deal 72 = .ok (.iload 6, 2) := by decide +kernel
theorem dX7_deal_74 : decode cX7_deal 74 = .ok (.isub, 1) := by decide +kernel
theorem dX7_deal_75 : decode cX7_deal 75 = .ok (.iconst 1, 1) := by decide +kernel
theorem dX7_deal_76 : decode cX7_deal 76 = .ok (.if_icmp .ne 26, 3) := by decide +kernel
theorem dX7_deal_79 : decode cX7_deal 79 = .ok (.aload_n 0, 1) := by decide +kernel
theorem dX7_deal_80 : decode cX7_deal 80 = .ok (.getfield 16, 3) := by decide +kernel
theorem dX7_deal_83 : decode cX7_deal 83 = .ok (.iload 6, 2) := by decide +kernel
theorem dX7_deal_85 : decode cX7_deal 85 = .ok (.lload 9, 2) := by decide +kernel
theorem dX7_deal_87 : decode cX7_deal 87 = .ok (.lastore, 1) := by decide +kernel
theorem dX7_deal_88 : decode cX7_deal 88 = .ok (.aload_n 0, 1) := by decide +kernel
theorem dX7_deal_89 : decode cX7_deal 89 = .ok (.getfield 20, 3) := by decide +kernel
theorem dX7_deal_92 : decode cX7_deal 92 = .ok (.iload 6, 2) := by decide +kernel
theorem dX7_deal_94 : decode cX7_deal 94 = .ok (.iload 5, 2) := by decide +kernel
theorem dX7_deal_96 : decode cX7_deal 96 = .ok (.iconst 1, 1) := by decide +kernel
theorem dX7_deal_97 : decode cX7_deal 97 = .ok (.iadd, 1) := by decide +kernel
theorem dX7_deal_98 : decode cX7_deal 98 = .ok (.iastore, 1) := by decide +kernel
theorem dX7_deal_99 : decode cX7_deal 99 = .ok (.goto 26, 3) := by decide +kernel
theorem dX7_deal_102 : decode cX7_deal 102 = .ok (.iload 8, 2) := by decide +kernel
theorem dX7_deal_104 : decode cX7_deal 104 = .ok (.iload 6, 2) := by decide +kernel
theorem dX7_deal_106 : decode cX7_deal 106 = .ok (.if_icmp .le 19, 3) := by decide +kernel
theorem dX7_deal_109 : decode cX7_deal 109 = .ok (.aload_n 0, 1) := by decide +kernel
theorem dX7_deal_110 : decode cX7_deal 110 = .ok (.iload 6, 2) := by decide +kernel
theorem dX7_deal_112 : decode cX7_deal 112 = .ok (.iload 8, 2) := by decide +kernel
theorem dX7_deal_114 : decode cX7_deal 114 = .ok (.iconst 1, 1) := by decide +kernel
theorem dX7_deal_115 : decode cX7_deal 115 = .ok (.isub, 1) := by decide +kernel
theorem dX7_deal_116 : decode cX7_deal 116 = .ok (.lload 9, 2) := by decide +kernel
theorem dX7_deal_118 : decode cX7_deal 118 = .ok (.iload 5, 2) := by decide +kernel
theorem dX7_deal_120 : decode cX7_deal 120 = .ok (.iconst 1, 1) := by decide +kernel
theorem dX7_deal_121 : decode cX7_deal 121 = .ok (.iadd, 1) := by decide +kernel
theorem dX7_deal_122 : decode cX7_deal 122 = .ok (.invokevirtual 286, 3) := by decide +kernel
theorem dX7_deal_125 : decode cX7_deal 125 = .ok (.iload 8, 2) := by decide +kernel
theorem dX7_deal_127 : decode cX7_deal 127 = .ok (.istore 6, 2) := by decide +kernel
theorem dX7_deal_129 : decode cX7_deal 129 = .ok (.iinc 7 1, 3) := by decide +kernel
theorem dX7_deal_132 : decode cX7_deal 132 = .ok (.goto (-120), 3) := by decide +kernel
theorem dX7_deal_135 : decode cX7_deal 135 = .ok (.return_, 1) := by decide +kernel
theorem dX7_node_0 : decode cX7_node 0 = .ok (.aload_n 0, 1) := by decide +kernel
theorem dX7_node_1 : decode cX7_node 1 = .ok (.iload_n 1, 1) := by decide +kernel
theorem dX7_node_2 : decode cX7_node 2 = .ok (.invokevirtual 157, 3) := by decide +kernel
theorem dX7_node_5 : decode cX7_node 5 = .ok (.ifCond .eq 16, 3) := by decide +kernel
theorem dX7_node_8 : decode cX7_node 8 = .ok (.aload_n 0, 1) := by decide +kernel
theorem dX7_node_9 : decode cX7_node 9 = .ok (.iload_n 2, 1) := by decide +kernel
theorem dX7_node_10 : decode cX7_node 10 = .ok (.invokevirtual 157, 3) := by decide +kernel
theorem dX7_node_13 : decode cX7_node 13 = .ok (.ifCond .eq 8, 3) := by decide +kernel
theorem dX7_node_16 : decode cX7_node 16 = .ok (.iload_n 1, 1) := by decide +kernel
theorem dX7_node_17 : decode cX7_node 17 = .ok (.iload_n 2, 1) := by decide +kernel
theorem dX7_node_18 : decode cX7_node 18 = .ok (.if_icmp .le 7, 3) := by decide +kernel
theorem dX7_node_21 : decode cX7_node 21 = .ok (.ldc2_w 293, 3) := by decide +kernel
theorem dX7_node_24 : decode cX7_node 24 = .ok (.lreturn, 1) := by decide +kernel
theorem dX7_node_25 : decode cX7_node 25 = .ok (.aload_n 0, 1) := by decide +kernel
theorem dX7_node_26 : decode cX7_node 26 = .ok (.getfield 137, 3) := by decide +kernel
theorem dX7_node_29 : decode cX7_node 29 = .ok (.iconst 2, 1) := by decide +kernel
theorem dX7_node_30 : decode cX7_node 30 = .ok (.if_icmp .ge 7, 3) := by decide +kernel
theorem dX7_node_33 : decode cX7_node 33 = .ok (.ldc2_w 295, 3) := by decide +kernel
theorem dX7_node_36 : decode cX7_node 36 = .ok (.lreturn, 1) := by decide +kernel
theorem dX7_node_37 : decode cX7_node 37 = .ok (.aload_n 0, 1) := by decide +kernel
theorem dX7_node_38 : decode cX7_node 38 = .ok (.invokevirtual 283, 3) := by decide +kernel
theorem dX7_node_41 : decode cX7_node 41 = .ok (.aload_n 0, 1) := by decide +kernel
theorem dX7_node_42 : decode cX7_node 42 = .ok (.iload_n 1, 1) := by decide +kernel
theorem dX7_node_43 : decode cX7_node 43 = .ok (.iload_n 2, 1) := by decide +kernel
theorem dX7_node_44 : decode cX7_node 44 = .ok (.iconst 1, 1) := by decide +kernel
theorem dX7_node_45 : decode cX7_node 45 = .ok (.iadd, 1) := by decide +kernel
theorem dX7_node_46 : decode cX7_node 46 = .ok (.invokevirtual 274, 3) := by decide +kernel
theorem dX7_node_49 : decode cX7_node 49 = .ok (.lreturn, 1) := by decide +kernel
theorem dX7_buildEnded_0 : decode cX7_buildEnded 0 = .ok (.aload_n 0, 1) := by decide +kernel
theorem dX7_buildEnded_1 : decode cX7_buildEnded 1 = .ok (.aload_n 0, 1) := by decide +kernel
theorem dX7_buildEnded_2 : decode cX7_buildEnded 2 = .ok (.getfield 13, 3) := by decide +kernel
theorem dX7_buildEnded_5 : decode cX7_buildEnded 5 = .ok (.invokevirtual 217, 3) := by decide +kernel
theorem dX7_buildEnded_8 : decode cX7_buildEnded 8 = .ok (.aload_n 0, 1) := by decide +kernel
theorem dX7_buildEnded_9 : decode cX7_buildEnded 9 = .ok (.iconst 0, 1) := by decide +kernel
theorem dX7_buildEnded_10 : decode cX7_buildEnded 10 = .ok (.putfield 234, 3) := by decide +kernel
theorem dX7_buildEnded_13 : decode cX7_buildEnded 13 = .ok (.aload_n 0, 1) := by decide +kernel
theorem dX7_buildEnded_14 : decode cX7_buildEnded 14 = .ok (.lconst 0, 1) := by decide +kernel
theorem dX7_buildEnded_15 : decode cX7_buildEnded 15 = .ok (.iconst 0, 1) := by decide +kernel
theorem dX7_buildEnded_16 : decode cX7_buildEnded 16 = .ok (.iconst 0, 1) := by decide +kernel
theorem dX7_buildEnded_17 : decode cX7_buildEnded 17 = .ok (.invokevirtual 244, 3) := by decide +kernel
theorem dX7_buildEnded_20 : decode cX7_buildEnded 20 = .ok (.iconst 0, 1) := by decide +kernel
theorem dX7_buildEnded_21 : decode cX7_buildEnded 21 = .ok (.istore_n 2, 1) := by decide +kernel
theorem dX7_buildEnded_22 : decode cX7_buildEnded 22 = .ok (.iconst 0, 1) := by decide +kernel
theorem dX7_buildEnded_23 : decode cX7_buildEnded 23 = .ok (.istore_n 3, 1) := by decide +kernel
theorem dX7_buildEnded_24 : decode cX7_buildEnded 24 = .ok (.iload_n 2, 1) := by decide +kernel
theorem dX7_buildEnded_25 : decode cX7_buildEnded 25 = .ok (.aload_n 0, 1) := by decide +kernel
theorem dX7_buildEnded_26 : decode cX7_buildEnded 26 = .ok (.getfield 154, 3) := by decide +kernel
theorem dX7_buildEnded_29 : decode cX7_buildEnded 29 = .ok (.if_icmp .ge 184, 3) := by decide +kernel
theorem dX7_buildEnded_32 : decode cX7_buildEnded 32 = .ok (.aload_n 0, 1) := by decide +kernel
theorem dX7_buildEnded_33 : decode cX7_buildEnded 33 = .ok (.iload_n 3, 1) := by decide +kernel
theorem dX7_buildEnded_34 : decode cX7_buildEnded 34 = .ok (.invokevirtual 248, 3) := by decide +kernel
theorem dX7_buildEnded_37 : decode cX7_buildEnded 37 = .ok (.aload_n 0, 1) := by decide +kernel
theorem dX7_buildEnded_38 : decode cX7_buildEnded 38 = .ok (.getfield 237, 3) := by decide +kernel
theorem dX7_buildEnded_41 : decode cX7_buildEnded 41 = .ok (.aload_n 0, 1) := by decide +kernel
theorem dX7_buildEnded_42 : decode cX7_buildEnded 42 = .ok (.getfield 154, 3) := by decide +kernel
theorem dX7_buildEnded_45 : decode cX7_buildEnded 45 = .ok (.iload_n 2, 1) := by decide +kernel
theorem dX7_buildEnded_46 : decode cX7_buildEnded 46 = .ok (.isub, 1) := by decide +kernel
theorem dX7_buildEnded_47 : decode cX7_buildEnded 47 = .ok (.invokestatic 186, 3) := by decide +kernel
theorem dX7_buildEnded_50 : decode cX7_buildEnded 50 = .ok (.istore 4, 2) := by decide +kernel
theorem dX7_buildEnded_52 : decode cX7_buildEnded 52 = .ok (.iconst 0, 1) := by decide +kernel
theorem dX7_buildEnded_53 : decode cX7_buildEnded 53 = .ok (.istore 5, 2) := by decide +kernel
theorem dX7_buildEnded_55 : decode cX7_buildEnded 55 = .ok (.iload 5, 2) := by decide +kernel
theorem dX7_buildEnded_57 : decode cX7_buildEnded 57 = .ok (.iload 4, 2) := by decide +kernel
theorem dX7_buildEnded_59 : decode cX7_buildEnded 59 = .ok (.if_icmp .ge 143, 3) := by decide +kernel
theorem dX7_buildEnded_62 : decode cX7_buildEnded 62 = .ok (.aload_n 0, 1) := by decide +kernel
theorem dX7_buildEnded_63 : decode cX7_buildEnded 63 = .ok (.getfield 52, 3) := by decide +kernel
theorem dX7_buildEnded_66 : decode cX7_buildEnded 66 = .ok (.iload 5, 2) := by decide +kernel
theorem dX7_buildEnded_68 : decode cX7_buildEnded 68 = .ok (.iaload, 1) := by decide +kernel
theorem dX7_buildEnded_69 : decode cX7_buildEnded 69 = .ok (.istore 6, 2) := by decide +kernel
theorem dX7_buildEnded_71 : decode cX7_buildEnded 71 = .ok (.aload_n 0, 1) := by decide +kernel
theorem dX7_buildEnded_72 : decode cX7_buildEnded 72 = .ok (.getfield 16, 3) := by decide +kernel
theorem dX7_buildEnded_75 : decode cX7_buildEnded 75 = .ok (.aload_n 0, 1) := by decide +kernel
theorem dX7_buildEnded_76 : decode cX7_buildEnded 76 = .ok (.getfield 26, 3) := by decide +kernel
theorem dX7_buildEnded_79 : decode cX7_buildEnded 79 = .ok (.iload_n 2, 1) := by decide +kernel
theorem dX7_buildEnded_80 : decode cX7_buildEnded 80 = .ok (.iaload, 1) := by decide +kernel
theorem dX7_buildEnded_81 : decode cX7_buildEnded 81 = .ok (.aload_n 0, 1) := by decide +kernel
theorem dX7_buildEnded_82 : decode cX7_buildEnded 82 = .ok (.getfield 43, 3) := by decide +kernel
theorem dX7_buildEnded_85 : decode cX7_buildEnded 85 = .ok (.iload 6, 2) := by decide +kernel
theorem dX7_buildEnded_87 : decode cX7_buildEnded 87 = .ok (.laload, 1) := by decide +kernel
theorem dX7_buildEnded_88 : decode cX7_buildEnded 88 = .ok (.aload_n 0, 1) := by decide +kernel
theorem dX7_buildEnded_89 : decode cX7_buildEnded 89 = .ok (.getfield 46, 3) := by decide +kernel
theorem dX7_buildEnded_92 : decode cX7_buildEnded 92 = .ok (.iload 6, 2) := by decide +kernel
theorem dX7_buildEnded_94 : decode cX7_buildEnded 94 = .ok (.iaload, 1) := by decide +kernel
theorem dX7_buildEnded_95 : decode cX7_buildEnded 95 = .ok (.iload_n 1, 1) := by decide +kernel
theorem dX7_buildEnded_96 : decode cX7_buildEnded 96 = .ok (.invokestatic 262, 3) := by decide +kernel
theorem dX7_buildEnded_99 : decode cX7_buildEnded 99 = .ok (.lastore, 1) := by decide +kernel
theorem dX7_buildEnded_100 : decode cX7_buildEnded 100 = .ok (.aload_n 0, 1) := by decide +kernel
theorem dX7_buildEnded_101 : decode cX7_buildEnded 101 = .ok (.getfield 20, 3) := by decide +kernel
theorem dX7_buildEnded_104 : decode cX7_buildEnded 104 = .ok (.aload_n 0, 1) := by decide +kernel
theorem dX7_buildEnded_105 : decode cX7_buildEnded 105 = .ok (.getfield 26, 3) := by decide +kernel
theorem dX7_buildEnded_108 : decode cX7_buildEnded 108 = .ok (.iload_n 2, 1) := by decide +kernel
theorem dX7_buildEnded_109 : decode cX7_buildEnded 109 = .ok (.iaload, 1) := by decide +kernel
theorem dX7_buildEnded_110 : decode cX7_buildEnded 110 = .ok (.aload_n 0, 1) := by decide +kernel
theorem dX7_buildEnded_111 : decode cX7_buildEnded 111 = .ok (.getfield 46, 3) := by decide +kernel
theorem dX7_buildEnded_114 : decode cX7_buildEnded 114 = .ok (.iload 6, 2) := by decide +kernel
theorem dX7_buildEnded_116 : decode cX7_buildEnded 116 = .ok (.iaload, 1) := by decide +kernel
theorem dX7_buildEnded_117 : decode cX7_buildEnded 117 = .ok (.iconst 1, 1) := by decide +kernel
theorem dX7_buildEnded_118 : decode cX7_buildEnded 118 = .ok (.iadd, 1) := by decide +kernel
theorem dX7_buildEnded_119 : decode cX7_buildEnded 119 = .ok (.iastore, 1) := by decide +kernel
theorem dX7_buildEnded_120 : decode cX7_buildEnded 120 = .ok (.iinc 2 1, 3) := by decide +kernel
theorem dX7_buildEnded_123 : decode cX7_buildEnded 123 = .ok (.iconst 0, 1) := by decide +kernel
theorem dX7_buildEnded_124 : decode cX7_buildEnded 124 = .ok (.istore 7, 2) := by decide +kernel
theorem dX7_buildEnded_126 : decode cX7_buildEnded 126 = .ok (.iload 7, 2) := by decide +kernel
theorem dX7_buildEnded_128 : decode cX7_buildEnded 128 = .ok (.aload_n 0, 1) := by decide +kernel
theorem dX7_buildEnded_129 : decode cX7_buildEnded 129 = .ok (.getfield 137, 3) := by decide +kernel
theorem dX7_buildEnded_132 : decode cX7_buildEnded 132 = .ok (.if_icmp .ge 64, 3) := by decide +kernel
theorem dX7_buildEnded_135 : decode cX7_buildEnded 135 = .ok (.iload_n 2, 1) := by decide +kernel
theorem dX7_buildEnded_136 : decode cX7_buildEnded 136 = .ok (.aload_n 0, 1) := by decide +kernel
theorem dX7_buildEnded_137 : decode cX7_buildEnded 137 = .ok (.getfield 154, 3) := by decide +kernel
theorem dX7_buildEnded_140 : decode cX7_buildEnded 140 = .ok (.if_icmp .ge 56, 3) := by decide +kernel
theorem dX7_buildEnded_143 : decode cX7_buildEnded 143 = .ok (.iload 7, 2) := by decide +kernel
theorem dX7_buildEnded_145 : decode cX7_buildEnded 145 = .ok (.iload_n 1, 1) := by decide +kernel
theorem dX7_buildEnded_146 : decode cX7_buildEnded 146 = .ok (.if_icmp .eq 44, 3) := by decide +kernel
theorem dX7_buildEnded_149 : decode cX7_buildEnded 149 = .ok (.aload_n 0, 1) := by decide +kernel
theorem dX7_buildEnded_150 : decode cX7_buildEnded 150 = .ok (.aload_n 0, 1) := by decide +kernel
theorem dX7_buildEnded_151 : decode cX7_buildEnded 151 = .ok (.getfield 43, 3) := by decide +kernel
theorem dX7_buildEnded_154 : decode cX7_buildEnded 154 = .ok (.iload 6, 2) := by decide +kernel
theorem dX7_buildEnded_156 : decode cX7_buildEnded 156 = .ok (.laload, 1) := by decide +kernel
theorem dX7_buildEnded_157 : decode cX7_buildEnded 157 = .ok (.aload_n 0, 1) := by decide +kernel
theorem dX7_buildEnded_158 : decode cX7_buildEnded 158 = .ok (.getfield 46, 3) := by decide +kernel
theorem dX7_buildEnded_161 : decode cX7_buildEnded 161 = .ok (.iload 6, 2) := by decide +kernel
theorem dX7_buildEnded_163 : decode cX7_buildEnded 163 = .ok (.iaload, 1) := by decide +kernel
theorem dX7_buildEnded_164 : decode cX7_buildEnded 164 = .ok (.iload 7, 2) := by decide +kernel
theorem dX7_buildEnded_166 : decode cX7_buildEnded 166 = .ok (.invokestatic 262, 3) := by decide +kernel
theorem dX7_buildEnded_169 : decode cX7_buildEnded 169 = .ok (.aload_n 0, 1) := by decide +kernel
theorem dX7_buildEnded_170 : decode cX7_buildEnded 170 = .ok (.getfield 46, 3) := by decide +kernel
theorem dX7_buildEnded_173 : decode cX7_buildEnded 173 = .ok (.iload 6, 2) := by decide +kernel
theorem dX7_buildEnded_175 : decode cX7_buildEnded 175 = .ok (.iaload, 1) := by decide +kernel
theorem dX7_buildEnded_176 : decode cX7_buildEnded 176 = .ok (.iconst 1, 1) := by decide +kernel
theorem dX7_buildEnded_177 : decode cX7_buildEnded 177 = .ok (.iadd, 1) := by decide +kernel
theorem dX7_buildEnded_178 : decode cX7_buildEnded 178 = .ok (.iload_n 3, 1) := by decide +kernel
theorem dX7_buildEnded_179 : decode cX7_buildEnded 179 = .ok (.aload_n 0, 1) := by decide +kernel
theorem dX7_buildEnded_180 : decode cX7_buildEnded 180 = .ok (.getfield 7, 3) := by decide +kernel
theorem dX7_buildEnded_183 : decode cX7_buildEnded 183 = .ok (.iload 7, 2) := by decide +kernel
theorem dX7_buildEnded_185 : decode cX7_buildEnded 185 = .ok (.iaload, 1) := by decide +kernel
theorem dX7_buildEnded_186 : decode cX7_buildEnded 186 = .ok (.iadd, 1) := by decide +kernel
theorem dX7_buildEnded_187 : decode cX7_buildEnded 187 = .ok (.invokevirtual 244, 3) := by decide +kernel
theorem dX7_buildEnded_190 : decode cX7_buildEnded 190 = .ok (.iinc 7 1, 3) := by decide +kernel
theorem dX7_buildEnded_193 : decode cX7_buildEnded 193 = .ok (.goto (-67), 3) := by decide +kernel
theorem dX7_buildEnded_196 : decode cX7_buildEnded 196 = .ok (.iinc 5 1, 3) := by decide +kernel
theorem dX7_buildEnded_199 : decode cX7_buildEnded 199 = .ok (.goto (-144), 3) := by decide +kernel
theorem dX7_buildEnded_202 : decode cX7_buildEnded 202 = .ok (.aload_n 0, 1) := by decide +kernel
theorem dX7_buildEnded_203 : decode cX7_buildEnded 203 = .ok (.iload_n 3, 1) := by decide +kernel
theorem dX7_buildEnded_204 : decode cX7_buildEnded 204 = .ok (.invokevirtual 259, 3) := by decide +kernel
theorem dX7_buildEnded_207 : decode cX7_buildEnded 207 = .ok (.iinc 3 1, 3) := by decide +kernel
theorem dX7_buildEnded_210 : decode cX7_buildEnded 210 = .ok (.goto (-186), 3) := by decide +kernel
theorem dX7_buildEnded_213 : decode cX7_buildEnded 213 = .ok (.return_, 1) := by decide +kernel
theorem dX7_build_0 : decode cX7_build 0 = .ok (.iload_n 1, 1) := by decide +kernel
theorem dX7_build_1 : decode cX7_build 1 = .ok (.i2l, 1) := by decide +kernel
theorem dX7_build_2 : decode cX7_build 2 = .ok (.lconst 0, 1) := by decide +kernel
theorem dX7_build_3 : decode cX7_build 3 = .ok (.ldc2_w 161, 3) := by decide +kernel
theorem dX7_build_6 : decode cX7_build 6 = .ok (.invokestatic 133, 3) := by decide +kernel
theorem dX7_build_9 : decode cX7_build 9 = .ok (.ifCond .eq 33, 3) := by decide +kernel
theorem dX7_build_12 : decode cX7_build 12 = .ok (.iload_n 1, 1) := by decide +kernel
theorem dX7_build_13 : decode cX7_build 13 = .ok (.iconst 1, 1) := by decide +kernel
theorem dX7_build_14 : decode cX7_build 14 = .ok (.if_icmp .ne 15, 3) := by decide +kernel
theorem dX7_build_17 : decode cX7_build 17 = .ok (.iload_n 2, 1) := by decide +kernel
theorem dX7_build_18 : decode cX7_build 18 = .ok (.i2l, 1) := by decide +kernel
theorem dX7_build_19 : decode cX7_build 19 = .ok (.lconst 1, 1) := by decide +kernel
theorem dX7_build_20 : decode cX7_build 20 = .ok (.ldc2_w 297, 3) := by decide +kernel
theorem dX7_build_23 : decode cX7_build 23 = .ok (.invokestatic 133, 3) := by decide +kernel
theorem dX7_build_26 : decode cX7_build 26 = .ok (.ifCond .eq 16, 3) := by decide +kernel
theorem dX7_build_29 : decode cX7_build 29 = .ok (.iload_n 1, 1) := by decide +kernel
theorem dX7_build_30 : decode cX7_build 30 = .ok (.iconst 3, 1) := by decide +kernel
theorem dX7_build_31 : decode cX7_build 31 = .ok (.if_icmp .ne 15, 3) := by decide +kernel
theorem dX7_build_34 : decode cX7_build 34 = .ok (.aload_n 0, 1) := by decide +kernel
theorem dX7_build_35 : decode cX7_build 35 = .ok (.iload_n 2, 1) := by decide +kernel
theorem dX7_build_36 : decode cX7_build 36 = .ok (.invokevirtual 299, 3) := by decide +kernel
theorem dX7_build_39 : decode cX7_build 39 = .ok (.ifCond .ne 7, 3) := by decide +kernel
theorem dX7_build_42 : decode cX7_build 42 = .ok (.ldc2_w 302, 3) := by decide +kernel
theorem dX7_build_45 : decode cX7_build 45 = .ok (.lreturn, 1) := by decide +kernel
theorem dX7_build_46 : decode cX7_build 46 = .ok (.iload_n 1, 1) := by decide +kernel
theorem dX7_build_47 : decode cX7_build 47 = .ok (.ifCond .ne 10, 3) := by decide +kernel
theorem dX7_build_50 : decode cX7_build 50 = .ok (.aload_n 0, 1) := by decide +kernel
theorem dX7_build_51 : decode cX7_build 51 = .ok (.invokevirtual 304, 3) := by decide +kernel
theorem dX7_build_54 : decode cX7_build 54 = .ok (.goto 7, 3) := by decide +kernel
theorem dX7_build_57 : decode cX7_build 57 = .ok (.aload_n 0, 1) := by decide +kernel
theorem dX7_build_58 : decode cX7_build 58 = .ok (.invokevirtual 179, 3) := by decide +kernel
theorem dX7_build_61 : decode cX7_build 61 = .ok (.istore_n 3, 1) := by decide +kernel
theorem dX7_build_62 : decode cX7_build 62 = .ok (.iconst 0, 1) := by decide +kernel
theorem dX7_build_63 : decode cX7_build 63 = .ok (.istore 4, 2) := by decide +kernel
theorem dX7_build_65 : decode cX7_build 65 = .ok (.iload 4, 2) := by decide +kernel
theorem dX7_build_67 : decode cX7_build 67 = .ok (.aload_n 0, 1) := by decide +kernel
theorem dX7_build_68 : decode cX7_build 68 = .ok (.getfield 137, 3) := by decide +kernel
theorem dX7_build_71 : decode cX7_build 71 = .ok (.if_icmp .ge 35, 3) := by decide +kernel
theorem dX7_build_74 : decode cX7_build 74 = .ok (.iload_n 3, 1) := by decide +kernel
theorem dX7_build_75 : decode cX7_build 75 = .ok (.ifCond .eq 23, 3) := by decide +kernel
theorem dX7_build_78 : decode cX7_build 78 = .ok (.iload_n 1, 1) := by decide +kernel
theorem dX7_build_79 : decode cX7_build 79 = .ok (.iconst 1, 1) := by decide +kernel
theorem dX7_build_80 : decode cX7_build 80 = .ok (.if_icmp .ne 14, 3) := by decide +kernel
theorem dX7_build_83 : decode cX7_build 83 = .ok (.aload_n 0, 1) := by decide +kernel
theorem dX7_build_84 : decode cX7_build 84 = .ok (.getfield 7, 3) := by decide +kernel
theorem dX7_build_87 : decode cX7_build 87 = .ok (.iload 4, 2) := by decide +kernel
theorem dX7_build_89 : decode cX7_build 89 = .ok (.iaload, 1) := by decide +kernel
theorem dX7_build_90 : decode cX7_build 90 = .ok (.iconst 1, 1) := by decide +kernel
theorem dX7_build_91 : decode cX7_build 91 = .ok (.if_icmp .ne 7, 3) := by decide +kernel
theorem dX7_build_94 : decode cX7_build 94 = .ok (.iconst 1, 1) := by decide +kernel
theorem dX7_build_95 : decode cX7_build 95 = .ok (.goto 4, 3) := by decide +kernel
theorem dX7_build_98 : decode cX7_build 98 = .ok (.iconst 0, 1) := by decide +kernel
theorem dX7_build_99 : decode cX7_build 99 = .ok (.istore_n 3, 1) := by decide +kernel
theorem dX7_build_100 : decode cX7_build 100 = .ok (.iinc 4 1, 3) := by decide +kernel
theorem dX7_build_103 : decode cX7_build 103 = .ok (.goto (-38), 3) := by decide +kernel
theorem dX7_build_106 : decode cX7_build 106 = .ok (.iload_n 3, 1) := by decide +kernel
theorem dX7_build_107 : decode cX7_build 107 = .ok (.ifCond .ne 7, 3) := by decide +kernel
theorem dX7_build_110 : decode cX7_build 110 = .ok (.ldc2_w 295, 3) := by decide +kernel
theorem dX7_build_113 : decode cX7_build 113 = .ok (.lreturn, 1) := by decide +kernel
theorem dX7_build_114 : decode cX7_build 114 = .ok (.iload_n 1, 1) := by decide +kernel
theorem dX7_build_115 : decode cX7_build 115 = .ok (.iconst 2, 1) := by decide +kernel
theorem dX7_build_116 : decode cX7_build 116 = .ok (.if_icmp .ge 74, 3) := by decide +kernel
theorem dX7_build_119 : decode cX7_build 119 = .ok (.iconst 0, 1) := by decide +kernel
theorem dX7_build_120 : decode cX7_build 120 = .ok (.istore 4, 2) := by decide +kernel
theorem dX7_build_122 : decode cX7_build 122 = .ok (.iload 4, 2) := by decide +kernel
theorem dX7_build_124 : decode cX7_build 124 = .ok (.aload_n 0, 1) := by decide +kernel
theorem dX7_build_125 : decode cX7_build 125 = .ok (.getfield 154, 3) := by decide +kernel
theorem dX7_build_128 : decode cX7_build 128 = .ok (.if_icmp .ge 37, 3) := by decide +kernel
theorem dX7_build_131 : decode cX7_build 131 = .ok (.aload_n 0, 1) := by decide +kernel
theorem dX7_build_132 : decode cX7_build 132 = .ok (.getfield 76, 3) := by decide +kernel
theorem dX7_build_135 : decode cX7_build 135 = .ok (.iload 4, 2) := by decide +kernel
theorem dX7_build_137 : decode cX7_build 137 = .ok (.aload_n 0, 1) := by decide +kernel
theorem dX7_build_138 : decode cX7_build 138 = .ok (.getfield 16, 3) := by decide +kernel
theorem dX7_build_141 : decode cX7_build 141 = .ok (.iload 4, 2) := by decide +kernel
theorem dX7_build_143 : decode cX7_build 143 = .ok (.laload, 1) := by decide +kernel
theorem dX7_build_144 : decode cX7_build 144 = .ok (.lastore, 1) := by decide +kernel
theorem dX7_build_145 : decode cX7_build 145 = .ok (.aload_n 0, 1) := by decide +kernel
theorem dX7_build_146 : decode cX7_build 146 = .ok (.getfield 79, 3) := by decide +kernel
theorem dX7_build_149 : decode cX7_build 149 = .ok (.iload 4, 2) := by decide +kernel
theorem dX7_build_151 : decode cX7_build 151 = .ok (.aload_n 0, 1) := by decide +kernel
theorem dX7_build_152 : decode cX7_build 152 = .ok (.getfield 20, 3) := by decide +kernel
theorem dX7_build_155 : decode cX7_build 155 = .ok (.iload 4, 2) := by decide +kernel
theorem dX7_build_157 : decode cX7_build 157 = .ok (.iaload, 1) := by decide +kernel
theorem dX7_build_158 : decode cX7_build 158 = .ok (.iastore, 1) := by decide +kernel
theorem dX7_build_159 : decode cX7_build 159 = .ok (.iinc 4 1, 3) := by decide +kernel
theorem dX7_build_162 : decode cX7_build 162 = .ok (.goto (-40), 3) := by decide +kernel
theorem dX7_build_165 : decode cX7_build 165 = .ok (.aload_n 0, 1) := by decide +kernel
theorem dX7_build_166 : decode cX7_build 166 = .ok (.aload_n 0, 1) := by decide +kernel
theorem dX7_build_167 : decode cX7_build 167 = .ok (.getfield 13, 3) := by decide +kernel
theorem dX7_build_170 : decode cX7_build 170 = .ok (.iload_n 1, 1) := by decide +kernel
theorem dX7_build_171 : decode cX7_build 171 = .ok (.ifCond .ne 8, 3) := by decide +kernel
