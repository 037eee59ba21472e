theorem dX5_imageIs_18 : decode cX5_imageIs 18 = .ok (.iload_n 2, 1) := by decide +kernel
theorem dX5_imageIs_19 : decode cX5_imageIs 19 = .ok (.iadd, 1) := by decide +kernel
theorem dX5_imageIs_20 : decode cX5_imageIs 20 = .ok (.laload, 1) := by decide +kernel
theorem dX5_imageIs_21 : decode cX5_imageIs 21 = .ok (.aload_n 0, 1) := by decide +kernel
theorem dX5_imageIs_22 : decode cX5_imageIs 22 = .ok (.getfield 28, 3) := by decide +kernel
theorem dX5_imageIs_25 : decode cX5_imageIs 25 = .ok (.iload_n 2, 1) := by decide +kernel
theorem dX5_imageIs_26 : decode cX5_imageIs 26 = .ok (.laload, 1) := by decide +kernel
theorem dX5_imageIs_27 : decode cX5_imageIs 27 = .ok (.lcmp, 1) := by decide +kernel
theorem dX5_imageIs_28 : decode cX5_imageIs 28 = .ok (.ifCond .eq 5, 3) := by decide +kernel
theorem dX5_imageIs_31 : decode cX5_imageIs 31 = .ok (.iconst 0, 1) := by decide +kernel
theorem dX5_imageIs_32 : decode cX5_imageIs 32 = .ok (.ireturn, 1) := by decide +kernel
theorem dX5_imageIs_33 : decode cX5_imageIs 33 = .ok (.iinc 2 1, 3) := by decide +kernel
theorem dX5_imageIs_36 : decode cX5_imageIs 36 = .ok (.goto (-34), 3) := by decide +kernel
theorem dX5_imageIs_39 : decode cX5_imageIs 39 = .ok (.iconst 1, 1) := by decide +kernel
theorem dX5_imageIs_40 : decode cX5_imageIs 40 = .ok (.ireturn, 1) := by decide +kernel
theorem dX6_init_0 : decode cX6_init 0 = .ok (.aload_n 0, 1) := by decide +kernel
theorem dX6_init_1 : decode cX6_init 1 = .ok (.invokespecial 1, 3) := by decide +kernel
theorem dX6_init_4 : decode cX6_init 4 = .ok (.aload_n 0, 1) := by decide +kernel
theorem dX6_init_5 : decode cX6_init 5 = .ok (.iconst 4, 1) := by decide +kernel
theorem dX6_init_6 : decode cX6_init 6 = .ok (.newarray .int, 2) := by decide +kernel
theorem dX6_init_8 : decode cX6_init 8 = .ok (.putfield 9, 3) := by decide +kernel
theorem dX6_init_11 : decode cX6_init 11 = .ok (.aload_n 0, 1) := by decide +kernel
theorem dX6_init_12 : decode cX6_init 12 = .ok (.bipush 24, 2) := by decide +kernel
theorem dX6_init_14 : decode cX6_init 14 = .ok (.newarray .int, 2) := by decide +kernel
theorem dX6_init_16 : decode cX6_init 16 = .ok (.putfield 13, 3) := by decide +kernel
theorem dX6_init_19 : decode cX6_init 19 = .ok (.aload_n 0, 1) := by decide +kernel
theorem dX6_init_20 : decode cX6_init 20 = .ok (.bipush 24, 2) := by decide +kernel
theorem dX6_init_22 : decode cX6_init 22 = .ok (.newarray .int, 2) := by decide +kernel
theorem dX6_init_24 : decode cX6_init 24 = .ok (.putfield 16, 3) := by decide +kernel
theorem dX6_init_27 : decode cX6_init 27 = .ok (.aload_n 0, 1) := by decide +kernel
theorem dX6_init_28 : decode cX6_init 28 = .ok (.bipush 24, 2) := by decide +kernel
theorem dX6_init_30 : decode cX6_init 30 = .ok (.newarray .int, 2) := by decide +kernel
theorem dX6_init_32 : decode cX6_init 32 = .ok (.putfield 19, 3) := by decide +kernel
theorem dX6_init_35 : decode cX6_init 35 = .ok (.aload_n 0, 1) := by decide +kernel
theorem dX6_init_36 : decode cX6_init 36 = .ok (.bipush 24, 2) := by decide +kernel
theorem dX6_init_38 : decode cX6_init 38 = .ok (.newarray .int, 2) := by decide +kernel
theorem dX6_init_40 : decode cX6_init 40 = .ok (.putfield 22, 3) := by decide +kernel
theorem dX6_init_43 : decode cX6_init 43 = .ok (.aload_n 0, 1) := by decide +kernel
theorem dX6_init_44 : decode cX6_init 44 = .ok (.new 25, 3) := by decide +kernel
theorem dX6_init_47 : decode cX6_init 47 = .ok (.dup, 1) := by decide +kernel
theorem dX6_init_48 : decode cX6_init 48 = .ok (.invokespecial 27, 3) := by decide +kernel
theorem dX6_init_51 : decode cX6_init 51 = .ok (.putfield 28, 3) := by decide +kernel
theorem dX6_init_54 : decode cX6_init 54 = .ok (.aload_n 0, 1) := by decide +kernel
theorem dX6_init_55 : decode cX6_init 55 = .ok (.new 32, 3) := by decide +kernel
theorem dX6_init_58 : decode cX6_init 58 = .ok (.dup, 1) := by decide +kernel
theorem dX6_init_59 : decode cX6_init 59 = .ok (.invokespecial 34, 3) := by decide +kernel
theorem dX6_init_62 : decode cX6_init 62 = .ok (.putfield 35, 3) := by decide +kernel
theorem dX6_init_65 : decode cX6_init 65 = .ok (.aload_n 0, 1) := by decide +kernel
theorem dX6_init_66 : decode cX6_init 66 = .ok (.new 39, 3) := by decide +kernel
theorem dX6_init_69 : decode cX6_init 69 = .ok (.dup, 1) := by decide +kernel
theorem dX6_init_70 : decode cX6_init 70 = .ok (.invokespecial 41, 3) := by decide +kernel
theorem dX6_init_73 : decode cX6_init 73 = .ok (.putfield 42, 3) := by decide +kernel
theorem dX6_init_76 : decode cX6_init 76 = .ok (.aload_n 0, 1) := by decide +kernel
theorem dX6_init_77 : decode cX6_init 77 = .ok (.new 39, 3) := by decide +kernel
theorem dX6_init_80 : decode cX6_init 80 = .ok (.dup, 1) := by decide +kernel
theorem dX6_init_81 : decode cX6_init 81 = .ok (.invokespecial 41, 3) := by decide +kernel
theorem dX6_init_84 : decode cX6_init 84 = .ok (.putfield 46, 3) := by decide +kernel
theorem dX6_init_87 : decode cX6_init 87 = .ok (.aload_n 0, 1) := by decide +kernel
theorem dX6_init_88 : decode cX6_init 88 = .ok (.bipush 8, 2) := by decide +kernel
theorem dX6_init_90 : decode cX6_init 90 = .ok (.anewarray 39, 3) := by decide +kernel
theorem dX6_init_93 : decode cX6_init 93 = .ok (.putfield 49, 3) := by decide +kernel
theorem dX6_init_96 : decode cX6_init 96 = .ok (.aload_n 0, 1) := by decide +kernel
theorem dX6_init_97 : decode cX6_init 97 = .ok (.bipush (-6), 2) := by decide +kernel
theorem dX6_init_99 : decode cX6_init 99 = .ok (.putfield 53, 3) := by decide +kernel
theorem dX6_init_102 : decode cX6_init 102 = .ok (.aload_n 0, 1) := by decide +kernel
theorem dX6_init_103 : decode cX6_init 103 = .ok (.bipush (-6), 2) := by decide +kernel
theorem dX6_init_105 : decode cX6_init 105 = .ok (.putfield 57, 3) := by decide +kernel
theorem dX6_init_108 : decode cX6_init 108 = .ok (.iconst 0, 1) := by decide +kernel
theorem dX6_init_109 : decode cX6_init 109 = .ok (.istore_n 1, 1) := by decide +kernel
theorem dX6_init_110 : decode cX6_init 110 = .ok (.iload_n 1, 1) := by decide +kernel
theorem dX6_init_111 : decode cX6_init 111 = .ok (.bipush 8, 2) := by decide +kernel
theorem dX6_init_113 : decode cX6_init 113 = .ok (.if_icmp .ge 22, 3) := by decide +kernel
theorem dX6_init_116 : decode cX6_init 116 = .ok (.aload_n 0, 1) := by decide +kernel
theorem dX6_init_117 : decode cX6_init 117 = .ok (.getfield 49, 3) := by decide +kernel
theorem dX6_init_120 : decode cX6_init 120 = .ok (.iload_n 1, 1) := by decide +kernel
theorem dX6_init_121 : decode cX6_init 121 = .ok (.new 39, 3) := by decide +kernel
theorem dX6_init_124 : decode cX6_init 124 = .ok (.dup, 1) := by decide +kernel
theorem dX6_init_125 : decode cX6_init 125 = .ok (.invokespecial 41, 3) := by decide +kernel
theorem dX6_init_128 : decode cX6_init 128 = .ok (.aastore, 1) := by decide +kernel
theorem dX6_init_129 : decode cX6_init 129 = .ok (.iinc 1 1, 3) := by decide +kernel
theorem dX6_init_132 : decode cX6_init 132 = .ok (.goto (-22), 3) := by decide +kernel
theorem dX6_init_135 : decode cX6_init 135 = .ok (.return_, 1) := by decide +kernel
theorem dX6_sign_0 : decode cX6_sign 0 = .ok (.iload_n 1, 1) := by decide +kernel
theorem dX6_sign_1 : decode cX6_sign 1 = .ok (.iconst 1, 1) := by decide +kernel
theorem dX6_sign_2 : decode cX6_sign 2 = .ok (.if_icmp .lt 9, 3) := by decide +kernel
theorem dX6_sign_5 : decode cX6_sign 5 = .ok (.iload_n 1, 1) := by decide +kernel
theorem dX6_sign_6 : decode cX6_sign 6 = .ok (.bipush 9, 2) := by decide +kernel
theorem dX6_sign_8 : decode cX6_sign 8 = .ok (.if_icmp .le 6, 3) := by decide +kernel
theorem dX6_sign_11 : decode cX6_sign 11 = .ok (.bipush (-2), 2) := by decide +kernel
theorem dX6_sign_13 : decode cX6_sign 13 = .ok (.ireturn, 1) := by decide +kernel
theorem dX6_sign_14 : decode cX6_sign 14 = .ok (.aload_n 0, 1) := by decide +kernel
theorem dX6_sign_15 : decode cX6_sign 15 = .ok (.getfield 60, 3) := by decide +kernel
theorem dX6_sign_18 : decode cX6_sign 18 = .ok (.iconst 4, 1) := by decide +kernel
theorem dX6_sign_19 : decode cX6_sign 19 = .ok (.if_icmp .lt 6, 3) := by decide +kernel
theorem dX6_sign_22 : decode cX6_sign 22 = .ok (.bipush (-4), 2) := by decide +kernel
theorem dX6_sign_24 : decode cX6_sign 24 = .ok (.ireturn, 1) := by decide +kernel
theorem dX6_sign_25 : decode cX6_sign 25 = .ok (.aload_n 0, 1) := by decide +kernel
theorem dX6_sign_26 : decode cX6_sign 26 = .ok (.getfield 9, 3) := by decide +kernel
theorem dX6_sign_29 : decode cX6_sign 29 = .ok (.aload_n 0, 1) := by decide +kernel
theorem dX6_sign_30 : decode cX6_sign 30 = .ok (.getfield 60, 3) := by decide +kernel
theorem dX6_sign_33 : decode cX6_sign 33 = .ok (.iload_n 1, 1) := by decide +kernel
theorem dX6_sign_34 : decode cX6_sign 34 = .ok (.iastore, 1) := by decide +kernel
theorem dX6_sign_35 : decode cX6_sign 35 = .ok (.aload_n 0, 1) := by decide +kernel
theorem dX6_sign_36 : decode cX6_sign 36 = .ok (.dup, 1) := by decide +kernel
theorem dX6_sign_37 : decode cX6_sign 37 = .ok (.getfield 60, 3) := by decide +kernel
theorem dX6_sign_40 : decode cX6_sign 40 = .ok (.iconst 1, 1) := by decide +kernel
theorem dX6_sign_41 : decode cX6_sign 41 = .ok (.iadd, 1) := by decide +kernel
theorem dX6_sign_42 : decode cX6_sign 42 = .ok (.putfield 60, 3) := by decide +kernel
theorem dX6_sign_45 : decode cX6_sign 45 = .ok (.aload_n 0, 1) := by decide +kernel
theorem dX6_sign_46 : decode cX6_sign 46 = .ok (.invokevirtual 63, 3) := by decide +kernel
theorem dX6_sign_49 : decode cX6_sign 49 = .ok (.aload_n 0, 1) := by decide +kernel
theorem dX6_sign_50 : decode cX6_sign 50 = .ok (.getfield 28, 3) := by decide +kernel
theorem dX6_sign_53 : decode cX6_sign 53 = .ok (.iconst 0, 1) := by decide +kernel
theorem dX6_sign_54 : decode cX6_sign 54 = .ok (.putfield 66, 3) := by decide +kernel
theorem dX6_sign_57 : decode cX6_sign 57 = .ok (.iconst 0, 1) := by decide +kernel
theorem dX6_sign_58 : decode cX6_sign 58 = .ok (.istore_n 2, 1) := by decide +kernel
theorem dX6_sign_59 : decode cX6_sign 59 = .ok (.iload_n 2, 1) := by decide +kernel
theorem dX6_sign_60 : decode cX6_sign 60 = .ok (.bipush 8, 2) := by decide +kernel
theorem dX6_sign_62 : decode cX6_sign 62 = .ok (.if_icmp .ge 19, 3) := by decide +kernel
theorem dX6_sign_65 : decode cX6_sign 65 = .ok (.aload_n 0, 1) := by decide +kernel
theorem dX6_sign_66 : decode cX6_sign 66 = .ok (.getfield 49, 3) := by decide +kernel
theorem dX6_sign_69 : decode cX6_sign 69 = .ok (.iload_n 2, 1) := by decide +kernel
theorem dX6_sign_70 : decode cX6_sign 70 = .ok (.aaload, 1) := by decide +kernel
theorem dX6_sign_71 : decode cX6_sign 71 = .ok (.iconst 0, 1) := by decide +kernel
theorem dX6_sign_72 : decode cX6_sign 72 = .ok (.invokevirtual 69, 3) := by decide +kernel
theorem dX6_sign_75 : decode cX6_sign 75 = .ok (.iinc 2 1, 3) := by decide +kernel
theorem dX6_sign_78 : decode cX6_sign 78 = .ok (.goto (-19), 3) := by decide +kernel
theorem dX6_sign_81 : decode cX6_sign 81 = .ok (.aload_n 0, 1) := by decide +kernel
theorem dX6_sign_82 : decode cX6_sign 82 = .ok (.getfield 60, 3) := by decide +kernel
theorem dX6_sign_85 : decode cX6_sign 85 = .ok (.iconst 1, 1) := by decide +kernel
theorem dX6_sign_86 : decode cX6_sign 86 = .ok (.isub, 1) := by decide +kernel
theorem dX6_sign_87 : decode cX6_sign 87 = .ok (.ireturn, 1) := by decide +kernel
theorem dX6_thing_0 : decode cX6_thing 0 = .ok (.iload_n 1, 1) := by decide +kernel
theorem dX6_thing_1 : decode cX6_thing 1 = .ok (.invokestatic 73, 3) := by decide +kernel
theorem dX6_thing_4 : decode cX6_thing 4 = .ok (.istore_n 2, 1) := by decide +kernel
theorem dX6_thing_5 : decode cX6_thing 5 = .ok (.iload_n 2, 1) := by decide +kernel
theorem dX6_thing_6 : decode cX6_thing 6 = .ok (.iconst 1, 1) := by decide +kernel
theorem dX6_thing_7 : decode cX6_thing 7 = .ok (.if_icmp .ge 6, 3) := by decide +kernel
theorem dX6_thing_10 : decode cX6_thing 10 = .ok (.bipush (-2), 2) := by decide +kernel
theorem dX6_thing_12 : decode cX6_thing 12 = .ok (.ireturn, 1) := by decide +kernel
theorem dX6_thing_13 : decode cX6_thing 13 = .ok (.aload_n 0, 1) := by decide +kernel
theorem dX6_thing_14 : decode cX6_thing 14 = .ok (.getfield 77, 3) := by decide +kernel
theorem dX6_thing_17 : decode cX6_thing 17 = .ok (.bipush 24, 2) := by decide +kernel
theorem dX6_thing_19 : decode cX6_thing 19 = .ok (.if_icmp .lt 6, 3) := by decide +kernel
theorem dX6_thing_22 : decode cX6_thing 22 = .ok (.bipush (-4), 2) := by decide +kernel
theorem dX6_thing_24 : decode cX6_thing 24 = .ok (.ireturn, 1) := by decide +kernel
theorem dX6_thing_25 : decode cX6_thing 25 = .ok (.aload_n 0, 1) := by decide +kernel
theorem dX6_thing_26 : decode cX6_thing 26 = .ok (.getfield 13, 3) := by decide +kernel
theorem dX6_thing_29 : decode cX6_thing 29 = .ok (.aload_n 0, 1) := by decide +kernel
theorem dX6_thing_30 : decode cX6_thing 30 = .ok (.getfield 77, 3) := by decide +kernel
theorem dX6_thing_33 : decode cX6_thing 33 = .ok (.iload_n 2, 1) := by decide +kernel
theorem dX6_thing_34 : decode cX6_thing 34 = .ok (.iastore, 1) := by decide +kernel
theorem dX6_thing_35 : decode cX6_thing 35 = .ok (.aload_n 0, 1) := by decide +kernel
theorem dX6_thing_36 : decode cX6_thing 36 = .ok (.dup, 1) := by decide +kernel
theorem dX6_thing_37 : decode cX6_thing 37 = .ok (.getfield 77, 3) := by decide +kernel
theorem dX6_thing_40 : decode cX6_thing 40 = .ok (.iconst 1, 1) := by decide +kernel
theorem dX6_thing_41 : decode cX6_thing 41 = .ok (.iadd, 1) := by decide +kernel
theorem dX6_thing_42 : decode cX6_thing 42 = .ok (.putfield 77, 3) := by decide +kernel
theorem dX6_thing_45 : decode cX6_thing 45 = .ok (.aload_n 0, 1) := by decide +kernel
theorem dX6_thing_46 : decode cX6_thing 46 = .ok (.invokevirtual 63, 3) := by decide +kernel
theorem dX6_thing_49 : decode cX6_thing 49 = .ok (.aload_n 0, 1) := by decide +kernel
theorem dX6_thing_50 : decode cX6_thing 50 = .ok (.getfield 77, 3) := by decide +kernel
theorem dX6_thing_53 : decode cX6_thing 53 = .ok (.iconst 1, 1) := by decide +kernel
theorem dX6_thing_54 : decode cX6_thing 54 = .ok (.isub, 1) := by decide +kernel
theorem dX6_thing_55 : decode cX6_thing 55 = .ok (.ireturn, 1) := by decide +kernel
theorem dX6_count_0 : decode cX6_count 0 = .ok (.aload_n 0, 1) := by decide +kernel
theorem dX6_count_1 : decode cX6_count 1 = .ok (.iload_n 1, 1) := by decide +kernel
theorem dX6_count_2 : decode cX6_count 2 = .ok (.invokevirtual 80, 3) := by decide +kernel
theorem dX6_count_5 : decode cX6_count 5 = .ok (.ifCond .ne 5, 3) := by decide +kernel
theorem dX6_count_8 : decode cX6_count 8 = .ok (.iconst (-1), 1) := by decide +kernel
theorem dX6_count_9 : decode cX6_count 9 = .ok (.ireturn, 1) := by decide +kernel
theorem dX6_count_10 : decode cX6_count 10 = .ok (.iload_n 2, 1) := by decide +kernel
theorem dX6_count_11 : decode cX6_count 11 = .ok (.invokestatic 73, 3) := by decide +kernel
theorem dX6_count_14 : decode cX6_count 14 = .ok (.istore_n 3, 1) := by decide +kernel
theorem dX6_count_15 : decode cX6_count 15 = .ok (.iload_n 3, 1) := by decide +kernel
theorem dX6_count_16 : decode cX6_count 16 = .ok (.iconst 1, 1) := by decide +kernel
theorem dX6_count_17 : decode cX6_count 17 = .ok (.if_icmp .ge 6, 3) := by decide +kernel
theorem dX6_count_20 : decode cX6_count 20 = .ok (.bipush (-2), 2) := by decide +kernel
theorem dX6_count_22 : decode cX6_count 22 = .ok (.ireturn, 1) := by decide +kernel
theorem dX6_count_23 : decode cX6_count 23 = .ok (.aload_n 0, 1) := by decide +kernel
theorem dX6_count_24 : decode cX6_count 24 = .ok (.getfield 13, 3) := by decide +kernel
theorem dX6_count_27 : decode cX6_count 27 = .ok (.iload_n 1, 1) := by decide +kernel
theorem dX6_count_28 : decode cX6_count 28 = .ok (.iaload, 1) := by decide +kernel
theorem dX6_count_29 : decode cX6_count 29 = .ok (.istore 4, 2) := by decide +kernel
theorem dX6_count_31 : decode cX6_count 31 = .ok (.aload_n 0, 1) := by decide +kernel
theorem dX6_count_32 : decode cX6_count 32 = .ok (.getfield 13, 3) := by decide +kernel
theorem dX6_count_35 : decode cX6_count 35 = .ok (.iload_n 1, 1) := by decide +kernel
theorem dX6_count_36 : decode cX6_count 36 = .ok (.iload_n 3, 1) := by decide +kernel
theorem dX6_count_37 : decode cX6_count 37 = .ok (.iastore, 1) := by decide +kernel
theorem dX6_count_38 : decode cX6_count 38 = .ok (.iload 4, 2) := by decide +kernel
theorem dX6_count_40 : decode cX6_count 40 = .ok (.ireturn, 1) := by decide +kernel
theorem dX6_build_0 : decode cX6_build 0 = .ok (.aload_n 0, 1) := by decide +kernel
theorem dX6_build_1 : decode cX6_build 1 = .ok (.iload_n 1, 1) := by decide +kernel
theorem dX6_build_2 : decode cX6_build 2 = .ok (.iload_n 2, 1) := by decide +kernel
theorem dX6_build_3 : decode cX6_build 3 = .ok (.invokevirtual 84, 3) := by decide +kernel
theorem dX6_build_6 : decode cX6_build 6 = .ok (.ifCond .ne 7, 3) := by decide +kernel
theorem dX6_build_9 : decode cX6_build 9 = .ok (.ldc2_w 88, 3) := by decide +kernel
theorem dX6_build_12 : decode cX6_build 12 = .ok (.lreturn, 1) := by decide +kernel
theorem dX6_build_13 : decode cX6_build 13 = .ok (.aload_n 0, 1) := by decide +kernel
theorem dX6_build_14 : decode cX6_build 14 = .ok (.iload_n 1, 1) := by decide +kernel
theorem dX6_build_15 : decode cX6_build 15 = .ok (.invokevirtual 90, 3) := by decide +kernel
theorem dX6_build_18 : decode cX6_build 18 = .ok (.ifCond .ne 7, 3) := by decide +kernel
theorem dX6_build_21 : decode cX6_build 21 = .ok (.ldc2_w 93, 3) := by decide +kernel
theorem dX6_build_24 : decode cX6_build 24 = .ok (.lreturn, 1) := by decide +kernel
theorem dX6_build_25 : decode cX6_build 25 = .ok (.iload_n 1, 1) := by decide +kernel
theorem dX6_build_26 : decode cX6_build 26 = .ok (.ifCond .eq 8, 3) := by decide +kernel
theorem dX6_build_29 : decode cX6_build 29 = .ok (.iload_n 1, 1) := by decide +kernel
theorem dX6_build_30 : decode cX6_build 30 = .ok (.iconst 1, 1) := by decide +kernel
theorem dX6_build_31 : decode cX6_build 31 = .ok (.if_icmp .ne 32, 3) := by decide +kernel
theorem dX6_build_34 : decode cX6_build 34 = .ok (.aload_n 0, 1) := by decide +kernel
theorem dX6_build_35 : decode cX6_build 35 = .ok (.aload_n 0, 1) := by decide +kernel
theorem dX6_build_36 : decode cX6_build 36 = .ok (.getfield 46, 3) := by decide +kernel
theorem dX6_build_39 : decode cX6_build 39 = .ok (.aload_n 0, 1) := by decide +kernel
theorem dX6_build_40 : decode cX6_build 40 = .ok (.getfield 13, 3) := by decide +kernel
theorem dX6_build_43 : decode cX6_build 43 = .ok (.iload_n 1, 1) := by decide +kernel
theorem dX6_build_44 : decode cX6_build 44 = .ok (.iconst 1, 1) := by decide +kernel
theorem dX6_build_45 : decode cX6_build 45 = .ok (.if_icmp .ne 7, 3) := by decide +kernel
theorem dX6_build_48 : decode cX6_build 48 = .ok (.iload_n 2, 1) := by decide +kernel
theorem dX6_build_49 : decode cX6_build 49 = .ok (.goto 4, 3) := by decide +kernel
theorem dX6_build_52 : decode cX6_build 52 = .ok (.iconst 0, 1) := by decide +kernel
theorem dX6_build_53 : decode cX6_build 53 = .ok (.invokevirtual 95, 3) := by decide +kernel
theorem dX6_build_56 : decode cX6_build 56 = .ok (.ifCond .ne 51, 3) := by decide +kernel
theorem dX6_build_59 : decode cX6_build 59 = .ok (.ldc2_w 99, 3) := by decide +kernel
theorem dX6_build_62 : decode cX6_build 62 = .ok (.lreturn, 1) := by decide +kernel
theorem dX6_build_63 : decode cX6_build 63 = .ok (.iload_n 1, 1) := by decide +kernel
theorem dX6_build_64 : decode cX6_build 64 = .ok (.iconst 2, 1) := by decide +kernel
theorem dX6_build_65 : decode cX6_build 65 = .ok (.if_icmp .ne 33, 3) := by decide +kernel
theorem dX6_build_68 : decode cX6_build 68 = .ok (.aload_n 0, 1) := by decide +kernel
theorem dX6_build_69 : decode cX6_build 69 = .ok (.invokevirtual 101, 3) := by decide +kernel
theorem dX6_build_72 : decode cX6_build 72 = .ok (.aload_n 0, 1) := by decide +kernel
theorem dX6_build_73 : decode cX6_build 73 = .ok (.getfield 46, 3) := by decide +kernel
theorem dX6_build_76 : decode cX6_build 76 = .ok (.aload_n 0, 1) := by decide +kernel
theorem dX6_build_77 : decode cX6_build 77 = .ok (.getfield 13, 3) := by decide +kernel
theorem dX6_build_80 : decode cX6_build 80 = .ok (.aload_n 0, 1) := by decide +kernel
theorem dX6_build_81 : decode cX6_build 81 = .ok (.getfield 77, 3) := by decide +kernel
theorem dX6_build_84 : decode cX6_build 84 = .ok (.aload_n 0, 1) := by decide +kernel
theorem dX6_build_85 : decode cX6_build 85 = .ok (.getfield 9, 3) := by decide +kernel
theorem dX6_build_88 : decode cX6_build 88 = .ok (.aload_n 0, 1) := by decide +kernel
theorem dX6_build_89 : decode cX6_build 89 = .ok (.getfield 60, 3) := by decide +kernel
theorem dX6_build_92 : decode cX6_build 92 = .ok (.invokevirtual 105, 3) := by decide +kernel
theorem dX6_build_95 : decode cX6_build 95 = .ok (.goto 12, 3) := by decide +kernel
theorem dX6_build_98 : decode cX6_build 98 = .ok (.aload_n 0, 1) := by decide +kernel
theorem dX6_build_99 : decode cX6_build 99 = .ok (.aload_n 0, 1) := by decide +kernel
theorem dX6_build_100 : decode cX6_build 100 = .ok (.getfield 46, 3) := by decide +kernel
theorem dX6_build_103 : decode cX6_build 103 = .ok (.iload_n 2, 1) := by decide +kernel
theorem dX6_build_104 : decode cX6_build 104 = .ok (.invokevirtual 111, 3) := by decide +kernel
theorem dX6_build_107 : decode cX6_build 107 = .ok (.aload_n 0, 1) := by decide +kernel
theorem dX6_build_108 : decode cX6_build 108 = .ok (.aload_n 0, 1) := by decide +kernel
theorem dX6_build_109 : decode cX6_build 109 = .ok (.getfield 46, 3) := by decide +kernel
theorem dX6_build_112 : decode cX6_build 112 = .ok (.invokevirtual 115, 3) := by decide +kernel
theorem dX6_build_115 : decode cX6_build 115 = .ok (.aload_n 0, 1) := by decide +kernel
theorem dX6_build_116 : decode cX6_build 116 = .ok (.invokevirtual 119, 3) := by decide +kernel
theorem dX6_build_119 : decode cX6_build 119 = .ok (.lreturn, 1) := by decide +kernel
theorem dX6_own_0 : decode cX6_own 0 = .ok (.aload_n 0, 1) := by decide +kernel
theorem dX6_own_1 : decode cX6_own 1 = .ok (.invokevirtual 123, 3) := by decide +kernel
theorem dX6_own_4 : decode cX6_own 4 = .ok (.ifCond .ne 6, 3) := by decide +kernel
theorem dX6_own_7 : decode cX6_own 7 = .ok (.bipush (-3), 2) := by decide +kernel
theorem dX6_own_9 : decode cX6_own 9 = .ok (.ireturn, 1) := by decide +kernel
theorem dX6_own_10 : decode cX6_own 10 = .ok (.aload_n 0, 1) := by decide +kernel
theorem dX6_own_11 : decode cX6_own 11 = .ok (.getfield 42, 3) := by decide +kernel
theorem dX6_own_14 : decode cX6_own 14 = .ok (.aload_n 0, 1) := by decide +kernel
theorem dX6_own_15 : decode cX6_own 15 = .ok (.getfield 77, 3) := by decide +kernel
theorem dX6_own_18 : decode cX6_own 18 = .ok (.invokevirtual 69, 3) := by decide +kernel
theorem dX6_own_21 : decode cX6_own 21 = .ok (.aload_n 0, 1) := by decide +kernel
theorem dX6_own_22 : decode cX6_own 22 = .ok (.iconst 1, 1) := by decide +kernel
theorem dX6_own_23 : decode cX6_own 23 = .ok (.putfield 127, 3) := by decide +kernel
theorem dX6_own_26 : decode cX6_own 26 = .ok (.aload_n 0, 1) := by decide +kernel
theorem dX6_own_27 : decode cX6_own 27 = .ok (.getfield 77, 3) := by decide +kernel
theorem dX6_own_30 : decode cX6_own 30 = .ok (.ireturn, 1) := by decide +kernel
theorem dX6_add_0 : decode cX6_add 0 = .ok (.aload_n 0, 1) := by decide +kernel
theorem dX6_add_1 : decode cX6_add 1 = .ok (.iload_n 1, 1) := by decide +kernel
theorem dX6_add_2 : decode cX6_add 2 = .ok (.invokevirtual 80, 3) := by decide +kernel
theorem dX6_add_5 : decode cX6_add 5 = .ok (.ifCond .eq 11, 3) := by decide +kernel
theorem dX6_add_8 : decode cX6_add 8 = .ok (.aload_n 0, 1) := by decide +kernel
theorem dX6_add_9 : decode cX6_add 9 = .ok (.iload_n 2, 1) := by decide +kernel
theorem dX6_add_10 : decode cX6_add 10 = .ok (.invokevirtual 130, 3) := by decide +kernel
theorem dX6_add_13 : decode cX6_add 13 = .ok (.ifCond .ne 5, 3) := by decide +kernel
theorem dX6_add_16 : decode cX6_add 16 = .ok (.iconst (-1), 1) := by decide +kernel
theorem dX6_add_17 : decode cX6_add 17 = .ok (.ireturn, 1) := by decide +kernel
theorem dX6_add_18 : decode cX6_add 18 = .ok (.aload_n 0, 1) := by decide +kernel
theorem dX6_add_19 : decode cX6_add 19 = .ok (.invokevirtual 133, 3) := by decide +kernel
theorem dX6_add_22 : decode cX6_add 22 = .ok (.ifCond .eq 11, 3) := by decide +kernel
theorem dX6_add_25 : decode cX6_add 25 = .ok (.aload_n 0, 1) := by decide +kernel
theorem dX6_add_26 : decode cX6_add 26 = .ok (.getfield 127, 3) := by decide +kernel
theorem dX6_add_29 : decode cX6_add 29 = .ok (.iconst 1, 1) := by decide +kernel
theorem dX6_add_30 : decode cX6_add 30 = .ok (.if_icmp .eq 6, 3) := by decide +kernel
theorem dX6_add_33 : decode cX6_add 33 = .ok (.bipush (-3), 2) := by decide +kernel
theorem dX6_add_35 : decode cX6_add 35 = .ok (.ireturn, 1) := by decide +kernel
theorem dX6_add_36 : decode cX6_add 36 = .ok (.aload_n 0, 1) := by decide +kernel
theorem dX6_add_37 : decode cX6_add 37 = .ok (.getfield 42, 3) := by decide +kernel
theorem dX6_add_40 : decode cX6_add 40 = .ok (.getfield 136, 3) := by decide +kernel
theorem dX6_add_43 : decode cX6_add 43 = .ok (.iload_n 1, 1) := by decide +kernel
theorem dX6_add_44 : decode cX6_add 44 = .ok (.iaload, 1) := by decide +kernel
theorem dX6_add_45 : decode cX6_add 45 = .ok (.bipush 24, 2) := by decide +kernel
theorem dX6_add_47 : decode cX6_add 47 = .ok (.if_icmp .lt 6, 3) := by decide +kernel
theorem dX6_add_50 : decode cX6_add 50 = .ok (.bipush (-4), 2) := by decide +kernel
theorem dX6_add_52 : decode cX6_add 52 = .ok (.ireturn, 1) := by decide +kernel
theorem dX6_add_53 : decode cX6_add 53 = .ok (.aload_n 0, 1) := by decide +kernel
theorem dX6_add_54 : decode cX6_add 54 = .ok (.getfield 42, 3) := by decide +kernel
theorem dX6_add_57 : decode cX6_add 57 = .ok (.iload_n 1, 1) := by decide +kernel
theorem dX6_add_58 : decode cX6_add 58 = .ok (.aload_n 0, 1) := by decide +kernel
theorem dX6_add_59 : decode cX6_add 59 = .ok (.getfield 42, 3) := by decide +kernel
theorem dX6_add_62 : decode cX6_add 62 = .ok (.getfield 139, 3) := by decide +kernel
theorem dX6_add_65 : decode cX6_add 65 = .ok (.iload_n 1, 1) := by decide +kernel
theorem dX6_add_66 : decode cX6_add 66 = .ok (.laload, 1) := by decide +kernel
theorem dX6_add_67 : decode cX6_add 67 = .ok (.aload_n 0, 1) := by decide +kernel
theorem dX6_add_68 : decode cX6_add 68 = .ok (.getfield 42, 3) := by decide +kernel
theorem dX6_add_71 : decode cX6_add 71 = .ok (.getfield 136, 3) := by decide +kernel
theorem dX6_add_74 : decode cX6_add 74 = .ok (.iload_n 1, 1) := by decide +kernel
theorem dX6_add_75 : decode cX6_add 75 = .ok (.iaload, 1) := by decide +kernel
theorem dX6_add_76 : decode cX6_add 76 = .ok (.iload_n 2, 1) := by decide +kernel
theorem dX6_add_77 : decode cX6_add 77 = .ok (.invokestatic 143, 3) := by decide +kernel
theorem dX6_add_80 : decode cX6_add 80 = .ok (.aload_n 0, 1) := by decide +kernel
theorem dX6_add_81 : decode cX6_add 81 = .ok (.getfield 42, 3) := by decide +kernel
theorem dX6_add_84 : decode cX6_add 84 = .ok (.getfield 136, 3) := by decide +kernel
theorem dX6_add_87 : decode cX6_add 87 = .ok (.iload_n 1, 1) := by decide +kernel
theorem dX6_add_88 : decode cX6_add 88 = .ok (.iaload, 1) := by decide +kernel
theorem dX6_add_89 : decode cX6_add 89 = .ok (.iconst 1, 1) := by decide +kernel
theorem dX6_add_90 : decode cX6_add 90 = .ok (.iadd, 1) := by decide +kernel
theorem dX6_add_91 : decode cX6_add 91 = .ok (.invokevirtual 147, 3) := by decide +kernel
theorem dX6_add_94 : decode cX6_add 94 = .ok (.aload_n 0, 1) := by decide +kernel
theorem dX6_add_95 : decode cX6_add 95 = .ok (.getfield 42, 3) := by decide +kernel
theorem dX6_add_98 : decode cX6_add 98 = .ok (.getfield 136, 3) := by decide +kernel
theorem dX6_add_101 : decode cX6_add 101 = .ok (.iload_n 1, 1) := by decide +kernel
theorem dX6_add_102 : decode cX6_add 102 = .ok (.iaload, 1) := by decide +kernel
theorem dX6_add_103 : decode cX6_add 103 = .ok (.ireturn, 1) := by decide +kernel
theorem dX6_holds_0 : decode cX6_holds 0 = .ok (.aload_n 0, 1) := by decide +kernel
theorem dX6_holds_1 : decode cX6_holds 1 = .ok (.iload_n 1, 1) := by decide +kernel
theorem dX6_holds_2 : decode cX6_holds 2 = .ok (.iload_n 2, 1) := by decide +kernel
theorem dX6_holds_3 : decode cX6_holds 3 = .ok (.invokevirtual 84, 3) := by decide +kernel
theorem dX6_holds_6 : decode cX6_holds 6 = .ok (.ifCond .ne 6, 3) := by decide +kernel
theorem dX6_holds_9 : decode cX6_holds 9 = .ok (.bipush (-2), 2) := by decide +kernel
theorem dX6_holds_11 : decode cX6_holds 11 = .ok (.ireturn, 1) := by decide +kernel
theorem dX6_holds_12 : decode cX6_holds 12 = .ok (.aload_n 0, 1) := by decide +kernel
theorem dX6_holds_13 : decode cX6_holds 13 = .ok (.invokevirtual 133, 3) := by decide +kernel
theorem dX6_holds_16 : decode cX6_holds 16 = .ok (.ifCond .ne 6, 3) := by decide +kernel
theorem dX6_holds_19 : decode cX6_holds 19 = .ok (.bipush (-3), 2) := by decide +kernel
theorem dX6_holds_21 : decode cX6_holds 21 = .ok (.ireturn, 1) := by decide +kernel
theorem dX6_holds_22 : decode cX6_holds 22 = .ok (.iconst 0, 1) := by decide +kernel
theorem dX6_holds_23 : decode cX6_holds 23 = .ok (.istore_n 3, 1) := by decide +kernel
theorem dX6_holds_24 : decode cX6_holds 24 = .ok (.iload_n 3, 1) := by decide +kernel
theorem dX6_holds_25 : decode cX6_holds 25 = .ok (.aload_n 0, 1) := by decide +kernel
theorem dX6_holds_26 : decode cX6_holds 26 = .ok (.getfield 42, 3) := by decide +kernel
theorem dX6_holds_29 : decode cX6_holds 29 = .ok (.getfield 151, 3) := by decide +kernel
theorem dX6_holds_32 : decode cX6_holds 32 = .ok (.if_icmp .ge 61, 3) := by decide +kernel
theorem dX6_holds_35 : decode cX6_holds 35 = .ok (.aload_n 0, 1) := by decide +kernel
theorem dX6_holds_36 : decode cX6_holds 36 = .ok (.iload_n 3, 1) := by decide +kernel
theorem dX6_holds_37 : decode cX6_holds 37 = .ok (.iload_n 1, 1) := by decide +kernel
theorem dX6_holds_38 : decode cX6_holds 38 = .ok (.iload_n 2, 1) := by decide +kernel
theorem dX6_holds_39 : decode cX6_holds 39 = .ok (.invokevirtual 154, 3) := by decide +kernel
theorem dX6_holds_42 : decode cX6_holds 42 = .ok (.istore 4, 2) := by decide +kernel
theorem dX6_holds_44 : decode cX6_holds 44 = .ok (.iload 4, 2) := by decide +kernel
theorem dX6_holds_46 : decode cX6_holds 46 = .ok (.ifCond .eq 8, 3) := by decide +kernel
theorem dX6_holds_49 : decode cX6_holds 49 = .ok (.bipush (-6), 2) := by decide +kernel
theorem dX6_holds_51 : decode cX6_holds 51 = .ok (.goto 9, 3) := by decide +kernel
theorem dX6_holds_54 : decode cX6_holds 54 = .ok (.aload_n 0, 1) := by decide +kernel
theorem dX6_holds_55 : decode cX6_holds 55 = .ok (.iload_n 3, 1) := by decide +kernel
theorem dX6_holds_56 : decode cX6_holds 56 = .ok (.iload_n 1, 1) := by decide +kernel
theorem dX6_holds_57 : decode cX6_holds 57 = .ok (.invokevirtual 158, 3) := by decide +kernel
theorem dX6_holds_60 : decode cX6_holds 60 = .ok (.istore 5, 2) := by decide +kernel
theorem dX6_holds_62 : decode cX6_holds 62 = .ok (.iload 4, 2) := by decide +kernel
theorem dX6_holds_64 : decode cX6_holds 64 = .ok (.ifCond .ne 10, 3) := by decide +kernel
theorem dX6_holds_67 : decode cX6_holds 67 = .ok (.iload 5, 2) := by decide +kernel
theorem dX6_holds_69 : decode cX6_holds 69 = .ok (.bipush (-6), 2) := by decide +kernel
theorem dX6_holds_71 : decode cX6_holds 71 = .ok (.if_icmp .eq 16, 3) := by decide +kernel
theorem dX6_holds_74 : decode cX6_holds 74 = .ok (.aload_n 0, 1) := by decide +kernel
theorem dX6_holds_75 : decode cX6_holds 75 = .ok (.iload_n 3, 1) := by decide +kernel
theorem dX6_holds_76 : decode cX6_holds 76 = .ok (.putfield 53, 3) := by decide +kernel
theorem dX6_holds_79 : decode cX6_holds 79 = .ok (.aload_n 0, 1) := by decide +kernel
theorem dX6_holds_80 : decode cX6_holds 80 = .ok (.iload 5, 2) := by decide +kernel
theorem dX6_holds_82 : decode cX6_holds 82 = .ok (.putfield 57, 3) := by decide +kernel
theorem dX6_holds_85 : decode cX6_holds 85 = .ok (.iconst 0, 1) := by decide +kernel
theorem dX6_holds_86 : decode cX6_holds 86 = .ok (.ireturn, 1) := by decide +kernel
theorem dX6_holds_87 : decode cX6_holds 87 = .ok (.iinc 3 1, 3) := by decide +kernel
theorem dX6_holds_90 : decode cX6_holds 90 = .ok (.goto (-66), 3) := by decide +kernel
theorem dX6_holds_93 : decode cX6_holds 93 = .ok (.iconst 1, 1) := by decide +kernel
theorem dX6_holds_94 : decode cX6_holds 94 = .ok (.ireturn, 1) := by decide +kernel
theorem dX6_broken_0 : decode cX6_broken 0 = .ok (.iload_n 1, 1) := by decide +kernel
theorem dX6_broken_1 : decode cX6_broken 1 = .ok (.ifCond .eq 11, 3) := by decide +kernel
theorem dX6_broken_4 : decode cX6_broken 4 = .ok (.iload_n 1, 1) := by decide +kernel
theorem dX6_broken_5 : decode cX6_broken 5 = .ok (.iconst 1, 1) := by decide +kernel
theorem dX6_broken_6 : decode cX6_broken 6 = .ok (.if_icmp .eq 6, 3) := by decide +kernel
theorem dX6_broken_9 : decode cX6_broken 9 = .ok (.bipush (-2), 2) := by decide +kernel
theorem dX6_broken_11 : decode cX6_broken 11 = .ok (.ireturn, 1) := by decide +kernel
theorem dX6_broken_12 : decode cX6_broken 12 = .ok (.iload_n 1, 1) := by decide +kernel
theorem dX6_broken_13 : decode cX6_broken 13 = .ok (.ifCond .ne 10, 3) := by decide +kernel
theorem dX6_broken_16 : decode cX6_broken 16 = .ok (.aload_n 0, 1) := by decide +kernel
theorem dX6_broken_17 : decode cX6_broken 17 = .ok (.getfield 53, 3) := by decide +kernel
theorem dX6_broken_20 : decode cX6_broken 20 = .ok (.goto 7, 3) := by decide +kernel
theorem dX6_broken_23 : decode cX6_broken 23 = .ok (.aload_n 0, 1) := by decide +kernel
theorem dX6_broken_24 : decode cX6_broken 24 = .ok (.getfield 57, 3) := by decide +kernel
theorem dX6_broken_27 : decode cX6_broken 27 = .ok (.ireturn, 1) := by decide +kernel
theorem dX6_cost_0 : decode cX6_cost 0 = .ok (.aload_n 0, 1) := by decide +kernel
theorem dX6_cost_1 : decode cX6_cost 1 = .ok (.invokevirtual 133, 3) := by decide +kernel
theorem dX6_cost_4 : decode cX6_cost 4 = .ok (.ifCond .eq 10, 3) := by decide +kernel
theorem dX6_cost_7 : decode cX6_cost 7 = .ok (.aload_n 0, 1) := by decide +kernel
theorem dX6_cost_8 : decode cX6_cost 8 = .ok (.invokevirtual 119, 3) := by decide +kernel
theorem dX6_cost_11 : decode cX6_cost 11 = .ok (.goto 6, 3) := by decide +kernel
theorem dX6_cost_14 : decode cX6_cost 14 = .ok (.ldc2_w 93, 3) := by decide +kernel
theorem dX6_cost_17 : decode cX6_cost 17 = .ok (.lreturn, 1) := by decide +kernel
theorem dX6_mean_0 : decode cX6_mean 0 = .ok (.aload_n 0, 1) := by decide +kernel
theorem dX6_mean_1 : decode cX6_mean 1 = .ok (.invokevirtual 133, 3) := by decide +kernel
theorem dX6_mean_4 : decode cX6_mean 4 = .ok (.ifCond .ne 7, 3) := by decide +kernel
theorem dX6_mean_7 : decode cX6_mean 7 = .ok (.ldc2_w 93, 3) := by decide +kernel
theorem dX6_mean_10 : decode cX6_mean 10 = .ok (.lreturn, 1) := by decide +kernel
theorem dX6_mean_11 : decode cX6_mean 11 = .ok (.lconst 0, 1) := by decide +kernel
theorem dX6_mean_12 : decode cX6_mean 12 = .ok (.lstore_n 1, 1) := by decide +kernel
theorem dX6_mean_13 : decode cX6_mean 13 = .ok (.iconst 0, 1) := by decide +kernel
theorem dX6_mean_14 : decode cX6_mean 14 = .ok (.istore_n 3, 1) := by decide +kernel
theorem dX6_mean_15 : decode cX6_mean 15 = .ok (.iload_n 3, 1) := by decide +kernel
theorem dX6_mean_16 : decode cX6_mean 16 = .ok (.aload_n 0, 1) := by decide +kernel
theorem dX6_mean_17 : decode cX6_mean 17 = .ok (.getfield 77, 3) := by decide +kernel
theorem dX6_mean_20 : decode cX6_mean 20 = .ok (.if_icmp .ge 19, 3) := by decide +kernel
theorem dX6_mean_23 : decode cX6_mean 23 = .ok (.lload_n 1, 1) := by decide +kernel
theorem dX6_mean_24 : decode cX6_mean 24 = .ok (.aload_n 0, 1) := by decide +kernel
theorem dX6_mean_25 : decode cX6_mean 25 = .ok (.getfield 13, 3) := by decide +kernel
theorem dX6_mean_28 : decode cX6_mean 28 = .ok (.iload_n 3, 1) := by decide +kernel
theorem dX6_mean_29 : decode cX6_mean 29 = .ok (.iaload, 1) := by decide +kernel
theorem dX6_mean_30 : decode cX6_mean 30 = .ok (.i2l, 1) := by decide +kernel
theorem dX6_mean_31 : decode cX6_mean 31 = .ok (.ladd, 1) := by decide +kernel
theorem dX6_mean_32 : decode cX6_mean 32 = .ok (.lstore_n 1, 1) := by decide +kernel
theorem dX6_mean_33 : decode cX6_mean 33 = .ok (.iinc 3 1, 3) := by decide +kernel
theorem dX6_mean_36 : decode cX6_mean 36 = .ok (.goto (-21), 3) := by decide +kernel
theorem dX6_mean_39 : decode cX6_mean 39 = .ok (.lload_n 1, 1) := by decide +kernel
theorem dX6_mean_40 : decode cX6_mean 40 = .ok (.lconst 1, 1) := by decide +kernel
theorem dX6_mean_41 : decode cX6_mean 41 = .ok (.lcmp, 1) := by decide +kernel
theorem dX6_mean_42 : decode cX6_mean 42 = .ok (.ifCond .ge 9, 3) := by decide +kernel
theorem dX6_mean_45 : decode cX6_mean 45 = .ok (.ldc2_w 93, 3) := by decide +kernel
theorem dX6_mean_48 : decode cX6_mean 48 = .ok (.goto 14, 3) := by decide +kernel
theorem dX6_mean_51 : decode cX6_mean 51 = .ok (.aload_n 0, 1) := by decide +kernel
theorem dX6_mean_52 : decode cX6_mean 52 = .ok (.invokevirtual 119, 3) := by decide +kernel
theorem dX6_mean_55 : decode cX6_mean 55 = .ok (.l2d, 1) := by decide +kernel
theorem dX6_mean_56 : decode cX6_mean 56 = .ok (.lload_n 1, 1) := by decide +kernel
theorem dX6_mean_57 : decode cX6_mean 57 = .ok (.l2d, 1) := by decide +kernel
theorem dX6_mean_58 : decode cX6_mean 58 = .ok (.ddiv, 1) := by decide +kernel
theorem dX6_mean_59 : decode cX6_mean 59 = .ok (.invokestatic 162, 3) := by decide +kernel
theorem dX6_mean_62 : decode cX6_mean 62 = .ok (.lreturn, 1) := by decide +kernel
theorem dX6_length_0 : decode cX6_length 0 = .ok (.aload_n 0, 1) := by decide +kernel
theorem dX6_length_1 : decode cX6_length 1 = .ok (.iload_n 1, 1) := by decide +kernel
theorem dX6_length_2 : decode cX6_length 2 = .ok (.invokevirtual 80, 3) := by decide +kernel
theorem dX6_length_5 : decode cX6_length 5 = .ok (.ifCond .ne 5, 3) := by decide +kernel
theorem dX6_length_8 : decode cX6_length 8 = .ok (.iconst (-1), 1) := by decide +kernel
theorem dX6_length_9 : decode cX6_length 9 = .ok (.ireturn, 1) := by decide +kernel
theorem dX6_length_10 : decode cX6_length 10 = .ok (.aload_n 0, 1) := by decide +kernel
theorem dX6_length_11 : decode cX6_length 11 = .ok (.invokevirtual 133, 3) := by decide +kernel
theorem dX6_length_14 : decode cX6_length 14 = .ok (.ifCond .eq 15, 3) := by decide +kernel
theorem dX6_length_17 : decode cX6_length 17 = .ok (.aload_n 0, 1) := by decide +kernel
theorem dX6_length_18 : decode cX6_length 18 = .ok (.getfield 42, 3) := by decide +kernel
theorem dX6_length_21 : decode cX6_length 21 = .ok (.getfield 136, 3) := by decide +kernel
theorem dX6_length_24 : decode cX6_length 24 = .ok (.iload_n 1, 1) := by decide +kernel
theorem dX6_length_25 : decode cX6_length 25 = .ok (.iaload, 1) := by decide +kernel
theorem dX6_length_26 : decode cX6_length 26 = .ok (.goto 5, 3) := by decide +kernel
theorem dX6_length_29 : decode cX6_length 29 = .ok (.bipush (-3), 2) := by decide +kernel
theorem dX6_length_31 : decode cX6_length 31 = .ok (.ireturn, 1) := by decide +kernel
theorem dX6_word_0 : decode cX6_word 0 = .ok (.aload_n 0, 1) := by decide +kernel
theorem dX6_word_1 : decode cX6_word 1 = .ok (.iload_n 1, 1) := by decide +kernel
theorem dX6_word_2 : decode cX6_word 2 = .ok (.invokevirtual 80, 3) := by decide +kernel
theorem dX6_word_5 : decode cX6_word 5 = .ok (.ifCond .ne 5, 3) := by decide +kernel
theorem dX6_word_8 : decode cX6_word 8 = .ok (.iconst (-1), 1) := by decide +kernel
theorem dX6_word_9 : decode cX6_word 9 = .ok (.ireturn, 1) := by decide +kernel
theorem dX6_word_10 : decode cX6_word 10 = .ok (.aload_n 0, 1) := by decide +kernel
theorem dX6_word_11 : decode cX6_word 11 = .ok (.invokevirtual 133, 3) := by decide +kernel
theorem dX6_word_14 : decode cX6_word 14 = .ok (.ifCond .ne 6, 3) := by decide +kernel
theorem dX6_word_17 : decode cX6_word 17 = .ok (.bipush (-3), 2) := by decide +kernel
theorem dX6_word_19 : decode cX6_word 19 = .ok (.ireturn, 1) := by decide +kernel
theorem dX6_word_20 : decode cX6_word 20 = .ok (.iload_n 2, 1) := by decide +kernel
theorem dX6_word_21 : decode cX6_word 21 = .ok (.ifCond .lt 16, 3) := by decide +kernel
theorem dX6_word_24 : decode cX6_word 24 = .ok (.iload_n 2, 1) := by decide +kernel
theorem dX6_word_25 : decode cX6_word 25 = .ok (.aload_n 0, 1) := by decide +kernel
theorem dX6_word_26 : decode cX6_word 26 = .ok (.getfield 42, 3) := by decide +kernel
theorem dX6_word_29 : decode cX6_word 29 = .ok (.getfield 136, 3) := by decide +kernel
theorem dX6_word_32 : decode cX6_word 32 = .ok (.iload_n 1, 1) := by decide +kernel
theorem dX6_word_33 : decode cX6_word 33 = .ok (.iaload, 1) := by decide +kernel
theorem dX6_word_34 : decode cX6_word 34 = .ok (.if_icmp .lt 8, 3) := by decide +kernel
theorem dX6_word_37 : decode cX6_word 37 = .ok (.bipush (-6), 2) := by decide +kernel
theorem dX6_word_39 : decode cX6_word 39 = .ok (.goto 16, 3) := by decide +kernel
theorem dX6_word_42 : decode cX6_word 42 = .ok (.aload_n 0, 1) := by decide +kernel
theorem dX6_word_43 : decode cX6_word 43 = .ok (.getfield 42, 3) := by decide +kernel
theorem dX6_word_46 : decode cX6_word 46 = .ok (.getfield 139, 3) := by decide +kernel
theorem dX6_word_49 : decode cX6_word 49 = .ok (.iload_n 1, 1) := by decide +kernel
theorem dX6_word_50 : decode cX6_word 50 = .ok (.laload, 1) := by decide +kernel
theorem dX6_word_51 : decode cX6_word 51 = .ok (.iload_n 2, 1) := by decide +kernel
theorem dX6_word_52 : decode cX6_word 52 = .ok (.invokestatic 166, 3) := by decide +kernel
theorem dX6_word_55 : decode cX6_word 55 = .ok (.ireturn, 1) := by decide +kernel
theorem dX6_room_0 : decode cX6_room 0 = .ok (.aload_n 0, 1) := by decide +kernel
theorem dX6_room_1 : decode cX6_room 1 = .ok (.invokevirtual 133, 3) := by decide +kernel
theorem dX6_room_4 : decode cX6_room 4 = .ok (.ifCond .eq 11, 3) := by decide +kernel
theorem dX6_room_7 : decode cX6_room 7 = .ok (.aload_n 0, 1) := by decide +kernel
theorem dX6_room_8 : decode cX6_room 8 = .ok (.getfield 60, 3) := by decide +kernel
theorem dX6_room_11 : decode cX6_room 11 = .ok (.iconst 1, 1) := by decide +kernel
theorem dX6_room_12 : decode cX6_room 12 = .ok (.if_icmp .ge 7, 3) := by decide +kernel
theorem dX6_room_15 : decode cX6_room 15 = .ok (.ldc2_w 93, 3) := by decide +kernel
theorem dX6_room_18 : decode cX6_room 18 = .ok (.lreturn, 1) := by decide +kernel
theorem dX6_room_19 : decode cX6_room 19 = .ok (.dconst 0, 1) := by decide +kernel
theorem dX6_room_20 : decode cX6_room 20 = .ok (.dstore_n 1, 1) := by decide +kernel
theorem dX6_room_21 : decode cX6_room 21 = .ok (.iconst 0, 1) := by decide +kernel
theorem dX6_room_22 : decode cX6_room 22 = .ok (.istore_n 3, 1) := by decide +kernel
theorem dX6_room_23 : decode cX6_room 23 = .ok (.iload_n 3, 1) := by decide +kernel
theorem dX6_room_24 : decode cX6_room 24 = .ok (.aload_n 0, 1) := by decide +kernel
theorem dX6_room_25 : decode cX6_room 25 = .ok (.getfield 42, 3) := by decide +kernel
theorem dX6_room_28 : decode cX6_room 28 = .ok (.getfield 151, 3) := by decide +kernel
theorem dX6_room_31 : decode cX6_room 31 = .ok (.if_icmp .ge 50, 3) := by decide +kernel
theorem dX6_room_34 : decode cX6_room 34 = .ok (.dconst 1, 1) := by decide +kernel
theorem dX6_room_35 : decode cX6_room 35 = .ok (.dstore 4, 2) := by decide +kernel
theorem dX6_room_37 : decode cX6_room 37 = .ok (.iconst 0, 1) := by decide +kernel
theorem dX6_room_38 : decode cX6_room 38 = .ok (.istore 6, 2) := by decide +kernel
theorem dX6_room_40 : decode cX6_room 40 = .ok (.iload 6, 2) := by decide +kernel
theorem dX6_room_42 : decode cX6_room 42 = .ok (.aload_n 0, 1) := by decide +kernel
theorem dX6_room_43 : decode cX6_room 43 = .ok (.getfield 42, 3) := by decide +kernel
theorem dX6_room_46 : decode cX6_room 46 = .ok (.getfield 136, 3) := by decide +kernel
theorem dX6_room_49 : decode cX6_room 49 = .ok (.iload_n 3, 1) := by decide +kernel
theorem dX6_room_50 : decode cX6_room 50 = .ok (.iaload, 1) := by decide +kernel
theorem dX6_room_51 : decode cX6_room 51 = .ok (.if_icmp .ge 19, 3) := by decide +kernel
theorem dX6_room_54 : decode cX6_room 54 = .ok (.dload 4, 2) := by decide +kernel
theorem dX6_room_56 : decode cX6_room 56 = .ok (.aload_n 0, 1) := by decide +kernel
theorem dX6_room_57 : decode cX6_room 57 = .ok (.getfield 60, 3) := by decide +kernel
theorem dX6_room_60 : decode cX6_room 60 = .ok (.i2d, 1) := by decide +kernel
theorem dX6_room_61 : decode cX6_room 61 = .ok (.ddiv, 1) := by decide +kernel
theorem dX6_room_62 : decode cX6_room 62 = .ok (.dstore 4, 2) := by decide +kernel
theorem dX6_room_64 : decode cX6_room 64 = .ok (.iinc 6 1, 3) := by decide +kernel
theorem dX6_room_67 : decode cX6_room 67 = .ok (.goto (-27), 3) := by decide +kernel
theorem dX6_room_70 : decode cX6_room 70 = .ok (.dload_n 1, 1) := by decide +kernel
theorem dX6_room_71 : decode cX6_room 71 = .ok (.dload 4, 2) := by decide +kernel
theorem dX6_room_73 : decode cX6_room 73 = .ok (.dadd, 1) := by decide +kernel
theorem dX6_room_74 : decode cX6_room 74 = .ok (.dstore_n 1, 1) := by decide +kernel
theorem dX6_room_75 : decode cX6_room 75 = .ok (.iinc 3 1, 3) := by decide +kernel
theorem dX6_room_78 : decode cX6_room 78 = .ok (.goto (-55), 3) := by decide +kernel
theorem dX6_room_81 : decode cX6_room 81 = .ok (.dload_n 1, 1) := by decide +kernel
theorem dX6_room_82 : decode cX6_room 82 = .ok (.invokestatic 162, 3) := by decide +kernel
theorem dX6_room_85 : decode cX6_room 85 = .ok (.lreturn, 1) := by decide +kernel
theorem dX6_full_0 : decode cX6_full 0 = .ok (.aload_n 0, 1) := by decide +kernel
theorem dX6_full_1 : decode cX6_full 1 = .ok (.invokevirtual 133, 3) := by decide +kernel
theorem dX6_full_4 : decode cX6_full 4 = .ok (.ifCond .ne 6, 3) := by decide +kernel
theorem dX6_full_7 : decode cX6_full 7 = .ok (.bipush (-3), 2) := by decide +kernel
theorem dX6_full_9 : decode cX6_full 9 = .ok (.ireturn, 1) := by decide +kernel
theorem dX6_full_10 : decode cX6_full 10 = .ok (.aload_n 0, 1) := by decide +kernel
theorem dX6_full_11 : decode cX6_full 11 = .ok (.getfield 42, 3) := by decide +kernel
theorem dX6_full_14 : decode cX6_full 14 = .ok (.invokevirtual 170, 3) := by decide +kernel
theorem dX6_full_17 : decode cX6_full 17 = .ok (.ifCond .ne 6, 3) := by decide +kernel
theorem dX6_full_20 : decode cX6_full 20 = .ok (.bipush (-5), 2) := by decide +kernel
theorem dX6_full_22 : decode cX6_full 22 = .ok (.ireturn, 1) := by decide +kernel
theorem dX6_full_23 : decode cX6_full 23 = .ok (.lconst 0, 1) := by decide +kernel
theorem dX6_full_24 : decode cX6_full 24 = .ok (.lstore_n 1, 1) := by decide +kernel
theorem dX6_full_25 : decode cX6_full 25 = .ok (.iconst 0, 1) := by decide +kernel
theorem dX6_full_26 : decode cX6_full 26 = .ok (.istore_n 3, 1) := by decide +kernel
theorem dX6_full_27 : decode cX6_full 27 = .ok (.iload_n 3, 1) := by decide +kernel
theorem dX6_full_28 : decode cX6_full 28 = .ok (.aload_n 0, 1) := by decide +kernel
theorem dX6_full_29 : decode cX6_full 29 = .ok (.getfield 42, 3) := by decide +kernel
theorem dX6_full_32 : decode cX6_full 32 = .ok (.getfield 151, 3) := by decide +kernel
theorem dX6_full_35 : decode cX6_full 35 = .ok (.if_icmp .ge 28, 3) := by decide +kernel
theorem dX6_full_38 : decode cX6_full 38 = .ok (.lload_n 1, 1) := by decide +kernel
theorem dX6_full_39 : decode cX6_full 39 = .ok (.aload_n 0, 1) := by decide +kernel
theorem dX6_full_40 : decode cX6_full 40 = .ok (.bipush 24, 2) := by decide +kernel
theorem dX6_full_42 : decode cX6_full 42 = .ok (.aload_n 0, 1) := by decide +kernel
theorem dX6_full_43 : decode cX6_full 43 = .ok (.getfield 42, 3) := by decide +kernel
theorem dX6_full_46 : decode cX6_full 46 = .ok (.getfield 136, 3) := by decide +kernel
theorem dX6_full_49 : decode cX6_full 49 = .ok (.iload_n 3, 1) := by decide +kernel
theorem dX6_full_50 : decode cX6_full 50 = .ok (.iaload, 1) := by decide +kernel
theorem dX6_full_51 : decode cX6_full 51 = .ok (.isub, 1) := by decide +kernel
theorem dX6_full_52 : decode cX6_full 52 = .ok (.invokevirtual 173, 3) := by decide +kernel
theorem dX6_full_55 : decode cX6_full 55 = .ok (.ladd, 1) := by decide +kernel
theorem dX6_full_56 : decode cX6_full 56 = .ok (.lstore_n 1, 1) := by decide +kernel
theorem dX6_full_57 : decode cX6_full 57 = .ok (.iinc 3 1, 3) := by decide +kernel
theorem dX6_full_60 : decode cX6_full 60 = .ok (.goto (-33), 3) := by decide +kernel
theorem dX6_full_63 : decode cX6_full 63 = .ok (.lload_n 1, 1) := by decide +kernel
theorem dX6_full_64 : decode cX6_full 64 = .ok (.aload_n 0, 1) := by decide +kernel
theorem dX6_full_65 : decode cX6_full 65 = .ok (.bipush 24, 2) := by decide +kernel
theorem dX6_full_67 : decode cX6_full 67 = .ok (.invokevirtual 173, 3) := by decide +kernel
theorem dX6_full_70 : decode cX6_full 70 = .ok (.lcmp, 1) := by decide +kernel
theorem dX6_full_71 : decode cX6_full 71 = .ok (.ifCond .ne 7, 3) := by decide +kernel
theorem dX6_full_74 : decode cX6_full 74 = .ok (.iconst 1, 1) := by decide +kernel
theorem dX6_full_75 : decode cX6_full 75 = .ok (.goto 4, 3) := by decide +kernel
theorem dX6_full_78 : decode cX6_full 78 = .ok (.iconst 0, 1) := by decide +kernel
theorem dX6_full_79 : decode cX6_full 79 = .ok (.ireturn, 1) := by decide +kernel
theorem dX6_canon_0 : decode cX6_canon 0 = .ok (.aload_n 0, 1) := by decide +kernel
theorem dX6_canon_1 : decode cX6_canon 1 = .ok (.invokevirtual 133, 3) := by decide +kernel
theorem dX6_canon_4 : decode cX6_canon 4 = .ok (.ifCond .ne 6, 3) := by decide +kernel
theorem dX6_canon_7 : decode cX6_canon 7 = .ok (.bipush (-3), 2) := by decide +kernel
theorem dX6_canon_9 : decode cX6_canon 9 = .ok (.ireturn, 1) := by decide +kernel
theorem dX6_canon_10 : decode cX6_canon 10 = .ok (.aload_n 0, 1) := by decide +kernel
theorem dX6_canon_11 : decode cX6_canon 11 = .ok (.aload_n 0, 1) := by decide +kernel
theorem dX6_canon_12 : decode cX6_canon 12 = .ok (.getfield 46, 3) := by decide +kernel
theorem dX6_canon_15 : decode cX6_canon 15 = .ok (.invokevirtual 177, 3) := by decide +kernel
theorem dX6_canon_18 : decode cX6_canon 18 = .ok (.ifCond .ne 6, 3) := by decide +kernel
theorem dX6_canon_21 : decode cX6_canon 21 = .ok (.bipush (-5), 2) := by decide +kernel
theorem dX6_canon_23 : decode cX6_canon 23 = .ok (.ireturn, 1) := by decide +kernel
theorem dX6_canon_24 : decode cX6_canon 24 = .ok (.aload_n 0, 1) := by decide +kernel
theorem dX6_canon_25 : decode cX6_canon 25 = .ok (.aload_n 0, 1) := by decide +kernel
theorem dX6_canon_26 : decode cX6_canon 26 = .ok (.getfield 46, 3) := by decide +kernel
theorem dX6_canon_29 : decode cX6_canon 29 = .ok (.invokevirtual 115, 3) := by decide +kernel
theorem dX6_canon_32 : decode cX6_canon 32 = .ok (.iconst 1, 1) := by decide +kernel
theorem dX6_canon_33 : decode cX6_canon 33 = .ok (.ireturn, 1) := by decide +kernel
theorem dX6_node_0 : decode cX6_node 0 = .ok (.aload_n 0, 1) := by decide +kernel
theorem dX6_node_1 : decode cX6_node 1 = .ok (.iload_n 1, 1) := by decide +kernel
theorem dX6_node_2 : decode cX6_node 2 = .ok (.invokevirtual 80, 3) := by decide +kernel
theorem dX6_node_5 : decode cX6_node 5 = .ok (.ifCond .eq 16, 3) := by decide +kernel
theorem dX6_node_8 : decode cX6_node 8 = .ok (.aload_n 0, 1) := by decide +kernel
theorem dX6_node_9 : decode cX6_node 9 = .ok (.iload_n 2, 1) := by decide +kernel
theorem dX6_node_10 : decode cX6_node 10 = .ok (.invokevirtual 80, 3) := by decide +kernel
theorem dX6_node_13 : decode cX6_node 13 = .ok (.ifCond .eq 8, 3) := by decide +kernel
theorem dX6_node_16 : decode cX6_node 16 = .ok (.iload_n 1, 1) := by decide +kernel
theorem dX6_node_17 : decode cX6_node 17 = .ok (.iload_n 2, 1) := by decide +kernel
theorem dX6_node_18 : decode cX6_node 18 = .ok (.if_icmp .le 7, 3) := by decide +kernel
theorem dX6_node_21 : decode cX6_node 21 = .ok (.ldc2_w 181, 3) := by decide +kernel
theorem dX6_node_24 : decode cX6_node 24 = .ok (.lreturn, 1) := by decide +kernel
theorem dX6_node_25 : decode cX6_node 25 = .ok (.aload_n 0, 1) := by decide +kernel
theorem dX6_node_26 : decode cX6_node 26 = .ok (.getfield 60, 3) := by decide +kernel
theorem dX6_node_29 : decode cX6_node 29 = .ok (.iconst 2, 1) := by decide +kernel
theorem dX6_node_30 : decode cX6_node 30 = .ok (.if_icmp .ge 7, 3) := by decide +kernel
theorem dX6_node_33 : decode cX6_node 33 = .ok (.ldc2_w 93, 3) := by decide +kernel
theorem dX6_node_36 : decode cX6_node 36 = .ok (.lreturn, 1) := by decide +kernel
theorem dX6_node_37 : decode cX6_node 37 = .ok (.aload_n 0, 1) := by decide +kernel
theorem dX6_node_38 : decode cX6_node 38 = .ok (.invokevirtual 101, 3) := by decide +kernel
theorem dX6_node_41 : decode cX6_node 41 = .ok (.astore_n 3, 1) := by decide +kernel
theorem dX6_node_42 : decode cX6_node 42 = .ok (.aload_n 3, 1) := by decide +kernel
theorem dX6_node_43 : decode cX6_node 43 = .ok (.aload_n 0, 1) := by decide +kernel
theorem dX6_node_44 : decode cX6_node 44 = .ok (.getfield 13, 3) := by decide +kernel
theorem dX6_node_47 : decode cX6_node 47 = .ok (.iload_n 1, 1) := by decide +kernel
theorem dX6_node_48 : decode cX6_node 48 = .ok (.iload_n 2, 1) := by decide +kernel
theorem dX6_node_49 : decode cX6_node 49 = .ok (.aload_n 0, 1) := by decide +kernel
theorem dX6_node_50 : decode cX6_node 50 = .ok (.getfield 9, 3) := by decide +kernel
theorem dX6_node_53 : decode cX6_node 53 = .ok (.aload_n 0, 1) := by decide +kernel
theorem dX6_node_54 : decode cX6_node 54 = .ok (.getfield 60, 3) := by decide +kernel
theorem dX6_node_57 : decode cX6_node 57 = .ok (.invokevirtual 183, 3) := by decide +kernel
theorem dX6_node_60 : decode cX6_node 60 = .ok (.aload_n 3, 1) := by decide +kernel
theorem dX6_node_61 : decode cX6_node 61 = .ok (.iload_n 1, 1) := by decide +kernel
theorem dX6_node_62 : decode cX6_node 62 = .ok (.iload_n 2, 1) := by decide +kernel
theorem dX6_node_63 : decode cX6_node 63 = .ok (.invokevirtual 187, 3) := by decide +kernel
theorem dX6_node_66 : decode cX6_node 66 = .ok (.lreturn, 1) := by decide +kernel
theorem dX6_write_0 : decode cX6_write 0 = .ok (.aload_n 0, 1) := by decide +kernel
theorem dX6_write_1 : decode cX6_write 1 = .ok (.iload_n 1, 1) := by decide +kernel
theorem dX6_write_2 : decode cX6_write 2 = .ok (.invokevirtual 80, 3) := by decide +kernel
theorem dX6_write_5 : decode cX6_write 5 = .ok (.ifCond .ne 5, 3) := by decide +kernel
theorem dX6_write_8 : decode cX6_write 8 = .ok (.iconst (-1), 1) := by decide +kernel
theorem dX6_write_9 : decode cX6_write 9 = .ok (.ireturn, 1) := by decide +kernel
theorem dX6_write_10 : decode cX6_write 10 = .ok (.aload_n 0, 1) := by decide +kernel
theorem dX6_write_11 : decode cX6_write 11 = .ok (.invokevirtual 133, 3) := by decide +kernel
theorem dX6_write_14 : decode cX6_write 14 = .ok (.ifCond .ne 6, 3) := by decide +kernel
theorem dX6_write_17 : decode cX6_write 17 = .ok (.bipush (-3), 2) := by decide +kernel
theorem dX6_write_19 : decode cX6_write 19 = .ok (.ireturn, 1) := by decide +kernel
theorem dX6_write_20 : decode cX6_write 20 = .ok (.aload_n 0, 1) := by decide +kernel
theorem dX6_write_21 : decode cX6_write 21 = .ok (.getfield 28, 3) := by decide +kernel
theorem dX6_write_24 : decode cX6_write 24 = .ok (.aload_n 0, 1) := by decide +kernel
theorem dX6_write_25 : decode cX6_write 25 = .ok (.getfield 42, 3) := by decide +kernel
theorem dX6_write_28 : decode cX6_write 28 = .ok (.iload_n 1, 1) := by decide +kernel
theorem dX6_write_29 : decode cX6_write 29 = .ok (.invokevirtual 191, 3) := by decide +kernel
theorem dX6_write_32 : decode cX6_write 32 = .ok (.ifCond .eq 13, 3) := by decide +kernel
theorem dX6_write_35 : decode cX6_write 35 = .ok (.aload_n 0, 1) := by decide +kernel
theorem dX6_write_36 : decode cX6_write 36 = .ok (.getfield 28, 3) := by decide +kernel
theorem dX6_write_39 : decode cX6_write 39 = .ok (.getfield 66, 3) := by decide +kernel
theorem dX6_write_42 : decode cX6_write 42 = .ok (.goto 5, 3) := by decide +kernel
theorem dX6_write_45 : decode cX6_write 45 = .ok (.bipush (-4), 2) := by decide +kernel
theorem dX6_write_47 : decode cX6_write 47 = .ok (.ireturn, 1) := by decide +kernel
theorem dX6_put_0 : decode cX6_put 0 = .ok (.aload_n 0, 1) := by decide +kernel
theorem dX6_put_1 : decode cX6_put 1 = .ok (.iload_n 1, 1) := by decide +kernel
theorem dX6_put_2 : decode cX6_put 2 = .ok (.invokevirtual 130, 3) := by decide +kernel
theorem dX6_put_5 : decode cX6_put 5 = .ok (.ifCond .ne 5, 3) := by decide +kernel
theorem dX6_put_8 : decode cX6_put 8 = .ok (.iconst (-1), 1) := by decide +kernel
theorem dX6_put_9 : decode cX6_put 9 = .ok (.ireturn, 1) := by decide +kernel
theorem dX6_put_10 : decode cX6_put 10 = .ok (.aload_n 0, 1) := by decide +kernel
theorem dX6_put_11 : decode cX6_put 11 = .ok (.getfield 28, 3) := by decide +kernel
theorem dX6_put_14 : decode cX6_put 14 = .ok (.getfield 66, 3) := by decide +kernel
theorem dX6_put_17 : decode cX6_put 17 = .ok (.sipush 200, 3) := by decide +kernel
theorem dX6_put_20 : decode cX6_put 20 = .ok (.if_icmp .lt 6, 3) := by decide +kernel
theorem dX6_put_23 : decode cX6_put 23 = .ok (.bipush (-4), 2) := by decide +kernel
theorem dX6_put_25 : decode cX6_put 25 = .ok (.ireturn, 1) := by decide +kernel
theorem dX6_put_26 : decode cX6_put 26 = .ok (.aload_n 0, 1) := by decide +kernel
theorem dX6_put_27 : decode cX6_put 27 = .ok (.getfield 28, 3) := by decide +kernel
theorem dX6_put_30 : decode cX6_put 30 = .ok (.iload_n 1, 1) := by decide +kernel
theorem dX6_put_31 : decode cX6_put 31 = .ok (.invokevirtual 195, 3) := by decide +kernel
theorem dX6_put_34 : decode cX6_put 34 = .ok (.aload_n 0, 1) := by decide +kernel
theorem dX6_put_35 : decode cX6_put 35 = .ok (.getfield 28, 3) := by decide +kernel
theorem dX6_put_38 : decode cX6_put 38 = .ok (.getfield 66, 3) := by decide +kernel
theorem dX6_put_41 : decode cX6_put 41 = .ok (.ireturn, 1) := by decide +kernel
theorem dX6_wipe_0 : decode cX6_wipe 0 = .ok (.aload_n 0, 1) := by decide +kernel
theorem dX6_wipe_1 : decode cX6_wipe 1 = .ok (.getfield 28, 3) := by decide +kernel
theorem dX6_wipe_4 : decode cX6_wipe 4 = .ok (.getfield 66, 3) := by decide +kernel
theorem dX6_wipe_7 : decode cX6_wipe 7 = .ok (.istore_n 1, 1) := by decide +kernel
theorem dX6_wipe_8 : decode cX6_wipe 8 = .ok (.aload_n 0, 1) := by decide +kernel
theorem dX6_wipe_9 : decode cX6_wipe 9 = .ok (.getfield 28, 3) := by decide +kernel
theorem dX6_wipe_12 : decode cX6_wipe 12 = .ok (.iconst 0, 1) := by decide +kernel
theorem dX6_wipe_13 : decode cX6_wipe 13 = .ok (.putfield 66, 3) := by decide +kernel
theorem dX6_wipe_16 : decode cX6_wipe 16 = .ok (.iload_n 1, 1) := by decide +kernel
theorem dX6_wipe_17 : decode cX6_wipe 17 = .ok (.ireturn, 1) := by decide +kernel
theorem dX6_line_0 : decode cX6_line 0 = .ok (.iload_n 1, 1) := by decide +kernel
theorem dX6_line_1 : decode cX6_line 1 = .ok (.ifCond .lt 14, 3) := by decide +kernel
theorem dX6_line_4 : decode cX6_line 4 = .ok (.iload_n 1, 1) := by decide +kernel
theorem dX6_line_5 : decode cX6_line 5 = .ok (.aload_n 0, 1) := by decide +kernel
theorem dX6_line_6 : decode cX6_line 6 = .ok (.getfield 28, 3) := by decide +kernel
theorem dX6_line_9 : decode cX6_line 9 = .ok (.getfield 66, 3) := by decide +kernel
theorem dX6_line_12 : decode cX6_line 12 = .ok (.if_icmp .lt 8, 3) := by decide +kernel
theorem dX6_line_15 : decode cX6_line 15 = .ok (.bipush (-6), 2) := by decide +kernel
theorem dX6_line_17 : decode cX6_line 17 = .ok (.goto 12, 3) := by decide +kernel
theorem dX6_line_20 : decode cX6_line 20 = .ok (.aload_n 0, 1) := by decide +kernel
theorem dX6_line_21 : decode cX6_line 21 = .ok (.getfield 28, 3) := by decide +kernel
theorem dX6_line_24 : decode cX6_line 24 = .ok (.getfield 198, 3) := by decide +kernel
theorem dX6_line_27 : decode cX6_line 27 = .ok (.iload_n 1, 1) := by decide +kernel
theorem dX6_line_28 : decode cX6_line 28 = .ok (.iaload, 1) := by decide +kernel
theorem dX6_line_29 : decode cX6_line 29 = .ok (.ireturn, 1) := by decide +kernel
theorem dX6_read_0 : decode cX6_read 0 = .ok (.aload_n 0, 1) := by decide +kernel
theorem dX6_read_1 : decode cX6_read 1 = .ok (.invokevirtual 133, 3) := by decide +kernel
theorem dX6_read_4 : decode cX6_read 4 = .ok (.ifCond .ne 6, 3) := by decide +kernel
theorem dX6_read_7 : decode cX6_read 7 = .ok (.bipush (-3), 2) := by decide +kernel
theorem dX6_read_9 : decode cX6_read 9 = .ok (.ireturn, 1) := by decide +kernel
theorem dX6_read_10 : decode cX6_read 10 = .ok (.aload_n 0, 1) := by decide +kernel
theorem dX6_read_11 : decode cX6_read 11 = .ok (.getfield 42, 3) := by decide +kernel
theorem dX6_read_14 : decode cX6_read 14 = .ok (.invokevirtual 170, 3) := by decide +kernel
theorem dX6_read_17 : decode cX6_read 17 = .ok (.ifCond .ne 6, 3) := by decide +kernel
theorem dX6_read_20 : decode cX6_read 20 = .ok (.bipush (-5), 2) := by decide +kernel
theorem dX6_read_22 : decode cX6_read 22 = .ok (.ireturn, 1) := by decide +kernel
theorem dX6_read_23 : decode cX6_read 23 = .ok (.aload_n 0, 1) := by decide +kernel
theorem dX6_read_24 : decode cX6_read 24 = .ok (.getfield 28, 3) := by decide +kernel
theorem dX6_read_27 : decode cX6_read 27 = .ok (.invokevirtual 200, 3) := by decide +kernel
theorem dX6_read_30 : decode cX6_read 30 = .ok (.iconst 0, 1) := by decide +kernel
theorem dX6_read_31 : decode cX6_read 31 = .ok (.istore_n 1, 1) := by decide +kernel
theorem dX6_read_32 : decode cX6_read 32 = .ok (.iload_n 1, 1) := by decide +kernel
theorem dX6_read_33 : decode cX6_read 33 = .ok (.sipush 200, 3) := by decide +kernel
theorem dX6_read_36 : decode cX6_read 36 = .ok (.if_icmp .ge 37, 3) := by decide +kernel
theorem dX6_read_39 : decode cX6_read 39 = .ok (.aload_n 0, 1) := by decide +kernel
theorem dX6_read_40 : decode cX6_read 40 = .ok (.getfield 28, 3) := by decide +kernel
theorem dX6_read_43 : decode cX6_read 43 = .ok (.invokevirtual 203, 3) := by decide +kernel
theorem dX6_read_46 : decode cX6_read 46 = .ok (.ifCond .eq 27, 3) := by decide +kernel
theorem dX6_read_49 : decode cX6_read 49 = .ok (.aload_n 0, 1) := by decide +kernel
theorem dX6_read_50 : decode cX6_read 50 = .ok (.getfield 28, 3) := by decide +kernel
theorem dX6_read_53 : decode cX6_read 53 = .ok (.aload_n 0, 1) := by decide +kernel
theorem dX6_read_54 : decode cX6_read 54 = .ok (.getfield 42, 3) := by decide +kernel
theorem dX6_read_57 : decode cX6_read 57 = .ok (.invokevirtual 206, 3) := by decide +kernel
theorem dX6_read_60 : decode cX6_read 60 = .ok (.istore_n 2, 1) := by decide +kernel
theorem dX6_read_61 : decode cX6_read 61 = .ok (.iload_n 2, 1) := by decide +kernel
theorem dX6_read_62 : decode cX6_read 62 = .ok (.ifCond .ge 5, 3) := by decide +kernel
theorem dX6_read_65 : decode cX6_read 65 = .ok (.iload_n 2, 1) := by decide +kernel
theorem dX6_read_66 : decode cX6_read 66 = .ok (.ireturn, 1) := by decide +kernel
theorem dX6_read_67 : decode cX6_read 67 = .ok (.iinc 1 1, 3) := by decide +kernel
theorem dX6_read_70 : decode cX6_read 70 = .ok (.goto (-38), 3) := by decide +kernel
theorem dX6_read_73 : decode cX6_read 73 = .ok (.aload_n 0, 1) := by decide +kernel
theorem dX6_read_74 : decode cX6_read 74 = .ok (.getfield 28, 3) := by decide +kernel
theorem dX6_read_77 : decode cX6_read 77 = .ok (.getfield 210, 3) := by decide +kernel
theorem dX6_read_80 : decode cX6_read 80 = .ok (.ireturn, 1) := by decide +kernel
theorem dX6_item_0 : decode cX6_item 0 = .ok (.iload_n 1, 1) := by decide +kernel
theorem dX6_item_1 : decode cX6_item 1 = .ok (.ifCond .lt 14, 3) := by decide +kernel
theorem dX6_item_4 : decode cX6_item 4 = .ok (.iload_n 1, 1) := by decide +kernel
theorem dX6_item_5 : decode cX6_item 5 = .ok (.aload_n 0, 1) := by decide +kernel
theorem dX6_item_6 : decode cX6_item 6 = .ok (.getfield 28, 3) := by decide +kernel
theorem dX6_item_9 : decode cX6_item 9 = .ok (.getfield 210, 3) := by decide +kernel
theorem dX6_item_12 : decode cX6_item 12 = .ok (.if_icmp .lt 8, 3) := by decide +kernel
theorem dX6_item_15 : decode cX6_item 15 = .ok (.bipush (-6), 2) := by decide +kernel
theorem dX6_item_17 : decode cX6_item 17 = .ok (.goto 12, 3) := by decide +kernel
theorem dX6_item_20 : decode cX6_item 20 = .ok (.aload_n 0, 1) := by decide +kernel
theorem dX6_item_21 : decode cX6_item 21 = .ok (.getfield 28, 3) := by decide +kernel
theorem dX6_item_24 : decode cX6_item 24 = .ok (.getfield 213, 3) := by decide +kernel
theorem dX6_item_27 : decode cX6_item 27 = .ok (.iload_n 1, 1) := by decide +kernel
theorem dX6_item_28 : decode cX6_item 28 = .ok (.iaload, 1) := by decide +kernel
theorem dX6_item_29 : decode cX6_item 29 = .ok (.ireturn, 1) := by decide +kernel
theorem dX6_grow_0 : decode cX6_grow 0 = .ok (.aload_n 0, 1) := by decide +kernel
theorem dX6_grow_1 : decode cX6_grow 1 = .ok (.iconst 0, 1) := by decide +kernel
theorem dX6_grow_2 : decode cX6_grow 2 = .ok (.invokevirtual 90, 3) := by decide +kernel
theorem dX6_grow_5 : decode cX6_grow 5 = .ok (.ifCond .ne 6, 3) := by decide +kernel
theorem dX6_grow_8 : decode cX6_grow 8 = .ok (.bipush (-3), 2) := by decide +kernel
theorem dX6_grow_10 : decode cX6_grow 10 = .ok (.ireturn, 1) := by decide +kernel
theorem dX6_grow_11 : decode cX6_grow 11 = .ok (.aload_n 0, 1) := by decide +kernel
theorem dX6_grow_12 : decode cX6_grow 12 = .ok (.getfield 19, 3) := by decide +kernel
theorem dX6_grow_15 : decode cX6_grow 15 = .ok (.iconst 1, 1) := by decide +kernel
theorem dX6_grow_16 : decode cX6_grow 16 = .ok (.invokestatic 216, 3) := by decide +kernel
theorem dX6_grow_19 : decode cX6_grow 19 = .ok (.aload_n 0, 1) := by decide +kernel
theorem dX6_grow_20 : decode cX6_grow 20 = .ok (.aload_n 0, 1) := by decide +kernel
theorem dX6_grow_21 : decode cX6_grow 21 = .ok (.getfield 42, 3) := by decide +kernel
theorem dX6_grow_24 : decode cX6_grow 24 = .ok (.aload_n 0, 1) := by decide +kernel
theorem dX6_grow_25 : decode cX6_grow 25 = .ok (.getfield 19, 3) := by decide +kernel
theorem dX6_grow_28 : decode cX6_grow 28 = .ok (.iconst 0, 1) := by decide +kernel
theorem dX6_grow_29 : decode cX6_grow 29 = .ok (.invokevirtual 95, 3) := by decide +kernel
theorem dX6_grow_32 : decode cX6_grow 32 = .ok (.pop, 1) := by decide +kernel
theorem dX6_grow_33 : decode cX6_grow 33 = .ok (.aload_n 0, 1) := by decide +kernel
theorem dX6_grow_34 : decode cX6_grow 34 = .ok (.iconst 2, 1) := by decide +kernel
theorem dX6_grow_35 : decode cX6_grow 35 = .ok (.putfield 127, 3) := by decide +kernel
theorem dX6_grow_38 : decode cX6_grow 38 = .ok (.aload_n 0, 1) := by decide +kernel
theorem dX6_grow_39 : decode cX6_grow 39 = .ok (.getfield 28, 3) := by decide +kernel
theorem dX6_grow_42 : decode cX6_grow 42 = .ok (.iconst 0, 1) := by decide +kernel
theorem dX6_grow_43 : decode cX6_grow 43 = .ok (.putfield 66, 3) := by decide +kernel
theorem dX6_grow_46 : decode cX6_grow 46 = .ok (.aload_n 0, 1) := by decide +kernel
theorem dX6_grow_47 : decode cX6_grow 47 = .ok (.getfield 77, 3) := by decide +kernel
theorem dX6_grow_50 : decode cX6_grow 50 = .ok (.ireturn, 1) := by decide +kernel
theorem dX6_send_0 : decode cX6_send 0 = .ok (.aload_n 0, 1) := by decide +kernel
theorem dX6_send_1 : decode cX6_send 1 = .ok (.iload_n 1, 1) := by decide +kernel
theorem dX6_send_2 : decode cX6_send 2 = .ok (.invokevirtual 80, 3) := by decide +kernel
theorem dX6_send_5 : decode cX6_send 5 = .ok (.ifCond .ne 5, 3) := by decide +kernel
theorem dX6_send_8 : decode cX6_send 8 = .ok (.iconst (-1), 1) := by decide +kernel
theorem dX6_send_9 : decode cX6_send 9 = .ok (.ireturn, 1) := by decide +kernel
theorem dX6_send_10 : decode cX6_send 10 = .ok (.aload_n 0, 1) := by decide +kernel
theorem dX6_send_11 : decode cX6_send 11 = .ok (.invokevirtual 222, 3) := by decide +kernel
theorem dX6_send_14 : decode cX6_send 14 = .ok (.ifCond .ne 6, 3) := by decide +kernel
theorem dX6_send_17 : decode cX6_send 17 = .ok (.bipush (-3), 2) := by decide +kernel
theorem dX6_send_19 : decode cX6_send 19 = .ok (.ireturn, 1) := by decide +kernel
theorem dX6_send_20 : decode cX6_send 20 = .ok (.aload_n 0, 1) := by decide +kernel
theorem dX6_send_21 : decode cX6_send 21 = .ok (.getfield 28, 3) := by decide +kernel
theorem dX6_send_24 : decode cX6_send 24 = .ok (.aload_n 0, 1) := by decide +kernel
theorem dX6_send_25 : decode cX6_send 25 = .ok (.getfield 42, 3) := by decide +kernel
theorem dX6_send_28 : decode cX6_send 28 = .ok (.iload_n 1, 1) := by decide +kernel
theorem dX6_send_29 : decode cX6_send 29 = .ok (.invokevirtual 191, 3) := by decide +kernel
theorem dX6_send_32 : decode cX6_send 32 = .ok (.ifCond .ne 6, 3) := by decide +kernel
theorem dX6_send_35 : decode cX6_send 35 = .ok (.bipush (-4), 2) := by decide +kernel
theorem dX6_send_37 : decode cX6_send 37 = .ok (.ireturn, 1) := by decide +kernel
theorem dX6_send_38 : decode cX6_send 38 = .ok (.aload_n 0, 1) := by decide +kernel
theorem dX6_send_39 : decode cX6_send 39 = .ok (.getfield 19, 3) := by decide +kernel
theorem dX6_send_42 : decode cX6_send 42 = .ok (.iload_n 1, 1) := by decide +kernel
theorem dX6_send_43 : decode cX6_send 43 = .ok (.dup2, 1) := by decide +kernel
theorem dX6_send_44 : decode cX6_send 44 = .ok (.iaload, 1) := by decide +kernel
theorem dX6_send_45 : decode cX6_send 45 = .ok (.iconst 1, 1) := by decide +kernel
theorem dX6_send_46 : decode cX6_send 46 = .ok (.iadd, 1) := by decide +kernel
theorem dX6_send_47 : decode cX6_send 47 = .ok (.iastore, 1) := by decide +kernel
theorem dX6_send_48 : decode cX6_send 48 = .ok (.aload_n 0, 1) := by decide +kernel
theorem dX6_send_49 : decode cX6_send 49 = .ok (.aload_n 0, 1) := by decide +kernel
theorem dX6_send_50 : decode cX6_send 50 = .ok (.getfield 42, 3) := by decide +kernel
theorem dX6_send_53 : decode cX6_send 53 = .ok (.aload_n 0, 1) := by decide +kernel
theorem dX6_send_54 : decode cX6_send 54 = .ok (.getfield 19, 3) := by decide +kernel
theorem dX6_send_57 : decode cX6_send 57 = .ok (.iconst 0, 1) := by decide +kernel
theorem dX6_send_58 : decode cX6_send 58 = .ok (.invokevirtual 95, 3) := by decide +kernel
theorem dX6_send_61 : decode cX6_send 61 = .ok (.pop, 1) := by decide +kernel
theorem dX6_send_62 : decode cX6_send 62 = .ok (.aload_n 0, 1) := by decide +kernel
theorem dX6_send_63 : decode cX6_send 63 = .ok (.getfield 28, 3) := by decide +kernel
theorem dX6_send_66 : decode cX6_send 66 = .ok (.getfield 66, 3) := by decide +kernel
theorem dX6_send_69 : decode cX6_send 69 = .ok (.ireturn, 1) := by decide +kernel
theorem dX6_hear_0 : decode cX6_hear 0 = .ok (.aload_n 0, 1) := by decide +kernel
theorem dX6_hear_1 : decode cX6_hear 1 = .ok (.iconst 0, 1) := by decide +kernel
theorem dX6_hear_2 : decode cX6_hear 2 = .ok (.invokevirtual 90, 3) := by decide +kernel
theorem dX6_hear_5 : decode cX6_hear 5 = .ok (.ifCond .ne 6, 3) := by decide +kernel
theorem dX6_hear_8 : decode cX6_hear 8 = .ok (.bipush (-3), 2) := by decide +kernel
theorem dX6_hear_10 : decode cX6_hear 10 = .ok (.ireturn, 1) := by decide +kernel
theorem dX6_hear_11 : decode cX6_hear 11 = .ok (.aload_n 0, 1) := by decide +kernel
theorem dX6_hear_12 : decode cX6_hear 12 = .ok (.getfield 22, 3) := by decide +kernel
theorem dX6_hear_15 : decode cX6_hear 15 = .ok (.iconst 1, 1) := by decide +kernel
theorem dX6_hear_16 : decode cX6_hear 16 = .ok (.invokestatic 216, 3) := by decide +kernel
theorem dX6_hear_19 : decode cX6_hear 19 = .ok (.aload_n 0, 1) := by decide +kernel
theorem dX6_hear_20 : decode cX6_hear 20 = .ok (.getfield 28, 3) := by decide +kernel
theorem dX6_hear_23 : decode cX6_hear 23 = .ok (.invokevirtual 200, 3) := by decide +kernel
theorem dX6_hear_26 : decode cX6_hear 26 = .ok (.iconst 0, 1) := by decide +kernel
theorem dX6_hear_27 : decode cX6_hear 27 = .ok (.istore_n 1, 1) := by decide +kernel
theorem dX6_hear_28 : decode cX6_hear 28 = .ok (.iload_n 1, 1) := by decide +kernel
theorem dX6_hear_29 : decode cX6_hear 29 = .ok (.sipush 200, 3) := by decide +kernel
theorem dX6_hear_32 : decode cX6_hear 32 = .ok (.if_icmp .ge 61, 3) := by decide +kernel
theorem dX6_hear_35 : decode cX6_hear 35 = .ok (.aload_n 0, 1) := by decide +kernel
theorem dX6_hear_36 : decode cX6_hear 36 = .ok (.getfield 28, 3) := by decide +kernel
theorem dX6_hear_39 : decode cX6_hear 39 = .ok (.invokevirtual 203, 3) := by decide +kernel
theorem dX6_hear_42 : decode cX6_hear 42 = .ok (.ifCond .eq 51, 3) := by decide +kernel
theorem dX6_hear_45 : decode cX6_hear 45 = .ok (.aload_n 0, 1) := by decide +kernel
theorem dX6_hear_46 : decode cX6_hear 46 = .ok (.aload_n 0, 1) := by decide +kernel
theorem dX6_hear_47 : decode cX6_hear 47 = .ok (.getfield 46, 3) := by decide +kernel
theorem dX6_hear_50 : decode cX6_hear 50 = .ok (.aload_n 0, 1) := by decide +kernel
theorem dX6_hear_51 : decode cX6_hear 51 = .ok (.getfield 22, 3) := by decide +kernel
theorem dX6_hear_54 : decode cX6_hear 54 = .ok (.iconst 0, 1) := by decide +kernel
theorem dX6_hear_55 : decode cX6_hear 55 = .ok (.invokevirtual 95, 3) := by decide +kernel
theorem dX6_hear_58 : decode cX6_hear 58 = .ok (.pop, 1) := by decide +kernel
theorem dX6_hear_59 : decode cX6_hear 59 = .ok (.aload_n 0, 1) := by decide +kernel
theorem dX6_hear_60 : decode cX6_hear 60 = .ok (.getfield 28, 3) := by decide +kernel
theorem dX6_hear_63 : decode cX6_hear 63 = .ok (.aload_n 0, 1) := by decide +kernel
theorem dX6_hear_64 : decode cX6_hear 64 = .ok (.getfield 46, 3) := by decide +kernel
theorem dX6_hear_67 : decode cX6_hear 67 = .ok (.invokevirtual 206, 3) := by decide +kernel
theorem dX6_hear_70 : decode cX6_hear 70 = .ok (.istore_n 2, 1) := by decide +kernel
theorem dX6_hear_71 : decode cX6_hear 71 = .ok (.iload_n 2, 1) := by decide +kernel
theorem dX6_hear_72 : decode cX6_hear 72 = .ok (.ifCond .ge 5, 3) := by decide +kernel
theorem dX6_hear_75 : decode cX6_hear 75 = .ok (.iload_n 2, 1) := by decide +kernel
theorem dX6_hear_76 : decode cX6_hear 76 = .ok (.ireturn, 1) := by decide +kernel
theorem dX6_hear_77 : decode cX6_hear 77 = .ok (.aload_n 0, 1) := by decide +kernel
theorem dX6_hear_78 : decode cX6_hear 78 = .ok (.getfield 22, 3) := by decide +kernel
theorem dX6_hear_81 : decode cX6_hear 81 = .ok (.iload_n 2, 1) := by decide +kernel
theorem dX6_hear_82 : decode cX6_hear 82 = .ok (.dup2, 1) := by decide +kernel
theorem dX6_hear_83 : decode cX6_hear 83 = .ok (.iaload, 1) := by decide +kernel
theorem dX6_hear_84 : decode cX6_hear 84 = .ok (.iconst 1, 1) := by decide +kernel
theorem dX6_hear_85 : decode cX6_hear 85 = .ok (.iadd, 1) := by decide +kernel
theorem dX6_hear_86 : decode cX6_hear 86 = .ok (.iastore, 1) := by decide +kernel
theorem dX6_hear_87 : decode cX6_hear 87 = .ok (.iinc 1 1, 3) := by decide +kernel
theorem dX6_hear_90 : decode cX6_hear 90 = .ok (.goto (-62), 3) := by decide +kernel
theorem dX6_hear_93 : decode cX6_hear 93 = .ok (.aload_n 0, 1) := by decide +kernel
theorem dX6_hear_94 : decode cX6_hear 94 = .ok (.getfield 28, 3) := by decide +kernel
theorem dX6_hear_97 : decode cX6_hear 97 = .ok (.getfield 210, 3) := by decide +kernel
theorem dX6_hear_100 : decode cX6_hear 100 = .ok (.ireturn, 1) := by decide +kernel
theorem dX6_grown_0 : decode cX6_grown 0 = .ok (.aload_n 0, 1) := by decide +kernel
theorem dX6_grown_1 : decode cX6_grown 1 = .ok (.iload_n 1, 1) := by decide +kernel
theorem dX6_grown_2 : decode cX6_grown 2 = .ok (.invokevirtual 80, 3) := by decide +kernel
theorem dX6_grown_5 : decode cX6_grown 5 = .ok (.ifCond .ne 5, 3) := by decide +kernel
theorem dX6_grown_8 : decode cX6_grown 8 = .ok (.iconst (-1), 1) := by decide +kernel
theorem dX6_grown_9 : decode cX6_grown 9 = .ok (.ireturn, 1) := by decide +kernel
theorem dX6_grown_10 : decode cX6_grown 10 = .ok (.aload_n 0, 1) := by decide +kernel
theorem dX6_grown_11 : decode cX6_grown 11 = .ok (.invokevirtual 222, 3) := by decide +kernel
theorem dX6_grown_14 : decode cX6_grown 14 = .ok (.ifCond .eq 12, 3) := by decide +kernel
theorem dX6_grown_17 : decode cX6_grown 17 = .ok (.aload_n 0, 1) := by decide +kernel
theorem dX6_grown_18 : decode cX6_grown 18 = .ok (.getfield 19, 3) := by decide +kernel
theorem dX6_grown_21 : decode cX6_grown 21 = .ok (.iload_n 1, 1) := by decide +kernel
theorem dX6_grown_22 : decode cX6_grown 22 = .ok (.iaload, 1) := by decide +kernel
theorem dX6_grown_23 : decode cX6_grown 23 = .ok (.goto 5, 3) := by decide +kernel
theorem dX6_grown_26 : decode cX6_grown 26 = .ok (.bipush (-3), 2) := by decide +kernel
theorem dX6_grown_28 : decode cX6_grown 28 = .ok (.ireturn, 1) := by decide +kernel
theorem dX6_step_0 : decode cX6_step 0 = .ok (.aload_n 0, 1) := by decide +kernel
theorem dX6_step_1 : decode cX6_step 1 = .ok (.invokevirtual 133, 3) := by decide +kernel
theorem dX6_step_4 : decode cX6_step 4 = .ok (.ifCond .ne 6, 3) := by decide +kernel
theorem dX6_step_7 : decode cX6_step 7 = .ok (.bipush (-3), 2) := by decide +kernel
theorem dX6_step_9 : decode cX6_step 9 = .ok (.ireturn, 1) := by decide +kernel
theorem dX6_step_10 : decode cX6_step 10 = .ok (.aload_n 0, 1) := by decide +kernel
theorem dX6_step_11 : decode cX6_step 11 = .ok (.getfield 42, 3) := by decide +kernel
theorem dX6_step_14 : decode cX6_step 14 = .ok (.invokevirtual 170, 3) := by decide +kernel
theorem dX6_step_17 : decode cX6_step 17 = .ok (.ifCond .ne 6, 3) := by decide +kernel
theorem dX6_step_20 : decode cX6_step 20 = .ok (.bipush (-5), 2) := by decide +kernel
theorem dX6_step_22 : decode cX6_step 22 = .ok (.ireturn, 1) := by decide +kernel
theorem dX6_step_23 : decode cX6_step 23 = .ok (.aload_n 0, 1) := by decide +kernel
theorem dX6_step_24 : decode cX6_step 24 = .ok (.getfield 225, 3) := by decide +kernel
theorem dX6_step_27 : decode cX6_step 27 = .ok (.ifnonnull 14, 3) := by decide +kernel
theorem dX6_step_30 : decode cX6_step 30 = .ok (.aload_n 0, 1) := by decide +kernel
theorem dX6_step_31 : decode cX6_step 31 = .ok (.new 229, 3) := by decide +kernel
theorem dX6_step_34 : decode cX6_step 34 = .ok (.dup, 1) := by decide +kernel
theorem dX6_step_35 : decode cX6_step 35 = .ok (.invokespecial 231, 3) := by decide +kernel
theorem dX6_step_38 : decode cX6_step 38 = .ok (.putfield 225, 3) := by decide +kernel
theorem dX6_step_41 : decode cX6_step 41 = .ok (.aload_n 0, 1) := by decide +kernel
theorem dX6_step_42 : decode cX6_step 42 = .ok (.getfield 225, 3) := by decide +kernel
theorem dX6_step_45 : decode cX6_step 45 = .ok (.aload_n 0, 1) := by decide +kernel
theorem dX6_step_46 : decode cX6_step 46 = .ok (.getfield 42, 3) := by decide +kernel
theorem dX6_step_49 : decode cX6_step 49 = .ok (.aload_n 0, 1) := by decide +kernel
theorem dX6_step_50 : decode cX6_step 50 = .ok (.getfield 60, 3) := by decide +kernel
theorem dX6_step_53 : decode cX6_step 53 = .ok (.invokevirtual 232, 3) := by decide +kernel
theorem dX6_step_56 : decode cX6_step 56 = .ok (.ireturn, 1) := by decide +kernel
theorem dX6_stepSign_0 : decode cX6_stepSign 0 = .ok (.aload_n 0, 1) := by decide +kernel
theorem dX6_stepSign_1 : decode cX6_stepSign 1 = .ok (.getfield 225, 3) := by decide +kernel
theorem dX6_stepSign_4 : decode cX6_stepSign 4 = .ok (.ifnonnull 8, 3) := by decide +kernel
theorem dX6_stepSign_7 : decode cX6_stepSign 7 = .ok (.bipush (-6), 2) := by decide +kernel
theorem dX6_stepSign_9 : decode cX6_stepSign 9 = .ok (.goto 11, 3) := by decide +kernel
theorem dX6_stepSign_12 : decode cX6_stepSign 12 = .ok (.aload_n 0, 1) := by decide +kernel
theorem dX6_stepSign_13 : decode cX6_stepSign 13 = .ok (.getfield 225, 3) := by decide +kernel
theorem dX6_stepSign_16 : decode cX6_stepSign 16 = .ok (.iload_n 1, 1) := by decide +kernel
theorem dX6_stepSign_17 : decode cX6_stepSign 17 = .ok (.invokevirtual 236, 3) := by decide +kernel
theorem dX6_stepSign_20 : decode cX6_stepSign 20 = .ok (.ireturn, 1) := by decide +kernel
theorem dX6_keep_0 : decode cX6_keep 0 = .ok (.iload_n 1, 1) := by decide +kernel
theorem dX6_keep_1 : decode cX6_keep 1 = .ok (.invokestatic 239, 3) := by decide +kernel
theorem dX6_keep_4 : decode cX6_keep 4 = .ok (.ifCond .ne 5, 3) := by decide +kernel
theorem dX6_keep_7 : decode cX6_keep 7 = .ok (.iconst (-1), 1) := by decide +kernel
theorem dX6_keep_8 : decode cX6_keep 8 = .ok (.ireturn, 1) := by decide +kernel
theorem dX6_keep_9 : decode cX6_keep 9 = .ok (.aload_n 0, 1) := by decide +kernel
theorem dX6_keep_10 : decode cX6_keep 10 = .ok (.invokevirtual 133, 3) := by decide +kernel
theorem dX6_keep_13 : decode cX6_keep 13 = .ok (.ifCond .ne 6, 3) := by decide +kernel
theorem dX6_keep_16 : decode cX6_keep 16 = .ok (.bipush (-3), 2) := by decide +kernel
theorem dX6_keep_18 : decode cX6_keep 18 = .ok (.ireturn, 1) := by decide +kernel
theorem dX6_keep_19 : decode cX6_keep 19 = .ok (.aload_n 0, 1) := by decide +kernel
theorem dX6_keep_20 : decode cX6_keep 20 = .ok (.getfield 49, 3) := by decide +kernel
theorem dX6_keep_23 : decode cX6_keep 23 = .ok (.iload_n 1, 1) := by decide +kernel
theorem dX6_keep_24 : decode cX6_keep 24 = .ok (.aaload, 1) := by decide +kernel
theorem dX6_keep_25 : decode cX6_keep 25 = .ok (.aload_n 0, 1) := by decide +kernel
theorem dX6_keep_26 : decode cX6_keep 26 = .ok (.getfield 42, 3) := by decide +kernel
theorem dX6_keep_29 : decode cX6_keep 29 = .ok (.invokevirtual 242, 3) := by decide +kernel
theorem dX6_keep_32 : decode cX6_keep 32 = .ok (.iconst 1, 1) := by decide +kernel
theorem dX6_keep_33 : decode cX6_keep 33 = .ok (.ireturn, 1) := by decide +kernel
theorem dX6_back_0 : decode cX6_back 0 = .ok (.aload_n 0, 1) := by decide +kernel
theorem dX6_back_1 : decode cX6_back 1 = .ok (.iload_n 1, 1) := by decide +kernel
theorem dX6_back_2 : decode cX6_back 2 = .ok (.invokevirtual 245, 3) := by decide +kernel
theorem dX6_back_5 : decode cX6_back 5 = .ok (.ifCond .ne 5, 3) := by decide +kernel
theorem dX6_back_8 : decode cX6_back 8 = .ok (.iconst (-1), 1) := by decide +kernel
theorem dX6_back_9 : decode cX6_back 9 = .ok (.ireturn, 1) := by decide +kernel
theorem dX6_back_10 : decode cX6_back 10 = .ok (.aload_n 0, 1) := by decide +kernel
theorem dX6_back_11 : decode cX6_back 11 = .ok (.getfield 49, 3) := by decide +kernel
theorem dX6_back_14 : decode cX6_back 14 = .ok (.iload_n 1, 1) := by decide +kernel
theorem dX6_back_15 : decode cX6_back 15 = .ok (.aaload, 1) := by decide +kernel
theorem dX6_back_16 : decode cX6_back 16 = .ok (.getfield 151, 3) := by decide +kernel
theorem dX6_back_19 : decode cX6_back 19 = .ok (.aload_n 0, 1) := by decide +kernel
theorem dX6_back_20 : decode cX6_back 20 = .ok (.getfield 77, 3) := by decide +kernel
theorem dX6_back_23 : decode cX6_back 23 = .ok (.if_icmp .eq 6, 3) := by decide +kernel
theorem dX6_back_26 : decode cX6_back 26 = .ok (.bipush (-3), 2) := by decide +kernel
theorem dX6_back_28 : decode cX6_back 28 = .ok (.ireturn, 1) := by decide +kernel
theorem dX6_back_29 : decode cX6_back 29 = .ok (.aload_n 0, 1) := by decide +kernel
theorem dX6_back_30 : decode cX6_back 30 = .ok (.aload_n 0, 1) := by decide +kernel
theorem dX6_back_31 : decode cX6_back 31 = .ok (.getfield 49, 3) := by decide +kernel
theorem dX6_back_34 : decode cX6_back 34 = .ok (.iload_n 1, 1) := by decide +kernel
theorem dX6_back_35 : decode cX6_back 35 = .ok (.aaload, 1) := by decide +kernel
theorem dX6_back_36 : decode cX6_back 36 = .ok (.invokevirtual 115, 3) := by decide +kernel
theorem dX6_back_39 : decode cX6_back 39 = .ok (.iconst 1, 1) := by decide +kernel
theorem dX6_back_40 : decode cX6_back 40 = .ok (.ireturn, 1) := by decide +kernel
theorem dX6_differs_0 : decode cX6_differs 0 = .ok (.aload_n 0, 1) := by decide +kernel
theorem dX6_differs_1 : decode cX6_differs 1 = .ok (.iload_n 1, 1) := by decide +kernel
theorem dX6_differs_2 : decode cX6_differs 2 = .ok (.invokevirtual 245, 3) := by decide +kernel
theorem dX6_differs_5 : decode cX6_differs 5 = .ok (.ifCond .ne 5, 3) := by decide +kernel
theorem dX6_differs_8 : decode cX6_differs 8 = .ok (.iconst (-1), 1) := by decide +kernel
theorem dX6_differs_9 : decode cX6_differs 9 = .ok (.ireturn, 1) := by decide +kernel
theorem dX6_differs_10 : decode cX6_differs 10 = .ok (.aload_n 0, 1) := by decide +kernel
theorem dX6_differs_11 : decode cX6_differs 11 = .ok (.invokevirtual 133, 3) := by decide +kernel
theorem dX6_differs_14 : decode cX6_differs 14 = .ok (.ifCond .ne 6, 3) := by decide +kernel
theorem dX6_differs_17 : decode cX6_differs 17 = .ok (.bipush (-3), 2) := by decide +kernel
theorem dX6_differs_19 : decode cX6_differs 19 = .ok (.ireturn, 1) := by decide +kernel
theorem dX6_differs_20 : decode cX6_differs 20 = .ok (.aload_n 0, 1) := by decide +kernel
theorem dX6_differs_21 : decode cX6_differs 21 = .ok (.getfield 49, 3) := by decide +kernel
theorem dX6_differs_24 : decode cX6_differs 24 = .ok (.iload_n 1, 1) := by decide +kernel
theorem dX6_differs_25 : decode cX6_differs 25 = .ok (.aaload, 1) := by decide +kernel
theorem dX6_differs_26 : decode cX6_differs 26 = .ok (.astore_n 2, 1) := by decide +kernel
theorem dX6_differs_27 : decode cX6_differs 27 = .ok (.iconst 0, 1) := by decide +kernel
theorem dX6_differs_28 : decode cX6_differs 28 = .ok (.istore_n 3, 1) := by decide +kernel
theorem dX6_differs_29 : decode cX6_differs 29 = .ok (.iload_n 3, 1) := by decide +kernel
theorem dX6_differs_30 : decode cX6_differs 30 = .ok (.aload_n 2, 1) := by decide +kernel
theorem dX6_differs_31 : decode cX6_differs 31 = .ok (.getfield 151, 3) := by decide +kernel
theorem dX6_differs_34 : decode cX6_differs 34 = .ok (.if_icmp .ge 59, 3) := by decide +kernel
theorem dX6_differs_37 : decode cX6_differs 37 = .ok (.iload_n 3, 1) := by decide +kernel
theorem dX6_differs_38 : decode cX6_differs 38 = .ok (.aload_n 0, 1) := by decide +kernel
theorem dX6_differs_39 : decode cX6_differs 39 = .ok (.getfield 42, 3) := by decide +kernel
theorem dX6_differs_42 : decode cX6_differs 42 = .ok (.getfield 151, 3) := by decide +kernel
theorem dX6_differs_45 : decode cX6_differs 45 = .ok (.if_icmp .ge 48, 3) := by decide +kernel
theorem dX6_differs_48 : decode cX6_differs 48 = .ok (.aload_n 2, 1) := by decide +kernel
theorem dX6_differs_49 : decode cX6_differs 49 = .ok (.getfield 136, 3) := by decide +kernel
theorem dX6_differs_52 : decode cX6_differs 52 = .ok (.iload_n 3, 1) := by decide +kernel
theorem dX6_differs_53 : decode cX6_differs 53 = .ok (.iaload, 1) := by decide +kernel
theorem dX6_differs_54 : decode cX6_differs 54 = .ok (.aload_n 0, 1) := by decide +kernel
theorem dX6_differs_55 : decode cX6_differs 55 = .ok (.getfield 42, 3) := by decide +kernel
theorem dX6_differs_58 : decode cX6_differs 58 = .ok (.getfield 136, 3) := by decide +kernel
theorem dX6_differs_61 : decode cX6_differs 61 = .ok (.iload_n 3, 1) := by decide +kernel
theorem dX6_differs_62 : decode cX6_differs 62 = .ok (.iaload, 1) := by decide +kernel
theorem dX6_differs_63 : decode cX6_differs 63 = .ok (.if_icmp .ne 22, 3) := by decide +kernel
theorem dX6_differs_66 : decode cX6_differs 66 = .ok (.aload_n 2, 1) := by decide +kernel
theorem dX6_differs_67 : decode cX6_differs 67 = .ok (.getfield 139, 3) := by decide +kernel
theorem dX6_differs_70 : decode cX6_differs 70 = .ok (.iload_n 3, 1) := by decide +kernel
theorem dX6_differs_71 : decode cX6_differs 71 = .ok (.laload, 1) := by decide +kernel
theorem dX6_differs_72 : decode cX6_differs 72 = .ok (.aload_n 0, 1) := by decide +kernel
theorem dX6_differs_73 : decode cX6_differs 73 = .ok (.getfield 42, 3) := by decide +kernel
theorem dX6_differs_76 : decode cX6_differs 76 = .ok (.getfield 139, 3) := by decide +kernel
theorem dX6_differs_79 : decode cX6_differs 79 = .ok (.iload_n 3, 1) := by decide +kernel
theorem dX6_differs_80 : decode cX6_differs 80 = .ok (.laload, 1) := by decide +kernel
theorem dX6_differs_81 : decode cX6_differs 81 = .ok (.lcmp, 1) := by decide +kernel
theorem dX6_differs_82 : decode cX6_differs 82 = .ok (.ifCond .eq 5, 3) := by decide +kernel
theorem dX6_differs_85 : decode cX6_differs 85 = .ok (.iload_n 3, 1) := by decide +kernel
theorem dX6_differs_86 : decode cX6_differs 86 = .ok (.ireturn, 1) := by decide +kernel
theorem dX6_differs_87 : decode cX6_differs 87 = .ok (.iinc 3 1, 3) := by decide +kernel
theorem dX6_differs_90 : decode cX6_differs 90 = .ok (.goto (-61), 3) := by decide +kernel
theorem dX6_differs_93 : decode cX6_differs 93 = .ok (.bipush (-6), 2) := by decide +kernel
theorem dX6_differs_95 : decode cX6_differs 95 = .ok (.ireturn, 1) := by decide +kernel
theorem dX6_told_0 : decode cX6_told 0 = .ok (.iload_n 1, 1) := by decide +kernel
theorem dX6_told_1 : decode cX6_told 1 = .ok (.tableswitch 127 0 6 #[43, 48, 53, 61, 74, 103, 122], 43) := by decide +kernel
theorem dX6_told_44 : decode cX6_told 44 = .ok (.aload_n 0, 1) := by decide +kernel
theorem dX6_told_45 : decode cX6_told 45 = .ok (.getfield 60, 3) := by decide +kernel
theorem dX6_told_48 : decode cX6_told 48 = .ok (.ireturn, 1) := by decide +kernel
theorem dX6_told_49 : decode cX6_told 49 = .ok (.aload_n 0, 1) := by decide +kernel
theorem dX6_told_50 : decode cX6_told 50 = .ok (.getfield 77, 3) := by decide +kernel
theorem dX6_told_53 : decode cX6_told 53 = .ok (.ireturn, 1) := by decide +kernel
theorem dX6_told_54 : decode cX6_told 54 = .ok (.aload_n 0, 1) := by decide +kernel
theorem dX6_told_55 : decode cX6_told 55 = .ok (.getfield 28, 3) := by decide +kernel
theorem dX6_told_58 : decode cX6_told 58 = .ok (.getfield 66, 3) := by decide +kernel
theorem dX6_told_61 : decode cX6_told 61 = .ok (.ireturn, 1) := by decide +kernel
theorem dX6_told_62 : decode cX6_told 62 = .ok (.aload_n 0, 1) := by decide +kernel
theorem dX6_told_63 : decode cX6_told 63 = .ok (.invokevirtual 133, 3) := by decide +kernel
theorem dX6_told_66 : decode cX6_told 66 = .ok (.ifCond .eq 7, 3) := by decide +kernel
theorem dX6_told_69 : decode cX6_told 69 = .ok (.iconst 1, 1) := by decide +kernel
theorem dX6_told_70 : decode cX6_told 70 = .ok (.goto 4, 3) := by decide +kernel
theorem dX6_told_73 : decode cX6_told 73 = .ok (.iconst 0, 1) := by decide +kernel
theorem dX6_told_74 : decode cX6_told 74 = .ok (.ireturn, 1) := by decide +kernel
theorem dX6_told_75 : decode cX6_told 75 = .ok (.aload_n 0, 1) := by decide +kernel
theorem dX6_told_76 : decode cX6_told 76 = .ok (.invokevirtual 133, 3) := by decide +kernel
theorem dX6_told_79 : decode cX6_told 79 = .ok (.ifCond .eq 23, 3) := by decide +kernel
theorem dX6_told_82 : decode cX6_told 82 = .ok (.aload_n 0, 1) := by decide +kernel
theorem dX6_told_83 : decode cX6_told 83 = .ok (.getfield 42, 3) := by decide +kernel
theorem dX6_told_86 : decode cX6_told 86 = .ok (.invokevirtual 170, 3) := by decide +kernel
theorem dX6_told_89 : decode cX6_told 89 = .ok (.ifCond .eq 13, 3) := by decide +kernel
theorem dX6_told_92 : decode cX6_told 92 = .ok (.aload_n 0, 1) := by decide +kernel
theorem dX6_told_93 : decode cX6_told 93 = .ok (.getfield 42, 3) := by decide +kernel
theorem dX6_told_96 : decode cX6_told 96 = .ok (.invokevirtual 248, 3) := by decide +kernel
theorem dX6_told_99 : decode cX6_told 99 = .ok (.goto 4, 3) := by decide +kernel
theorem dX6_told_102 : decode cX6_told 102 = .ok (.iconst 0, 1) := by decide +kernel
theorem dX6_told_103 : decode cX6_told 103 = .ok (.ireturn, 1) := by decide +kernel
theorem dX6_told_104 : decode cX6_told 104 = .ok (.aload_n 0, 1) := by decide +kernel
theorem dX6_told_105 : decode cX6_told 105 = .ok (.getfield 225, 3) := by decide +kernel
theorem dX6_told_108 : decode cX6_told 108 = .ok (.ifnonnull 7, 3) := by decide +kernel
theorem dX6_told_111 : decode cX6_told 111 = .ok (.iconst 0, 1) := by decide +kernel
theorem dX6_told_112 : decode cX6_told 112 = .ok (.goto 10, 3) := by decide +kernel
theorem dX6_told_115 : decode cX6_told 115 = .ok (.aload_n 0, 1) := by decide +kernel
theorem dX6_told_116 : decode cX6_told 116 = .ok (.getfield 225, 3) := by decide +kernel
theorem dX6_told_119 : decode cX6_told 119 = .ok (.invokevirtual 252, 3) := by decide +kernel
theorem dX6_told_122 : decode cX6_told 122 = .ok (.ireturn, 1) := by decide +kernel
theorem dX6_told_123 : decode cX6_told 123 = .ok (.aload_n 0, 1) := by decide +kernel
theorem dX6_told_124 : decode cX6_told 124 = .ok (.invokevirtual 255, 3) := by decide +kernel
theorem dX6_told_127 : decode cX6_told 127 = .ok (.ireturn, 1) := by decide +kernel
theorem dX6_told_128 : decode cX6_told 128 = .ok (.bipush (-2), 2) := by decide +kernel
theorem dX6_told_130 : decode cX6_told 130 = .ok (.ireturn, 1) := by decide +kernel
theorem dX6_price_0 : decode cX6_price 0 = .ok (.aload_n 0, 1) := by decide +kernel
theorem dX6_price_1 : decode cX6_price 1 = .ok (.iload_n 1, 1) := by decide +kernel
theorem dX6_price_2 : decode cX6_price 2 = .ok (.invokevirtual 130, 3) := by decide +kernel
theorem dX6_price_5 : decode cX6_price 5 = .ok (.ifCond .eq 12, 3) := by decide +kernel
theorem dX6_price_8 : decode cX6_price 8 = .ok (.aload_n 0, 1) := by decide +kernel
theorem dX6_price_9 : decode cX6_price 9 = .ok (.getfield 9, 3) := by decide +kernel
theorem dX6_price_12 : decode cX6_price 12 = .ok (.iload_n 1, 1) := by decide +kernel
theorem dX6_price_13 : decode cX6_price 13 = .ok (.iaload, 1) := by decide +kernel
theorem dX6_price_14 : decode cX6_price 14 = .ok (.goto 4, 3) := by decide +kernel
theorem dX6_price_17 : decode cX6_price 17 = .ok (.iconst (-1), 1) := by decide +kernel
theorem dX6_price_18 : decode cX6_price 18 = .ok (.ireturn, 1) := by decide +kernel
theorem dX6_rank_0 : decode cX6_rank 0 = .ok (.aload_n 0, 1) := by decide +kernel
theorem dX6_rank_1 : decode cX6_rank 1 = .ok (.iload_n 1, 1) := by decide +kernel
theorem dX6_rank_2 : decode cX6_rank 2 = .ok (.invokevirtual 80, 3) := by decide +kernel
theorem dX6_rank_5 : decode cX6_rank 5 = .ok (.ifCond .ne 5, 3) := by decide +kernel
theorem dX6_rank_8 : decode cX6_rank 8 = .ok (.iconst (-1), 1) := by decide +kernel
theorem dX6_rank_9 : decode cX6_rank 9 = .ok (.ireturn, 1) := by decide +kernel
theorem dX6_rank_10 : decode cX6_rank 10 = .ok (.aload_n 0, 1) := by decide +kernel
theorem dX6_rank_11 : decode cX6_rank 11 = .ok (.getfield 16, 3) := by decide +kernel
theorem dX6_rank_14 : decode cX6_rank 14 = .ok (.aload_n 0, 1) := by decide +kernel
theorem dX6_rank_15 : decode cX6_rank 15 = .ok (.getfield 13, 3) := by decide +kernel
theorem dX6_rank_18 : decode cX6_rank 18 = .ok (.aload_n 0, 1) := by decide +kernel
theorem dX6_rank_19 : decode cX6_rank 19 = .ok (.getfield 77, 3) := by decide +kernel
theorem dX6_rank_22 : decode cX6_rank 22 = .ok (.invokestatic 258, 3) := by decide +kernel
theorem dX6_rank_25 : decode cX6_rank 25 = .ok (.aload_n 0, 1) := by decide +kernel
theorem dX6_rank_26 : decode cX6_rank 26 = .ok (.getfield 16, 3) := by decide +kernel
theorem dX6_rank_29 : decode cX6_rank 29 = .ok (.iload_n 1, 1) := by decide +kernel
theorem dX6_rank_30 : decode cX6_rank 30 = .ok (.iaload, 1) := by decide +kernel
theorem dX6_rank_31 : decode cX6_rank 31 = .ok (.ireturn, 1) := by decide +kernel
theorem dX6_isSign_0 : decode cX6_isSign 0 = .ok (.iload_n 1, 1) := by decide +kernel
theorem dX6_isSign_1 : decode cX6_isSign 1 = .ok (.ifCond .lt 15, 3) := by decide +kernel
theorem dX6_isSign_4 : decode cX6_isSign 4 = .ok (.iload_n 1, 1) := by decide +kernel
theorem dX6_isSign_5 : decode cX6_isSign 5 = .ok (.aload_n 0, 1) := by decide +kernel
theorem dX6_isSign_6 : decode cX6_isSign 6 = .ok (.getfield 60, 3) := by decide +kernel
theorem dX6_isSign_9 : decode cX6_isSign 9 = .ok (.if_icmp .ge 7, 3) := by decide +kernel
theorem dX6_isSign_12 : decode cX6_isSign 12 = .ok (.iconst 1, 1) := by decide +kernel
theorem dX6_isSign_13 : decode cX6_isSign 13 = .ok (.goto 4, 3) := by decide +kernel
theorem dX6_isSign_16 : decode cX6_isSign 16 = .ok (.iconst 0, 1) := by decide +kernel
theorem dX6_isSign_17 : decode cX6_isSign 17 = .ok (.ireturn, 1) := by decide +kernel
theorem dX6_isThing_0 : decode cX6_isThing 0 = .ok (.iload_n 1, 1) := by decide +kernel
theorem dX6_isThing_1 : decode cX6_isThing 1 = .ok (.ifCond .lt 15, 3) := by decide +kernel
theorem dX6_isThing_4 : decode cX6_isThing 4 = .ok (.iload_n 1, 1) := by decide +kernel
theorem dX6_isThing_5 : decode cX6_isThing 5 = .ok (.aload_n 0, 1) := by decide +kernel
theorem dX6_isThing_6 : decode cX6_isThing 6 = .ok (.getfield 77, 3) := by decide +kernel
theorem dX6_isThing_9 : decode cX6_isThing 9 = .ok (.if_icmp .ge 7, 3) := by decide +kernel
theorem dX6_isThing_12 : decode cX6_isThing 12 = .ok (.iconst 1, 1) := by decide +kernel
theorem dX6_isThing_13 : decode cX6_isThing 13 = .ok (.goto 4, 3) := by decide +kernel
theorem dX6_isThing_16 : decode cX6_isThing 16 = .ok (.iconst 0, 1) := by decide +kernel
theorem dX6_isThing_17 : decode cX6_isThing 17 = .ok (.ireturn, 1) := by decide +kernel
theorem dX6_isPlace_0 : decode cX6_isPlace 0 = .ok (.iload_n 0, 1) := by decide +kernel
theorem dX6_isPlace_1 : decode cX6_isPlace 1 = .ok (.ifCond .lt 13, 3) := by decide +kernel
theorem dX6_isPlace_4 : decode cX6_isPlace 4 = .ok (.iload_n 0, 1) := by decide +kernel
theorem dX6_isPlace_5 : decode cX6_isPlace 5 = .ok (.bipush 8, 2) := by decide +kernel
theorem dX6_isPlace_7 : decode cX6_isPlace 7 = .ok (.if_icmp .ge 7, 3) := by decide +kernel
theorem dX6_isPlace_10 : decode cX6_isPlace 10 = .ok (.iconst 1, 1) := by decide +kernel
theorem dX6_isPlace_11 : decode cX6_isPlace 11 = .ok (.goto 4, 3) := by decide +kernel
theorem dX6_isPlace_14 : decode cX6_isPlace 14 = .ok (.iconst 0, 1) := by decide +kernel
theorem dX6_isPlace_15 : decode cX6_isPlace 15 = .ok (.ireturn, 1) := by decide +kernel
theorem dX6_isKept_0 : decode cX6_isKept 0 = .ok (.iload_n 1, 1) := by decide +kernel
theorem dX6_isKept_1 : decode cX6_isKept 1 = .ok (.invokestatic 239, 3) := by decide +kernel
theorem dX6_isKept_4 : decode cX6_isKept 4 = .ok (.ifCond .eq 19, 3) := by decide +kernel
theorem dX6_isKept_7 : decode cX6_isKept 7 = .ok (.aload_n 0, 1) := by decide +kernel
theorem dX6_isKept_8 : decode cX6_isKept 8 = .ok (.getfield 49, 3) := by decide +kernel
theorem dX6_isKept_11 : decode cX6_isKept 11 = .ok (.iload_n 1, 1) := by decide +kernel
theorem dX6_isKept_12 : decode cX6_isKept 12 = .ok (.aaload, 1) := by decide +kernel
theorem dX6_isKept_13 : decode cX6_isKept 13 = .ok (.getfield 151, 3) := by decide +kernel
theorem dX6_isKept_16 : decode cX6_isKept 16 = .ok (.ifCond .le 7, 3) := by decide +kernel
theorem dX6_isKept_19 : decode cX6_isKept 19 = .ok (.iconst 1, 1) := by decide +kernel
theorem dX6_isKept_20 : decode cX6_isKept 20 = .ok (.goto 4, 3) := by decide +kernel
theorem dX6_isKept_23 : decode cX6_isKept 23 = .ok (.iconst 0, 1) := by decide +kernel
theorem dX6_isKept_24 : decode cX6_isKept 24 = .ok (.ireturn, 1) := by decide +kernel
theorem dX6_isKind_0 : decode cX6_isKind 0 = .ok (.iload_n 1, 1) := by decide +kernel
theorem dX6_isKind_1 : decode cX6_isKind 1 = .ok (.iconst 1, 1) := by decide +kernel
theorem dX6_isKind_2 : decode cX6_isKind 2 = .ok (.if_icmp .ne 20, 3) := by decide +kernel
theorem dX6_isKind_5 : decode cX6_isKind 5 = .ok (.iload_n 2, 1) := by decide +kernel
theorem dX6_isKind_6 : decode cX6_isKind 6 = .ok (.iconst 1, 1) := by decide +kernel
theorem dX6_isKind_7 : decode cX6_isKind 7 = .ok (.if_icmp .lt 13, 3) := by decide +kernel
theorem dX6_isKind_10 : decode cX6_isKind 10 = .ok (.iload_n 2, 1) := by decide +kernel
theorem dX6_isKind_11 : decode cX6_isKind 11 = .ok (.bipush 24, 2) := by decide +kernel
theorem dX6_isKind_13 : decode cX6_isKind 13 = .ok (.if_icmp .gt 7, 3) := by decide +kernel
theorem dX6_isKind_16 : decode cX6_isKind 16 = .ok (.iconst 1, 1) := by decide +kernel
theorem dX6_isKind_17 : decode cX6_isKind 17 = .ok (.goto 4, 3) := by decide +kernel
theorem dX6_isKind_20 : decode cX6_isKind 20 = .ok (.iconst 0, 1) := by decide +kernel
theorem dX6_isKind_21 : decode cX6_isKind 21 = .ok (.ireturn, 1) := by decide +kernel
theorem dX6_isKind_22 : decode cX6_isKind 22 = .ok (.iload_n 1, 1) := by decide +kernel
theorem dX6_isKind_23 : decode cX6_isKind 23 = .ok (.iconst 3, 1) := by decide +kernel
theorem dX6_isKind_24 : decode cX6_isKind 24 = .ok (.if_icmp .ne 9, 3) := by decide +kernel
theorem dX6_isKind_27 : decode cX6_isKind 27 = .ok (.aload_n 0, 1) := by decide +kernel
theorem dX6_isKind_28 : decode cX6_isKind 28 = .ok (.iload_n 2, 1) := by decide +kernel
theorem dX6_isKind_29 : decode cX6_isKind 29 = .ok (.invokevirtual 130, 3) := by decide +kernel
theorem dX6_isKind_32 : decode cX6_isKind 32 = .ok (.ireturn, 1) := by decide +kernel
theorem dX6_isKind_33 : decode cX6_isKind 33 = .ok (.iload_n 1, 1) := by decide +kernel
theorem dX6_isKind_34 : decode cX6_isKind 34 = .ok (.ifCond .eq 8, 3) := by decide +kernel
theorem dX6_isKind_37 : decode cX6_isKind 37 = .ok (.iload_n 1, 1) := by decide +kernel
theorem dX6_isKind_38 : decode cX6_isKind 38 = .ok (.iconst 2, 1) := by decide +kernel
theorem dX6_isKind_39 : decode cX6_isKind 39 = .ok (.if_icmp .ne 7, 3) := by decide +kernel
theorem dX6_isKind_42 : decode cX6_isKind 42 = .ok (.iconst 1, 1) := by decide +kernel
theorem dX6_isKind_43 : decode cX6_isKind 43 = .ok (.goto 4, 3) := by decide +kernel
theorem dX6_isKind_46 : decode cX6_isKind 46 = .ok (.iconst 0, 1) := by decide +kernel
theorem dX6_isKind_47 : decode cX6_isKind 47 = .ok (.ireturn, 1) := by decide +kernel
theorem dX6_hasCode_0 : decode cX6_hasCode 0 = .ok (.aload_n 0, 1) := by decide +kernel
theorem dX6_hasCode_1 : decode cX6_hasCode 1 = .ok (.getfield 42, 3) := by decide +kernel
theorem dX6_hasCode_4 : decode cX6_hasCode 4 = .ok (.getfield 151, 3) := by decide +kernel
theorem dX6_hasCode_7 : decode cX6_hasCode 7 = .ok (.ifCond .le 7, 3) := by decide +kernel
theorem dX6_hasCode_10 : decode cX6_hasCode 10 = .ok (.iconst 1, 1) := by decide +kernel
theorem dX6_hasCode_11 : decode cX6_hasCode 11 = .ok (.goto 4, 3) := by decide +kernel
theorem dX6_hasCode_14 : decode cX6_hasCode 14 = .ok (.iconst 0, 1) := by decide +kernel
theorem dX6_hasCode_15 : decode cX6_hasCode 15 = .ok (.ireturn, 1) := by decide +kernel
theorem dX6_isGrowing_0 : decode cX6_isGrowing 0 = .ok (.aload_n 0, 1) := by decide +kernel
theorem dX6_isGrowing_1 : decode cX6_isGrowing 1 = .ok (.invokevirtual 133, 3) := by decide +kernel
theorem dX6_isGrowing_4 : decode cX6_isGrowing 4 = .ok (.ifCond .eq 15, 3) := by decide +kernel
theorem dX6_isGrowing_7 : decode cX6_isGrowing 7 = .ok (.aload_n 0, 1) := by decide +kernel
theorem dX6_isGrowing_8 : decode cX6_isGrowing 8 = .ok (.getfield 127, 3) := by decide +kernel
theorem dX6_isGrowing_11 : decode cX6_isGrowing 11 = .ok (.iconst 2, 1) := by decide +kernel
theorem dX6_isGrowing_12 : decode cX6_isGrowing 12 = .ok (.if_icmp .ne 7, 3) := by decide +kernel
theorem dX6_isGrowing_15 : decode cX6_isGrowing 15 = .ok (.iconst 1, 1) := by decide +kernel
theorem dX6_isGrowing_16 : decode cX6_isGrowing 16 = .ok (.goto 4, 3) := by decide +kernel
theorem dX6_isGrowing_19 : decode cX6_isGrowing 19 = .ok (.iconst 0, 1) := by decide +kernel
theorem dX6_isGrowing_20 : decode cX6_isGrowing 20 = .ok (.ireturn, 1) := by decide +kernel
theorem dX6_hasSignsAndThings_0 : decode cX6_hasSignsAndThings 0 = .ok (.aload_n 0, 1) := by decide +kernel
theorem dX6_hasSignsAndThings_1 : decode cX6_hasSignsAndThings 1 = .ok (.getfield 60, 3) := by decide +kernel
theorem dX6_hasSignsAndThings_4 : decode cX6_hasSignsAndThings 4 = .ok (.iconst 2, 1) := by decide +kernel
theorem dX6_hasSignsAndThings_5 : decode cX6_hasSignsAndThings 5 = .ok (.if_icmp .lt 15, 3) := by decide +kernel
theorem dX6_hasSignsAndThings_8 : decode cX6_hasSignsAndThings 8 = .ok (.aload_n 0, 1) := by decide +kernel
theorem dX6_hasSignsAndThings_9 : decode cX6_hasSignsAndThings 9 = .ok (.getfield 77, 3) := by decide +kernel
theorem dX6_hasSignsAndThings_12 : decode cX6_hasSignsAndThings 12 = .ok (.iconst 1, 1) := by decide +kernel
theorem dX6_hasSignsAndThings_13 : decode cX6_hasSignsAndThings 13 = .ok (.if_icmp .lt 7, 3) := by decide +kernel
theorem dX6_hasSignsAndThings_16 : decode cX6_hasSignsAndThings 16 = .ok (.iconst 1, 1) := by decide +kernel
theorem dX6_hasSignsAndThings_17 : decode cX6_hasSignsAndThings 17 = .ok (.goto 4, 3) := by decide +kernel
theorem dX6_hasSignsAndThings_20 : decode cX6_hasSignsAndThings 20 = .ok (.iconst 0, 1) := by decide +kernel
theorem dX6_hasSignsAndThings_21 : decode cX6_hasSignsAndThings 21 = .ok (.ireturn, 1) := by decide +kernel
theorem dX6_canBuild_0 : decode cX6_canBuild 0 = .ok (.aload_n 0, 1) := by decide +kernel
theorem dX6_canBuild_1 : decode cX6_canBuild 1 = .ok (.invokevirtual 123, 3) := by decide +kernel
theorem dX6_canBuild_4 : decode cX6_canBuild 4 = .ok (.ifCond .ne 5, 3) := by decide +kernel
theorem dX6_canBuild_7 : decode cX6_canBuild 7 = .ok (.iconst 0, 1) := by decide +kernel
theorem dX6_canBuild_8 : decode cX6_canBuild 8 = .ok (.ireturn, 1) := by decide +kernel
theorem dX6_canBuild_9 : decode cX6_canBuild 9 = .ok (.iload_n 1, 1) := by decide +kernel
theorem dX6_canBuild_10 : decode cX6_canBuild 10 = .ok (.ifCond .ne 33, 3) := by decide +kernel
theorem dX6_canBuild_13 : decode cX6_canBuild 13 = .ok (.aload_n 0, 1) := by decide +kernel
theorem dX6_canBuild_14 : decode cX6_canBuild 14 = .ok (.invokevirtual 262, 3) := by decide +kernel
theorem dX6_canBuild_17 : decode cX6_canBuild 17 = .ok (.ifCond .eq 20, 3) := by decide +kernel
theorem dX6_canBuild_20 : decode cX6_canBuild 20 = .ok (.aload_n 0, 1) := by decide +kernel
theorem dX6_canBuild_21 : decode cX6_canBuild 21 = .ok (.getfield 77, 3) := by decide +kernel
theorem dX6_canBuild_24 : decode cX6_canBuild 24 = .ok (.bipush 8, 2) := by decide +kernel
theorem dX6_canBuild_26 : decode cX6_canBuild 26 = .ok (.if_icmp .gt 15, 3) := by decide +kernel
theorem dX6_canBuild_29 : decode cX6_canBuild 29 = .ok (.aload_n 0, 1) := by decide +kernel
theorem dX6_canBuild_30 : decode cX6_canBuild 30 = .ok (.invokevirtual 265, 3) := by decide +kernel
theorem dX6_canBuild_33 : decode cX6_canBuild 33 = .ok (.iconst 3, 1) := by decide +kernel
theorem dX6_canBuild_34 : decode cX6_canBuild 34 = .ok (.if_icmp .gt 7, 3) := by decide +kernel
theorem dX6_canBuild_37 : decode cX6_canBuild 37 = .ok (.iconst 1, 1) := by decide +kernel
theorem dX6_canBuild_38 : decode cX6_canBuild 38 = .ok (.goto 4, 3) := by decide +kernel
theorem dX6_canBuild_41 : decode cX6_canBuild 41 = .ok (.iconst 0, 1) := by decide +kernel
theorem dX6_canBuild_42 : decode cX6_canBuild 42 = .ok (.ireturn, 1) := by decide +kernel
theorem dX6_canBuild_43 : decode cX6_canBuild 43 = .ok (.iload_n 1, 1) := by decide +kernel
theorem dX6_canBuild_44 : decode cX6_canBuild 44 = .ok (.iconst 1, 1) := by decide +kernel
theorem dX6_canBuild_45 : decode cX6_canBuild 45 = .ok (.if_icmp .ne 11, 3) := by decide +kernel
theorem dX6_canBuild_48 : decode cX6_canBuild 48 = .ok (.aload_n 0, 1) := by decide +kernel
theorem dX6_canBuild_49 : decode cX6_canBuild 49 = .ok (.invokevirtual 265, 3) := by decide +kernel
theorem dX6_canBuild_52 : decode cX6_canBuild 52 = .ok (.iconst 1, 1) := by decide +kernel
theorem dX6_canBuild_53 : decode cX6_canBuild 53 = .ok (.if_icmp .ne 7, 3) := by decide +kernel
theorem dX6_canBuild_56 : decode cX6_canBuild 56 = .ok (.iconst 1, 1) := by decide +kernel
theorem dX6_canBuild_57 : decode cX6_canBuild 57 = .ok (.goto 4, 3) := by decide +kernel
theorem dX6_canBuild_60 : decode cX6_canBuild 60 = .ok (.iconst 0, 1) := by decide +kernel
theorem dX6_canBuild_61 : decode cX6_canBuild 61 = .ok (.ireturn, 1) := by decide +kernel
theorem dX6_pricesUnlike_0 : decode cX6_pricesUnlike 0 = .ok (.iconst 1, 1) := by decide +kernel
theorem dX6_pricesUnlike_1 : decode cX6_pricesUnlike 1 = .ok (.istore_n 1, 1) := by decide +kernel
theorem dX6_pricesUnlike_2 : decode cX6_pricesUnlike 2 = .ok (.iload_n 1, 1) := by decide +kernel
theorem dX6_pricesUnlike_3 : decode cX6_pricesUnlike 3 = .ok (.aload_n 0, 1) := by decide +kernel
theorem dX6_pricesUnlike_4 : decode cX6_pricesUnlike 4 = .ok (.getfield 60, 3) := by decide +kernel
theorem dX6_pricesUnlike_7 : decode cX6_pricesUnlike 7 = .ok (.if_icmp .ge 26, 3) := by decide +kernel
theorem dX6_pricesUnlike_10 : decode cX6_pricesUnlike 10 = .ok (.aload_n 0, 1) := by decide +kernel
theorem dX6_pricesUnlike_11 : decode cX6_pricesUnlike 11 = .ok (.getfield 9, 3) := by decide +kernel
theorem dX6_pricesUnlike_14 : decode cX6_pricesUnlike 14 = .ok (.iload_n 1, 1) := by decide +kernel
theorem dX6_pricesUnlike_15 : decode cX6_pricesUnlike 15 = .ok (.iaload, 1) := by decide +kernel
theorem dX6_pricesUnlike_16 : decode cX6_pricesUnlike 16 = .ok (.aload_n 0, 1) := by decide +kernel
theorem dX6_pricesUnlike_17 : decode cX6_pricesUnlike 17 = .ok (.getfield 9, 3) := by decide +kernel
theorem dX6_pricesUnlike_20 : decode cX6_pricesUnlike 20 = .ok (.iconst 0, 1) := by decide +kernel
theorem dX6_pricesUnlike_21 : decode cX6_pricesUnlike 21 = .ok (.iaload, 1) := by decide +kernel
theorem dX6_pricesUnlike_22 : decode cX6_pricesUnlike 22 = .ok (.if_icmp .eq 5, 3) := by decide +kernel
theorem dX6_pricesUnlike_25 : decode cX6_pricesUnlike 25 = .ok (.iconst 1, 1) := by decide +kernel
theorem dX6_pricesUnlike_26 : decode cX6_pricesUnlike 26 = .ok (.ireturn, 1) := by decide +kernel
theorem dX6_pricesUnlike_27 : decode cX6_pricesUnlike 27 = .ok (.iinc 1 1, 3) := by decide +kernel
theorem dX6_pricesUnlike_30 : decode cX6_pricesUnlike 30 = .ok (.goto (-28), 3) := by decide +kernel
theorem dX6_pricesUnlike_33 : decode cX6_pricesUnlike 33 = .ok (.iconst 0, 1) := by decide +kernel
theorem dX6_pricesUnlike_34 : decode cX6_pricesUnlike 34 = .ok (.ireturn, 1) := by decide +kernel
theorem dX6_dearestPrice_0 : decode cX6_dearestPrice 0 = .ok (.iconst 0, 1) := by decide +kernel
theorem dX6_dearestPrice_1 : decode cX6_dearestPrice 1 = .ok (.istore_n 1, 1) := by decide +kernel
theorem dX6_dearestPrice_2 : decode cX6_dearestPrice 2 = .ok (.iconst 0, 1) := by decide +kernel
theorem dX6_dearestPrice_3 : decode cX6_dearestPrice 3 = .ok (.istore_n 2, 1) := by decide +kernel
theorem dX6_dearestPrice_4 : decode cX6_dearestPrice 4 = .ok (.iload_n 2, 1) := by decide +kernel
theorem dX6_dearestPrice_5 : decode cX6_dearestPrice 5 = .ok (.aload_n 0, 1) := by decide +kernel
theorem dX6_dearestPrice_6 : decode cX6_dearestPrice 6 = .ok (.getfield 60, 3) := by decide +kernel
theorem dX6_dearestPrice_9 : decode cX6_dearestPrice 9 = .ok (.if_icmp .ge 20, 3) := by decide +kernel
theorem dX6_dearestPrice_12 : decode cX6_dearestPrice 12 = .ok (.iload_n 1, 1) := by decide +kernel
theorem dX6_dearestPrice_13 : decode cX6_dearestPrice 13 = .ok (.aload_n 0, 1) := by decide +kernel
theorem dX6_dearestPrice_14 : decode cX6_dearestPrice 14 = .ok (.getfield 9, 3) := by decide +kernel
theorem dX6_dearestPrice_17 : decode cX6_dearestPrice 17 = .ok (.iload_n 2, 1) := by decide +kernel
theorem dX6_dearestPrice_18 : decode cX6_dearestPrice 18 = .ok (.iaload, 1) := by decide +kernel
theorem dX6_dearestPrice_19 : decode cX6_dearestPrice 19 = .ok (.invokestatic 268, 3) := by decide +kernel
theorem dX6_dearestPrice_22 : decode cX6_dearestPrice 22 = .ok (.istore_n 1, 1) := by decide +kernel
theorem dX6_dearestPrice_23 : decode cX6_dearestPrice 23 = .ok (.iinc 2 1, 3) := by decide +kernel
theorem dX6_dearestPrice_26 : decode cX6_dearestPrice 26 = .ok (.goto (-22), 3) := by decide +kernel
theorem dX6_dearestPrice_29 : decode cX6_dearestPrice 29 = .ok (.iload_n 1, 1) := by decide +kernel
theorem dX6_dearestPrice_30 : decode cX6_dearestPrice 30 = .ok (.ireturn, 1) := by decide +kernel
theorem dX6_keptCodes_0 : decode cX6_keptCodes 0 = .ok (.iconst 0, 1) := by decide +kernel
theorem dX6_keptCodes_1 : decode cX6_keptCodes 1 = .ok (.istore_n 1, 1) := by decide +kernel
theorem dX6_keptCodes_2 : decode cX6_keptCodes 2 = .ok (.iconst 0, 1) := by decide +kernel
theorem dX6_keptCodes_3 : decode cX6_keptCodes 3 = .ok (.istore_n 2, 1) := by decide +kernel
theorem dX6_keptCodes_4 : decode cX6_keptCodes 4 = .ok (.iload_n 2, 1) := by decide +kernel
theorem dX6_keptCodes_5 : decode cX6_keptCodes 5 = .ok (.bipush 8, 2) := by decide +kernel
theorem dX6_keptCodes_7 : decode cX6_keptCodes 7 = .ok (.if_icmp .ge 24, 3) := by decide +kernel
theorem dX6_keptCodes_10 : decode cX6_keptCodes 10 = .ok (.aload_n 0, 1) := by decide +kernel
theorem dX6_keptCodes_11 : decode cX6_keptCodes 11 = .ok (.getfield 49, 3) := by decide +kernel
theorem dX6_keptCodes_14 : decode cX6_keptCodes 14 = .ok (.iload_n 2, 1) := by decide +kernel
theorem dX6_keptCodes_15 : decode cX6_keptCodes 15 = .ok (.aaload, 1) := by decide +kernel
theorem dX6_keptCodes_16 : decode cX6_keptCodes 16 = .ok (.getfield 151, 3) := by decide +kernel
theorem dX6_keptCodes_19 : decode cX6_keptCodes 19 = .ok (.ifCond .le 6, 3) := by decide +kernel
theorem dX6_keptCodes_22 : decode cX6_keptCodes 22 = .ok (.iinc 1 1, 3) := by decide +kernel
theorem dX6_keptCodes_25 : decode cX6_keptCodes 25 = .ok (.iinc 2 1, 3) := by decide +kernel
theorem dX6_keptCodes_28 : decode cX6_keptCodes 28 = .ok (.goto (-24), 3) := by decide +kernel
theorem dX6_keptCodes_31 : decode cX6_keptCodes 31 = .ok (.iload_n 1, 1) := by decide +kernel
theorem dX6_keptCodes_32 : decode cX6_keptCodes 32 = .ok (.ireturn, 1) := by decide +kernel
theorem dX6_handOver_0 : decode cX6_handOver 0 = .ok (.aload_n 0, 1) := by decide +kernel
theorem dX6_handOver_1 : decode cX6_handOver 1 = .ok (.getfield 42, 3) := by decide +kernel
theorem dX6_handOver_4 : decode cX6_handOver 4 = .ok (.aload_n 1, 1) := by decide +kernel
theorem dX6_handOver_5 : decode cX6_handOver 5 = .ok (.invokevirtual 242, 3) := by decide +kernel
theorem dX6_handOver_8 : decode cX6_handOver 8 = .ok (.aload_n 0, 1) := by decide +kernel
theorem dX6_handOver_9 : decode cX6_handOver 9 = .ok (.iconst 0, 1) := by decide +kernel
theorem dX6_handOver_10 : decode cX6_handOver 10 = .ok (.putfield 127, 3) := by decide +kernel
theorem dX6_handOver_13 : decode cX6_handOver 13 = .ok (.return_, 1) := by decide +kernel
theorem dX6_dropCode_0 : decode cX6_dropCode 0 = .ok (.aload_n 0, 1) := by decide +kernel
theorem dX6_dropCode_1 : decode cX6_dropCode 1 = .ok (.getfield 42, 3) := by decide +kernel
theorem dX6_dropCode_4 : decode cX6_dropCode 4 = .ok (.iconst 0, 1) := by decide +kernel
theorem dX6_dropCode_5 : decode cX6_dropCode 5 = .ok (.invokevirtual 69, 3) := by decide +kernel
theorem dX6_dropCode_8 : decode cX6_dropCode 8 = .ok (.aload_n 0, 1) := by decide +kernel
theorem dX6_dropCode_9 : decode cX6_dropCode 9 = .ok (.iconst 0, 1) := by decide +kernel
theorem dX6_dropCode_10 : decode cX6_dropCode 10 = .ok (.putfield 127, 3) := by decide +kernel
theorem dX6_dropCode_13 : decode cX6_dropCode 13 = .ok (.return_, 1) := by decide +kernel
theorem dX6_breaksAlone_0 : decode cX6_breaksAlone 0 = .ok (.aload_n 0, 1) := by decide +kernel
theorem dX6_breaksAlone_1 : decode cX6_breaksAlone 1 = .ok (.getfield 42, 3) := by decide +kernel
theorem dX6_breaksAlone_4 : decode cX6_breaksAlone 4 = .ok (.getfield 136, 3) := by decide +kernel
theorem dX6_breaksAlone_7 : decode cX6_breaksAlone 7 = .ok (.iload_n 1, 1) := by decide +kernel
theorem dX6_breaksAlone_8 : decode cX6_breaksAlone 8 = .ok (.iaload, 1) := by decide +kernel
theorem dX6_breaksAlone_9 : decode cX6_breaksAlone 9 = .ok (.istore 4, 2) := by decide +kernel
theorem dX6_breaksAlone_11 : decode cX6_breaksAlone 11 = .ok (.iload 4, 2) := by decide +kernel
theorem dX6_breaksAlone_13 : decode cX6_breaksAlone 13 = .ok (.ifCond .ne 5, 3) := by decide +kernel
theorem dX6_breaksAlone_16 : decode cX6_breaksAlone 16 = .ok (.iconst 1, 1) := by decide +kernel
theorem dX6_breaksAlone_17 : decode cX6_breaksAlone 17 = .ok (.ireturn, 1) := by decide +kernel
theorem dX6_breaksAlone_18 : decode cX6_breaksAlone 18 = .ok (.iload_n 2, 1) := by decide +kernel
theorem dX6_breaksAlone_19 : decode cX6_breaksAlone 19 = .ok (.iconst 1, 1) := by decide +kernel
theorem dX6_breaksAlone_20 : decode cX6_breaksAlone 20 = .ok (.if_icmp .ne 15, 3) := by decide +kernel
theorem dX6_breaksAlone_23 : decode cX6_breaksAlone 23 = .ok (.iload 4, 2) := by decide +kernel
theorem dX6_breaksAlone_25 : decode cX6_breaksAlone 25 = .ok (.iload_n 3, 1) := by decide +kernel
theorem dX6_breaksAlone_26 : decode cX6_breaksAlone 26 = .ok (.if_icmp .le 7, 3) := by decide +kernel
theorem dX6_breaksAlone_29 : decode cX6_breaksAlone 29 = .ok (.iconst 1, 1) := by decide +kernel
theorem dX6_breaksAlone_30 : decode cX6_breaksAlone 30 = .ok (.goto 4, 3) := by decide +kernel
theorem dX6_breaksAlone_33 : decode cX6_breaksAlone 33 = .ok (.iconst 0, 1) := by decide +kernel
theorem dX6_breaksAlone_34 : decode cX6_breaksAlone 34 = .ok (.ireturn, 1) := by decide +kernel
theorem dX6_breaksAlone_35 : decode cX6_breaksAlone 35 = .ok (.iload_n 2, 1) := by decide +kernel
theorem dX6_breaksAlone_36 : decode cX6_breaksAlone 36 = .ok (.iconst 3, 1) := by decide +kernel
theorem dX6_breaksAlone_37 : decode cX6_breaksAlone 37 = .ok (.if_icmp .ne 65, 3) := by decide +kernel
theorem dX6_breaksAlone_40 : decode cX6_breaksAlone 40 = .ok (.iconst 0, 1) := by decide +kernel
theorem dX6_breaksAlone_41 : decode cX6_breaksAlone 41 = .ok (.istore 5, 2) := by decide +kernel
theorem dX6_breaksAlone_43 : decode cX6_breaksAlone 43 = .ok (.iload 5, 2) := by decide +kernel
theorem dX6_breaksAlone_45 : decode cX6_breaksAlone 45 = .ok (.iload 4, 2) := by decide +kernel
theorem dX6_breaksAlone_47 : decode cX6_breaksAlone 47 = .ok (.if_icmp .ge 55, 3) := by decide +kernel
theorem dX6_breaksAlone_50 : decode cX6_breaksAlone 50 = .ok (.iload 5, 2) := by decide +kernel
theorem dX6_breaksAlone_52 : decode cX6_breaksAlone 52 = .ok (.iload 4, 2) := by decide +kernel
theorem dX6_breaksAlone_54 : decode cX6_breaksAlone 54 = .ok (.iconst 1, 1) := by decide +kernel
theorem dX6_breaksAlone_55 : decode cX6_breaksAlone 55 = .ok (.isub, 1) := by decide +kernel
theorem dX6_breaksAlone_56 : decode cX6_breaksAlone 56 = .ok (.if_icmp .ne 7, 3) := by decide +kernel
theorem dX6_breaksAlone_59 : decode cX6_breaksAlone 59 = .ok (.iconst 1, 1) := by decide +kernel
theorem dX6_breaksAlone_60 : decode cX6_breaksAlone 60 = .ok (.goto 4, 3) := by decide +kernel
theorem dX6_breaksAlone_63 : decode cX6_breaksAlone 63 = .ok (.iconst 0, 1) := by decide +kernel
theorem dX6_breaksAlone_64 : decode cX6_breaksAlone 64 = .ok (.istore 6, 2) := by decide +kernel
theorem dX6_breaksAlone_66 : decode cX6_breaksAlone 66 = .ok (.aload_n 0, 1) := by decide +kernel
theorem dX6_breaksAlone_67 : decode cX6_breaksAlone 67 = .ok (.getfield 42, 3) := by decide +kernel
theorem dX6_breaksAlone_70 : decode cX6_breaksAlone 70 = .ok (.getfield 139, 3) := by decide +kernel
theorem dX6_breaksAlone_73 : decode cX6_breaksAlone 73 = .ok (.iload_n 1, 1) := by decide +kernel
theorem dX6_breaksAlone_74 : decode cX6_breaksAlone 74 = .ok (.laload, 1) := by decide +kernel
theorem dX6_breaksAlone_75 : decode cX6_breaksAlone 75 = .ok (.iload 5, 2) := by decide +kernel
theorem dX6_breaksAlone_77 : decode cX6_breaksAlone 77 = .ok (.invokestatic 166, 3) := by decide +kernel
theorem dX6_breaksAlone_80 : decode cX6_breaksAlone 80 = .ok (.iload_n 3, 1) := by decide +kernel
theorem dX6_breaksAlone_81 : decode cX6_breaksAlone 81 = .ok (.if_icmp .ne 7, 3) := by decide +kernel
theorem dX6_breaksAlone_84 : decode cX6_breaksAlone 84 = .ok (.iconst 1, 1) := by decide +kernel
theorem dX6_breaksAlone_85 : decode cX6_breaksAlone 85 = .ok (.goto 4, 3) := by decide +kernel
theorem dX6_breaksAlone_88 : decode cX6_breaksAlone 88 = .ok (.iconst 0, 1) := by decide +kernel
theorem dX6_breaksAlone_89 : decode cX6_breaksAlone 89 = .ok (.iload 6, 2) := by decide +kernel
theorem dX6_breaksAlone_91 : decode cX6_breaksAlone 91 = .ok (.if_icmp .eq 5, 3) := by decide +kernel
theorem dX6_breaksAlone_94 : decode cX6_breaksAlone 94 = .ok (.iconst 1, 1) := by decide +kernel
theorem dX6_breaksAlone_95 : decode cX6_breaksAlone 95 = .ok (.ireturn, 1) := by decide +kernel
theorem dX6_breaksAlone_96 : decode cX6_breaksAlone 96 = .ok (.iinc 5 1, 3) := by decide +kernel
theorem dX6_breaksAlone_99 : decode cX6_breaksAlone 99 = .ok (.goto (-56), 3) := by decide +kernel
theorem dX6_breaksAlone_102 : decode cX6_breaksAlone 102 = .ok (.iconst 0, 1) := by decide +kernel
theorem dX6_breaksAlone_103 : decode cX6_breaksAlone 103 = .ok (.ireturn, 1) := by decide +kernel
theorem dX6_breaksWith_0 : decode cX6_breaksWith 0 = .ok (.iload_n 1, 1) := by decide +kernel
theorem dX6_breaksWith_1 : decode cX6_breaksWith 1 = .ok (.iconst 1, 1) := by decide +kernel
theorem dX6_breaksWith_2 : decode cX6_breaksWith 2 = .ok (.iadd, 1) := by decide +kernel
theorem dX6_breaksWith_3 : decode cX6_breaksWith 3 = .ok (.istore_n 3, 1) := by decide +kernel
theorem dX6_breaksWith_4 : decode cX6_breaksWith 4 = .ok (.iload_n 3, 1) := by decide +kernel
theorem dX6_breaksWith_5 : decode cX6_breaksWith 5 = .ok (.aload_n 0, 1) := by decide +kernel
theorem dX6_breaksWith_6 : decode cX6_breaksWith 6 = .ok (.getfield 42, 3) := by decide +kernel
theorem dX6_breaksWith_9 : decode cX6_breaksWith 9 = .ok (.getfield 151, 3) := by decide +kernel
theorem dX6_breaksWith_12 : decode cX6_breaksWith 12 = .ok (.if_icmp .ge 52, 3) := by decide +kernel
theorem dX6_breaksWith_15 : decode cX6_breaksWith 15 = .ok (.aload_n 0, 1) := by decide +kernel
theorem dX6_breaksWith_16 : decode cX6_breaksWith 16 = .ok (.getfield 42, 3) := by decide +kernel
theorem dX6_breaksWith_19 : decode cX6_breaksWith 19 = .ok (.iload_n 1, 1) := by decide +kernel
theorem dX6_breaksWith_20 : decode cX6_breaksWith 20 = .ok (.iload_n 3, 1) := by decide +kernel
theorem dX6_breaksWith_21 : decode cX6_breaksWith 21 = .ok (.invokevirtual 273, 3) := by decide +kernel
theorem dX6_breaksWith_24 : decode cX6_breaksWith 24 = .ok (.ifCond .eq 5, 3) := by decide +kernel
theorem dX6_breaksWith_27 : decode cX6_breaksWith 27 = .ok (.iload_n 3, 1) := by decide +kernel
theorem dX6_breaksWith_28 : decode cX6_breaksWith 28 = .ok (.ireturn, 1) := by decide +kernel
theorem dX6_breaksWith_29 : decode cX6_breaksWith 29 = .ok (.iload_n 2, 1) := by decide +kernel
theorem dX6_breaksWith_30 : decode cX6_breaksWith 30 = .ok (.iconst 2, 1) := by decide +kernel
theorem dX6_breaksWith_31 : decode cX6_breaksWith 31 = .ok (.if_icmp .ne 27, 3) := by decide +kernel
theorem dX6_breaksWith_34 : decode cX6_breaksWith 34 = .ok (.aload_n 0, 1) := by decide +kernel
theorem dX6_breaksWith_35 : decode cX6_breaksWith 35 = .ok (.getfield 42, 3) := by decide +kernel
theorem dX6_breaksWith_38 : decode cX6_breaksWith 38 = .ok (.getfield 139, 3) := by decide +kernel
theorem dX6_breaksWith_41 : decode cX6_breaksWith 41 = .ok (.iload_n 1, 1) := by decide +kernel
theorem dX6_breaksWith_42 : decode cX6_breaksWith 42 = .ok (.laload, 1) := by decide +kernel
theorem dX6_breaksWith_43 : decode cX6_breaksWith 43 = .ok (.aload_n 0, 1) := by decide +kernel
theorem dX6_breaksWith_44 : decode cX6_breaksWith 44 = .ok (.getfield 42, 3) := by decide +kernel
theorem dX6_breaksWith_47 : decode cX6_breaksWith 47 = .ok (.getfield 139, 3) := by decide +kernel
theorem dX6_breaksWith_50 : decode cX6_breaksWith 50 = .ok (.iload_n 3, 1) := by decide +kernel
theorem dX6_breaksWith_51 : decode cX6_breaksWith 51 = .ok (.laload, 1) := by decide +kernel
theorem dX6_breaksWith_52 : decode cX6_breaksWith 52 = .ok (.lcmp, 1) := by decide +kernel
theorem dX6_breaksWith_53 : decode cX6_breaksWith 53 = .ok (.ifCond .le 5, 3) := by decide +kernel
theorem dX6_breaksWith_56 : decode cX6_breaksWith 56 = .ok (.iload_n 3, 1) := by decide +kernel
theorem dX6_breaksWith_57 : decode cX6_breaksWith 57 = .ok (.ireturn, 1) := by decide +kernel
theorem dX6_breaksWith_58 : decode cX6_breaksWith 58 = .ok (.iinc 3 1, 3) := by decide +kernel
theorem dX6_breaksWith_61 : decode cX6_breaksWith 61 = .ok (.goto (-57), 3) := by decide +kernel
theorem dX6_breaksWith_64 : decode cX6_breaksWith 64 = .ok (.bipush (-6), 2) := by decide +kernel
theorem dX6_breaksWith_66 : decode cX6_breaksWith 66 = .ok (.ireturn, 1) := by decide +kernel
theorem dX6_costAtHand_0 : decode cX6_costAtHand 0 = .ok (.lconst 0, 1) := by decide +kernel
theorem dX6_costAtHand_1 : decode cX6_costAtHand 1 = .ok (.lstore_n 1, 1) := by decide +kernel
theorem dX6_costAtHand_2 : decode cX6_costAtHand 2 = .ok (.iconst 0, 1) := by decide +kernel
theorem dX6_costAtHand_3 : decode cX6_costAtHand 3 = .ok (.istore_n 3, 1) := by decide +kernel
theorem dX6_costAtHand_4 : decode cX6_costAtHand 4 = .ok (.iload_n 3, 1) := by decide +kernel
theorem dX6_costAtHand_5 : decode cX6_costAtHand 5 = .ok (.aload_n 0, 1) := by decide +kernel
theorem dX6_costAtHand_6 : decode cX6_costAtHand 6 = .ok (.getfield 42, 3) := by decide +kernel
theorem dX6_costAtHand_9 : decode cX6_costAtHand 9 = .ok (.getfield 151, 3) := by decide +kernel
theorem dX6_costAtHand_12 : decode cX6_costAtHand 12 = .ok (.if_icmp .ge 73, 3) := by decide +kernel
theorem dX6_costAtHand_15 : decode cX6_costAtHand 15 = .ok (.lconst 0, 1) := by decide +kernel
theorem dX6_costAtHand_16 : decode cX6_costAtHand 16 = .ok (.lstore 4, 2) := by decide +kernel
theorem dX6_costAtHand_18 : decode cX6_costAtHand 18 = .ok (.iconst 0, 1) := by decide +kernel
theorem dX6_costAtHand_19 : decode cX6_costAtHand 19 = .ok (.istore 6, 2) := by decide +kernel
theorem dX6_costAtHand_21 : decode cX6_costAtHand 21 = .ok (.iload 6, 2) := by decide +kernel
theorem dX6_costAtHand_23 : decode cX6_costAtHand 23 = .ok (.aload_n 0, 1) := by decide +kernel
theorem dX6_costAtHand_24 : decode cX6_costAtHand 24 = .ok (.getfield 42, 3) := by decide +kernel
theorem dX6_costAtHand_27 : decode cX6_costAtHand 27 = .ok (.getfield 136, 3) := by decide +kernel
theorem dX6_costAtHand_30 : decode cX6_costAtHand 30 = .ok (.iload_n 3, 1) := by decide +kernel
theorem dX6_costAtHand_31 : decode cX6_costAtHand 31 = .ok (.iaload, 1) := by decide +kernel
theorem dX6_costAtHand_32 : decode cX6_costAtHand 32 = .ok (.if_icmp .ge 34, 3) := by decide +kernel
theorem dX6_costAtHand_35 : decode cX6_costAtHand 35 = .ok (.lload 4, 2) := by decide +kernel
theorem dX6_costAtHand_37 : decode cX6_costAtHand 37 = .ok (.aload_n 0, 1) := by decide +kernel
theorem dX6_costAtHand_38 : decode cX6_costAtHand 38 = .ok (.getfield 9, 3) := by decide +kernel
theorem dX6_costAtHand_41 : decode cX6_costAtHand 41 = .ok (.aload_n 0, 1) := by decide +kernel
theorem dX6_costAtHand_42 : decode cX6_costAtHand 42 = .ok (.getfield 42, 3) := by decide +kernel
theorem dX6_costAtHand_45 : decode cX6_costAtHand 45 = .ok (.getfield 139, 3) := by decide +kernel
theorem dX6_costAtHand_48 : decode cX6_costAtHand 48 = .ok (.iload_n 3, 1) := by decide +kernel
theorem dX6_costAtHand_49 : decode cX6_costAtHand 49 = .ok (.laload, 1) := by decide +kernel
theorem dX6_costAtHand_50 : decode cX6_costAtHand 50 = .ok (.iload 6, 2) := by decide +kernel
theorem dX6_costAtHand_52 : decode cX6_costAtHand 52 = .ok (.invokestatic 166, 3) := by decide +kernel
theorem dX6_costAtHand_55 : decode cX6_costAtHand 55 = .ok (.iaload, 1) := by decide +kernel
theorem dX6_costAtHand_56 : decode cX6_costAtHand 56 = .ok (.i2l, 1) := by decide +kernel
theorem dX6_costAtHand_57 : decode cX6_costAtHand 57 = .ok (.ladd, 1) := by decide +kernel
theorem dX6_costAtHand_58 : decode cX6_costAtHand 58 = .ok (.lstore 4, 2) := by decide +kernel
theorem dX6_costAtHand_60 : decode cX6_costAtHand 60 = .ok (.iinc 6 1, 3) := by decide +kernel
theorem dX6_costAtHand_63 : decode cX6_costAtHand 63 = .ok (.goto (-42), 3) := by decide +kernel
theorem dX6_costAtHand_66 : decode cX6_costAtHand 66 = .ok (.lload_n 1, 1) := by decide +kernel
theorem dX6_costAtHand_67 : decode cX6_costAtHand 67 = .ok (.aload_n 0, 1) := by decide +kernel
theorem dX6_costAtHand_68 : decode cX6_costAtHand 68 = .ok (.getfield 13, 3) := by decide +kernel
theorem dX6_costAtHand_71 : decode cX6_costAtHand 71 = .ok (.iload_n 3, 1) := by decide +kernel
theorem dX6_costAtHand_72 : decode cX6_costAtHand 72 = .ok (.iaload, 1) := by decide +kernel
theorem dX6_costAtHand_73 : decode cX6_costAtHand 73 = .ok (.i2l, 1) := by decide +kernel
theorem dX6_costAtHand_74 : decode cX6_costAtHand 74 = .ok (.lload 4, 2) := by decide +kernel
theorem dX6_costAtHand_76 : decode cX6_costAtHand 76 = .ok (.lmul, 1) := by decide +kernel
theorem dX6_costAtHand_77 : decode cX6_costAtHand 77 = .ok (.ladd, 1) := by decide +kernel
theorem dX6_costAtHand_78 : decode cX6_costAtHand 78 = .ok (.lstore_n 1, 1) := by decide +kernel
theorem dX6_costAtHand_79 : decode cX6_costAtHand 79 = .ok (.iinc 3 1, 3) := by decide +kernel
theorem dX6_costAtHand_82 : decode cX6_costAtHand 82 = .ok (.goto (-78), 3) := by decide +kernel
theorem dX6_costAtHand_85 : decode cX6_costAtHand 85 = .ok (.lload_n 1, 1) := by decide +kernel
theorem dX6_costAtHand_86 : decode cX6_costAtHand 86 = .ok (.lreturn, 1) := by decide +kernel
theorem dX6_rowsOfSize_0 : decode cX6_rowsOfSize 0 = .ok (.lconst 1, 1) := by decide +kernel
theorem dX6_rowsOfSize_1 : decode cX6_rowsOfSize 1 = .ok (.lstore_n 2, 1) := by decide +kernel
theorem dX6_rowsOfSize_2 : decode cX6_rowsOfSize 2 = .ok (.iconst 0, 1) := by decide +kernel
theorem dX6_rowsOfSize_3 : decode cX6_rowsOfSize 3 = .ok (.istore 4, 2) := by decide +kernel
theorem dX6_rowsOfSize_5 : decode cX6_rowsOfSize 5 = .ok (.iload 4, 2) := by decide +kernel
theorem dX6_rowsOfSize_7 : decode cX6_rowsOfSize 7 = .ok (.iload_n 1, 1) := by decide +kernel
theorem dX6_rowsOfSize_8 : decode cX6_rowsOfSize 8 = .ok (.if_icmp .ge 17, 3) := by decide +kernel
theorem dX6_rowsOfSize_11 : decode cX6_rowsOfSize 11 = .ok (.lload_n 2, 1) := by decide +kernel
theorem dX6_rowsOfSize_12 : decode cX6_rowsOfSize 12 = .ok (.aload_n 0, 1) := by decide +kernel
theorem dX6_rowsOfSize_13 : decode cX6_rowsOfSize 13 = .ok (.getfield 60, 3) := by decide +kernel
theorem dX6_rowsOfSize_16 : decode cX6_rowsOfSize 16 = .ok (.i2l, 1) := by decide +kernel
theorem dX6_rowsOfSize_17 : decode cX6_rowsOfSize 17 = .ok (.lmul, 1) := by decide +kernel
theorem dX6_rowsOfSize_18 : decode cX6_rowsOfSize 18 = .ok (.lstore_n 2, 1) := by decide +kernel
theorem dX6_rowsOfSize_19 : decode cX6_rowsOfSize 19 = .ok (.iinc 4 1, 3) := by decide +kernel
theorem dX6_rowsOfSize_22 : decode cX6_rowsOfSize 22 = .ok (.goto (-17), 3) := by decide +kernel
theorem dX6_rowsOfSize_25 : decode cX6_rowsOfSize 25 = .ok (.lload_n 2, 1) := by decide +kernel
theorem dX6_rowsOfSize_26 : decode cX6_rowsOfSize 26 = .ok (.lreturn, 1) := by decide +kernel
theorem dX6_makeByLevels_0 : decode cX6_makeByLevels 0 = .ok (.aload_n 0, 1) := by decide +kernel
theorem dX6_makeByLevels_1 : decode cX6_makeByLevels 1 = .ok (.getfield 276, 3) := by decide +kernel
theorem dX6_makeByLevels_4 : decode cX6_makeByLevels 4 = .ok (.ifnonnull 14, 3) := by decide +kernel
theorem dX6_makeByLevels_7 : decode cX6_makeByLevels 7 = .ok (.aload_n 0, 1) := by decide +kernel
theorem dX6_makeByLevels_8 : decode cX6_makeByLevels 8 = .ok (.new 280, 3) := by decide +kernel
theorem dX6_makeByLevels_11 : decode cX6_makeByLevels 11 = .ok (.dup, 1) := by decide +kernel
theorem dX6_makeByLevels_12 : decode cX6_makeByLevels 12 = .ok (.invokespecial 282, 3) := by decide +kernel
theorem dX6_makeByLevels_15 : decode cX6_makeByLevels 15 = .ok (.putfield 276, 3) := by decide +kernel
theorem dX6_makeByLevels_18 : decode cX6_makeByLevels 18 = .ok (.aload_n 0, 1) := by decide +kernel
theorem dX6_makeByLevels_19 : decode cX6_makeByLevels 19 = .ok (.getfield 276, 3) := by decide +kernel
theorem dX6_makeByLevels_22 : decode cX6_makeByLevels 22 = .ok (.aload_n 0, 1) := by decide +kernel
theorem dX6_makeByLevels_23 : decode cX6_makeByLevels 23 = .ok (.getfield 9, 3) := by decide +kernel
theorem dX6_makeByLevels_26 : decode cX6_makeByLevels 26 = .ok (.aload_n 0, 1) := by decide +kernel
theorem dX6_makeByLevels_27 : decode cX6_makeByLevels 27 = .ok (.getfield 60, 3) := by decide +kernel
theorem dX6_makeByLevels_30 : decode cX6_makeByLevels 30 = .ok (.aload_n 0, 1) := by decide +kernel
theorem dX6_makeByLevels_31 : decode cX6_makeByLevels 31 = .ok (.invokevirtual 262, 3) := by decide +kernel
theorem dX6_makeByLevels_34 : decode cX6_makeByLevels 34 = .ok (.iload_n 3, 1) := by decide +kernel
theorem dX6_makeByLevels_35 : decode cX6_makeByLevels 35 = .ok (.invokevirtual 283, 3) := by decide +kernel
theorem dX6_makeByLevels_38 : decode cX6_makeByLevels 38 = .ok (.aload_n 0, 1) := by decide +kernel
theorem dX6_makeByLevels_39 : decode cX6_makeByLevels 39 = .ok (.getfield 276, 3) := by decide +kernel
theorem dX6_makeByLevels_42 : decode cX6_makeByLevels 42 = .ok (.aload_n 1, 1) := by decide +kernel
theorem dX6_makeByLevels_43 : decode cX6_makeByLevels 43 = .ok (.aload_n 2, 1) := by decide +kernel
theorem dX6_makeByLevels_44 : decode cX6_makeByLevels 44 = .ok (.aload_n 0, 1) := by decide +kernel
theorem dX6_makeByLevels_45 : decode cX6_makeByLevels 45 = .ok (.getfield 77, 3) := by decide +kernel
theorem dX6_makeByLevels_48 : decode cX6_makeByLevels 48 = .ok (.invokevirtual 287, 3) := by decide +kernel
theorem dX6_makeByLevels_51 : decode cX6_makeByLevels 51 = .ok (.ireturn, 1) := by decide +kernel
theorem dX6_orders_0 : decode cX6_orders 0 = .ok (.aload_n 0, 1) := by decide +kernel
theorem dX6_orders_1 : decode cX6_orders 1 = .ok (.getfield 289, 3) := by decide +kernel
theorem dX6_orders_4 : decode cX6_orders 4 = .ok (.ifnonnull 14, 3) := by decide +kernel
theorem dX6_orders_7 : decode cX6_orders 7 = .ok (.aload_n 0, 1) := by decide +kernel
theorem dX6_orders_8 : decode cX6_orders 8 = .ok (.new 106, 3) := by decide +kernel
theorem dX6_orders_11 : decode cX6_orders 11 = .ok (.dup, 1) := by decide +kernel
theorem dX6_orders_12 : decode cX6_orders 12 = .ok (.invokespecial 293, 3) := by decide +kernel
theorem dX6_orders_15 : decode cX6_orders 15 = .ok (.putfield 289, 3) := by decide +kernel
theorem dX6_orders_18 : decode cX6_orders 18 = .ok (.aload_n 0, 1) := by decide +kernel
theorem dX6_orders_19 : decode cX6_orders 19 = .ok (.getfield 289, 3) := by decide +kernel
theorem dX6_orders_22 : decode cX6_orders 22 = .ok (.areturn, 1) := by decide +kernel
theorem dX6_makeEnded_0 : decode cX6_makeEnded 0 = .ok (.aload_n 1, 1) := by decide +kernel
theorem dX6_makeEnded_1 : decode cX6_makeEnded 1 = .ok (.aload_n 0, 1) := by decide +kernel
theorem dX6_makeEnded_2 : decode cX6_makeEnded 2 = .ok (.getfield 77, 3) := by decide +kernel
theorem dX6_makeEnded_5 : decode cX6_makeEnded 5 = .ok (.invokevirtual 69, 3) := by decide +kernel
theorem dX6_makeEnded_8 : decode cX6_makeEnded 8 = .ok (.aload_n 0, 1) := by decide +kernel
theorem dX6_makeEnded_9 : decode cX6_makeEnded 9 = .ok (.getfield 16, 3) := by decide +kernel
theorem dX6_makeEnded_12 : decode cX6_makeEnded 12 = .ok (.aload_n 0, 1) := by decide +kernel
theorem dX6_makeEnded_13 : decode cX6_makeEnded 13 = .ok (.getfield 13, 3) := by decide +kernel
theorem dX6_makeEnded_16 : decode cX6_makeEnded 16 = .ok (.aload_n 0, 1) := by decide +kernel
theorem dX6_makeEnded_17 : decode cX6_makeEnded 17 = .ok (.getfield 77, 3) := by decide +kernel
theorem dX6_makeEnded_20 : decode cX6_makeEnded 20 = .ok (.invokestatic 258, 3) := by decide +kernel
theorem dX6_makeEnded_23 : decode cX6_makeEnded 23 = .ok (.aload_n 0, 1) := by decide +kernel
theorem dX6_makeEnded_24 : decode cX6_makeEnded 24 = .ok (.getfield 35, 3) := by decide +kernel
theorem dX6_makeEnded_27 : decode cX6_makeEnded 27 = .ok (.invokevirtual 294, 3) := by decide +kernel
theorem dX6_makeEnded_30 : decode cX6_makeEnded 30 = .ok (.iconst 0, 1) := by decide +kernel
theorem dX6_makeEnded_31 : decode cX6_makeEnded 31 = .ok (.istore_n 3, 1) := by decide +kernel
theorem dX6_makeEnded_32 : decode cX6_makeEnded 32 = .ok (.iload_n 3, 1) := by decide +kernel
theorem dX6_makeEnded_33 : decode cX6_makeEnded 33 = .ok (.aload_n 0, 1) := by decide +kernel
theorem dX6_makeEnded_34 : decode cX6_makeEnded 34 = .ok (.getfield 77, 3) := by decide +kernel
theorem dX6_makeEnded_37 : decode cX6_makeEnded 37 = .ok (.if_icmp .ge 129, 3) := by decide +kernel
theorem dX6_makeEnded_40 : decode cX6_makeEnded 40 = .ok (.aload_n 0, 1) := by decide +kernel
theorem dX6_makeEnded_41 : decode cX6_makeEnded 41 = .ok (.getfield 35, 3) := by decide +kernel
theorem dX6_makeEnded_44 : decode cX6_makeEnded 44 = .ok (.invokevirtual 297, 3) := by decide +kernel
theorem dX6_makeEnded_47 : decode cX6_makeEnded 47 = .ok (.ifCond .eq 119, 3) := by decide +kernel
theorem dX6_makeEnded_50 : decode cX6_makeEnded 50 = .ok (.aload_n 0, 1) := by decide +kernel
theorem dX6_makeEnded_51 : decode cX6_makeEnded 51 = .ok (.getfield 35, 3) := by decide +kernel
theorem dX6_makeEnded_54 : decode cX6_makeEnded 54 = .ok (.invokevirtual 300, 3) := by decide +kernel
theorem dX6_makeEnded_57 : decode cX6_makeEnded 57 = .ok (.lstore 4, 2) := by decide +kernel
theorem dX6_makeEnded_59 : decode cX6_makeEnded 59 = .ok (.aload_n 0, 1) := by decide +kernel
theorem dX6_makeEnded_60 : decode cX6_makeEnded 60 = .ok (.getfield 35, 3) := by decide +kernel
theorem dX6_makeEnded_63 : decode cX6_makeEnded 63 = .ok (.invokevirtual 303, 3) := by decide +kernel
theorem dX6_makeEnded_66 : decode cX6_makeEnded 66 = .ok (.istore 6, 2) := by decide +kernel
theorem dX6_makeEnded_68 : decode cX6_makeEnded 68 = .ok (.aload_n 0, 1) := by decide +kernel
theorem dX6_makeEnded_69 : decode cX6_makeEnded 69 = .ok (.getfield 35, 3) := by decide +kernel
theorem dX6_makeEnded_72 : decode cX6_makeEnded 72 = .ok (.invokevirtual 306, 3) := by decide +kernel
theorem dX6_makeEnded_75 : decode cX6_makeEnded 75 = .ok (.istore 7, 2) := by decide +kernel
theorem dX6_makeEnded_77 : decode cX6_makeEnded 77 = .ok (.aload_n 0, 1) := by decide +kernel
theorem dX6_makeEnded_78 : decode cX6_makeEnded 78 = .ok (.getfield 35, 3) := by decide +kernel
theorem dX6_makeEnded_81 : decode cX6_makeEnded 81 = .ok (.invokevirtual 309, 3) := by decide +kernel
theorem dX6_makeEnded_84 : decode cX6_makeEnded 84 = .ok (.aload_n 1, 1) := by decide +kernel
theorem dX6_makeEnded_85 : decode cX6_makeEnded 85 = .ok (.aload_n 0, 1) := by decide +kernel
theorem dX6_makeEnded_86 : decode cX6_makeEnded 86 = .ok (.getfield 16, 3) := by decide +kernel
theorem dX6_makeEnded_89 : decode cX6_makeEnded 89 = .ok (.iload_n 3, 1) := by decide +kernel
theorem dX6_makeEnded_90 : decode cX6_makeEnded 90 = .ok (.iaload, 1) := by decide +kernel
theorem dX6_makeEnded_91 : decode cX6_makeEnded 91 = .ok (.lload 4, 2) := by decide +kernel
theorem dX6_makeEnded_93 : decode cX6_makeEnded 93 = .ok (.iload 6, 2) := by decide +kernel
theorem dX6_makeEnded_95 : decode cX6_makeEnded 95 = .ok (.iload_n 2, 1) := by decide +kernel
theorem dX6_makeEnded_96 : decode cX6_makeEnded 96 = .ok (.invokestatic 143, 3) := by decide +kernel
theorem dX6_makeEnded_99 : decode cX6_makeEnded 99 = .ok (.iload 6, 2) := by decide +kernel
theorem dX6_makeEnded_101 : decode cX6_makeEnded 101 = .ok (.iconst 1, 1) := by decide +kernel
theorem dX6_makeEnded_102 : decode cX6_makeEnded 102 = .ok (.iadd, 1) := by decide +kernel
theorem dX6_makeEnded_103 : decode cX6_makeEnded 103 = .ok (.invokevirtual 147, 3) := by decide +kernel
theorem dX6_makeEnded_106 : decode cX6_makeEnded 106 = .ok (.iconst 0, 1) := by decide +kernel
theorem dX6_makeEnded_107 : decode cX6_makeEnded 107 = .ok (.istore 8, 2) := by decide +kernel
theorem dX6_makeEnded_109 : decode cX6_makeEnded 109 = .ok (.iload 8, 2) := by decide +kernel
theorem dX6_makeEnded_111 : decode cX6_makeEnded 111 = .ok (.aload_n 0, 1) := by decide +kernel
theorem dX6_makeEnded_112 : decode cX6_makeEnded 112 = .ok (.getfield 60, 3) := by decide +kernel
theorem dX6_makeEnded_115 : decode cX6_makeEnded 115 = .ok (.if_icmp .ge 45, 3) := by decide +kernel
theorem dX6_makeEnded_118 : decode cX6_makeEnded 118 = .ok (.iload 8, 2) := by decide +kernel
theorem dX6_makeEnded_120 : decode cX6_makeEnded 120 = .ok (.iload_n 2, 1) := by decide +kernel
theorem dX6_makeEnded_121 : decode cX6_makeEnded 121 = .ok (.if_icmp .eq 33, 3) := by decide +kernel
theorem dX6_makeEnded_124 : decode cX6_makeEnded 124 = .ok (.aload_n 0, 1) := by decide +kernel
theorem dX6_makeEnded_125 : decode cX6_makeEnded 125 = .ok (.getfield 35, 3) := by decide +kernel
theorem dX6_makeEnded_128 : decode cX6_makeEnded 128 = .ok (.lload 4, 2) := by decide +kernel
theorem dX6_makeEnded_130 : decode cX6_makeEnded 130 = .ok (.iload 6, 2) := by decide +kernel
theorem dX6_makeEnded_132 : decode cX6_makeEnded 132 = .ok (.iload 8, 2) := by decide +kernel
theorem dX6_makeEnded_134 : decode cX6_makeEnded 134 = .ok (.invokestatic 143, 3) := by decide +kernel
theorem dX6_makeEnded_137 : decode cX6_makeEnded 137 = .ok (.iload 6, 2) := by decide +kernel
theorem dX6_makeEnded_139 : decode cX6_makeEnded 139 = .ok (.iconst 1, 1) := by decide +kernel
theorem dX6_makeEnded_140 : decode cX6_makeEnded 140 = .ok (.iadd, 1) := by decide +kernel
theorem dX6_makeEnded_141 : decode cX6_makeEnded 141 = .ok (.iload 7, 2) := by decide +kernel
theorem dX6_makeEnded_143 : decode cX6_makeEnded 143 = .ok (.aload_n 0, 1) := by decide +kernel
theorem dX6_makeEnded_144 : decode cX6_makeEnded 144 = .ok (.getfield 9, 3) := by decide +kernel
theorem dX6_makeEnded_147 : decode cX6_makeEnded 147 = .ok (.iload 8, 2) := by decide +kernel
theorem dX6_makeEnded_149 : decode cX6_makeEnded 149 = .ok (.iaload, 1) := by decide +kernel
theorem dX6_makeEnded_150 : decode cX6_makeEnded 150 = .ok (.iadd, 1) := by decide +kernel
theorem dX6_makeEnded_151 : decode cX6_makeEnded 151 = .ok (.invokevirtual 312, 3) := by decide +kernel
theorem dX6_makeEnded_154 : decode cX6_makeEnded 154 = .ok (.iinc 8 1, 3) := by decide +kernel
theorem dX6_makeEnded_157 : decode cX6_makeEnded 157 = .ok (.goto (-48), 3) := by decide +kernel
theorem dX6_makeEnded_160 : decode cX6_makeEnded 160 = .ok (.iinc 3 1, 3) := by decide +kernel
theorem dX6_makeEnded_163 : decode cX6_makeEnded 163 = .ok (.goto (-131), 3) := by decide +kernel
theorem dX6_makeEnded_166 : decode cX6_makeEnded 166 = .ok (.return_, 1) := by decide +kernel
theorem dX6_makeCanon_0 : decode cX6_makeCanon 0 = .ok (.aload_n 1, 1) := by decide +kernel
theorem dX6_makeCanon_1 : decode cX6_makeCanon 1 = .ok (.aload_n 0, 1) := by decide +kernel
theorem dX6_makeCanon_2 : decode cX6_makeCanon 2 = .ok (.getfield 42, 3) := by decide +kernel
theorem dX6_makeCanon_5 : decode cX6_makeCanon 5 = .ok (.getfield 151, 3) := by decide +kernel
theorem dX6_makeCanon_8 : decode cX6_makeCanon 8 = .ok (.invokevirtual 69, 3) := by decide +kernel
theorem dX6_makeCanon_11 : decode cX6_makeCanon 11 = .ok (.aload_n 0, 1) := by decide +kernel
theorem dX6_makeCanon_12 : decode cX6_makeCanon 12 = .ok (.getfield 42, 3) := by decide +kernel
theorem dX6_makeCanon_15 : decode cX6_makeCanon 15 = .ok (.aload_n 0, 1) := by decide +kernel
theorem dX6_makeCanon_16 : decode cX6_makeCanon 16 = .ok (.getfield 16, 3) := by decide +kernel
theorem dX6_makeCanon_19 : decode cX6_makeCanon 19 = .ok (.invokevirtual 316, 3) := by decide +kernel
theorem dX6_makeCanon_22 : decode cX6_makeCanon 22 = .ok (.lconst 0, 1) := by decide +kernel
theorem dX6_makeCanon_23 : decode cX6_makeCanon 23 = .ok (.lstore_n 2, 1) := by decide +kernel
theorem dX6_makeCanon_24 : decode cX6_makeCanon 24 = .ok (.iconst 0, 1) := by decide +kernel
theorem dX6_makeCanon_25 : decode cX6_makeCanon 25 = .ok (.istore 4, 2) := by decide +kernel
theorem dX6_makeCanon_27 : decode cX6_makeCanon 27 = .ok (.iconst 0, 1) := by decide +kernel
theorem dX6_makeCanon_28 : decode cX6_makeCanon 28 = .ok (.istore 5, 2) := by decide +kernel
theorem dX6_makeCanon_30 : decode cX6_makeCanon 30 = .ok (.iload 5, 2) := by decide +kernel
theorem dX6_makeCanon_32 : decode cX6_makeCanon 32 = .ok (.aload_n 0, 1) := by decide +kernel
theorem dX6_makeCanon_33 : decode cX6_makeCanon 33 = .ok (.getfield 42, 3) := by decide +kernel
theorem dX6_makeCanon_36 : decode cX6_makeCanon 36 = .ok (.getfield 151, 3) := by decide +kernel
theorem dX6_makeCanon_39 : decode cX6_makeCanon 39 = .ok (.if_icmp .ge 78, 3) := by decide +kernel
theorem dX6_makeCanon_42 : decode cX6_makeCanon 42 = .ok (.aload_n 0, 1) := by decide +kernel
theorem dX6_makeCanon_43 : decode cX6_makeCanon 43 = .ok (.getfield 16, 3) := by decide +kernel
theorem dX6_makeCanon_46 : decode cX6_makeCanon 46 = .ok (.iload 5, 2) := by decide +kernel
theorem dX6_makeCanon_48 : decode cX6_makeCanon 48 = .ok (.iaload, 1) := by decide +kernel
theorem dX6_makeCanon_49 : decode cX6_makeCanon 49 = .ok (.istore 6, 2) := by decide +kernel
theorem dX6_makeCanon_51 : decode cX6_makeCanon 51 = .ok (.aload_n 0, 1) := by decide +kernel
theorem dX6_makeCanon_52 : decode cX6_makeCanon 52 = .ok (.getfield 42, 3) := by decide +kernel
theorem dX6_makeCanon_55 : decode cX6_makeCanon 55 = .ok (.getfield 136, 3) := by decide +kernel
theorem dX6_makeCanon_58 : decode cX6_makeCanon 58 = .ok (.iload 6, 2) := by decide +kernel
theorem dX6_makeCanon_60 : decode cX6_makeCanon 60 = .ok (.iaload, 1) := by decide +kernel
theorem dX6_makeCanon_61 : decode cX6_makeCanon 61 = .ok (.ifCond .ne 5, 3) := by decide +kernel
theorem dX6_makeCanon_64 : decode cX6_makeCanon 64 = .ok (.iconst 0, 1) := by decide +kernel
theorem dX6_makeCanon_65 : decode cX6_makeCanon 65 = .ok (.ireturn, 1) := by decide +kernel
theorem dX6_makeCanon_66 : decode cX6_makeCanon 66 = .ok (.iload 5, 2) := by decide +kernel
theorem dX6_makeCanon_68 : decode cX6_makeCanon 68 = .ok (.ifCond .le 14, 3) := by decide +kernel
theorem dX6_makeCanon_71 : decode cX6_makeCanon 71 = .ok (.lload_n 2, 1) := by decide +kernel
theorem dX6_makeCanon_72 : decode cX6_makeCanon 72 = .ok (.iload 4, 2) := by decide +kernel
theorem dX6_makeCanon_74 : decode cX6_makeCanon 74 = .ok (.aload_n 0, 1) := by decide +kernel
theorem dX6_makeCanon_75 : decode cX6_makeCanon 75 = .ok (.getfield 60, 3) := by decide +kernel
theorem dX6_makeCanon_78 : decode cX6_makeCanon 78 = .ok (.invokestatic 320, 3) := by decide +kernel
theorem dX6_makeCanon_81 : decode cX6_makeCanon 81 = .ok (.lstore_n 2, 1) := by decide +kernel
theorem dX6_makeCanon_82 : decode cX6_makeCanon 82 = .ok (.lload_n 2, 1) := by decide +kernel
theorem dX6_makeCanon_83 : decode cX6_makeCanon 83 = .ok (.lconst 0, 1) := by decide +kernel
theorem dX6_makeCanon_84 : decode cX6_makeCanon 84 = .ok (.lcmp, 1) := by decide +kernel
theorem dX6_makeCanon_85 : decode cX6_makeCanon 85 = .ok (.ifCond .ge 5, 3) := by decide +kernel
theorem dX6_makeCanon_88 : decode cX6_makeCanon 88 = .ok (.iconst 0, 1) := by decide +kernel
theorem dX6_makeCanon_89 : decode cX6_makeCanon 89 = .ok (.ireturn, 1) := by decide +kernel
theorem dX6_makeCanon_90 : decode cX6_makeCanon 90 = .ok (.aload_n 0, 1) := by decide +kernel
theorem dX6_makeCanon_91 : decode cX6_makeCanon 91 = .ok (.getfield 42, 3) := by decide +kernel
theorem dX6_makeCanon_94 : decode cX6_makeCanon 94 = .ok (.getfield 136, 3) := by decide +kernel
theorem dX6_makeCanon_97 : decode cX6_makeCanon 97 = .ok (.iload 6, 2) := by decide +kernel
theorem dX6_makeCanon_99 : decode cX6_makeCanon 99 = .ok (.iaload, 1) := by decide +kernel
theorem dX6_makeCanon_100 : decode cX6_makeCanon 100 = .ok (.istore 4, 2) := by decide +kernel
theorem dX6_makeCanon_102 : decode cX6_makeCanon 102 = .ok (.aload_n 1, 1) := by decide +kernel
theorem dX6_makeCanon_103 : decode cX6_makeCanon 103 = .ok (.iload 6, 2) := by decide +kernel
theorem dX6_makeCanon_105 : decode cX6_makeCanon 105 = .ok (.lload_n 2, 1) := by decide +kernel
theorem dX6_makeCanon_106 : decode cX6_makeCanon 106 = .ok (.iload 4, 2) := by decide +kernel
theorem dX6_makeCanon_108 : decode cX6_makeCanon 108 = .ok (.invokevirtual 147, 3) := by decide +kernel
theorem dX6_makeCanon_111 : decode cX6_makeCanon 111 = .ok (.iinc 5 1, 3) := by decide +kernel
theorem dX6_makeCanon_114 : decode cX6_makeCanon 114 = .ok (.goto (-84), 3) := by decide +kernel
theorem dX6_makeCanon_117 : decode cX6_makeCanon 117 = .ok (.iconst 1, 1) := by decide +kernel
theorem dX6_makeCanon_118 : decode cX6_makeCanon 118 = .ok (.ireturn, 1) := by decide +kernel
theorem dX6_wholeOfFloat_0 : decode cX6_wholeOfFloat 0 = .ok (.iload_n 0, 1) := by decide +kernel
theorem dX6_wholeOfFloat_1 : decode cX6_wholeOfFloat 1 = .ok (.ldc_w 323, 3) := by decide +kernel
theorem dX6_wholeOfFloat_4 : decode cX6_wholeOfFloat 4 = .ok (.if_icmp .lt 10, 3) := by decide +kernel
theorem dX6_wholeOfFloat_7 : decode cX6_wholeOfFloat 7 = .ok (.iload_n 0, 1) := by decide +kernel
theorem dX6_wholeOfFloat_8 : decode cX6_wholeOfFloat 8 = .ok (.ldc_w 324, 3) := by decide +kernel
theorem dX6_wholeOfFloat_11 : decode cX6_wholeOfFloat 11 = .ok (.if_icmp .le 5, 3) := by decide +kernel
theorem dX6_wholeOfFloat_14 : decode cX6_wholeOfFloat 14 = .ok (.iconst 0, 1) := by decide +kernel
theorem dX6_wholeOfFloat_15 : decode cX6_wholeOfFloat 15 = .ok (.ireturn, 1) := by decide +kernel
theorem dX6_wholeOfFloat_16 : decode cX6_wholeOfFloat 16 = .ok (.iload_n 0, 1) := by decide +kernel
theorem dX6_wholeOfFloat_17 : decode cX6_wholeOfFloat 17 = .ok (.bipush 23, 2) := by decide +kernel
theorem dX6_wholeOfFloat_19 : decode cX6_wholeOfFloat 19 = .ok (.iushr, 1) := by decide +kernel
theorem dX6_wholeOfFloat_20 : decode cX6_wholeOfFloat 20 = .ok (.bipush 127, 2) := by decide +kernel
theorem dX6_wholeOfFloat_22 : decode cX6_wholeOfFloat 22 = .ok (.isub, 1) := by decide +kernel
theorem dX6_wholeOfFloat_23 : decode cX6_wholeOfFloat 23 = .ok (.istore_n 1, 1) := by decide +kernel
theorem dX6_wholeOfFloat_24 : decode cX6_wholeOfFloat 24 = .ok (.iload_n 0, 1) := by decide +kernel
theorem dX6_wholeOfFloat_25 : decode cX6_wholeOfFloat 25 = .ok (.ldc_w 325, 3) := by decide +kernel
theorem dX6_wholeOfFloat_28 : decode cX6_wholeOfFloat 28 = .ok (.iand, 1) := by decide +kernel
theorem dX6_wholeOfFloat_29 : decode cX6_wholeOfFloat 29 = .ok (.ldc_w 326, 3) := by decide +kernel
theorem dX6_wholeOfFloat_32 : decode cX6_wholeOfFloat 32 = .ok (.ior, 1) := by decide +kernel
theorem dX6_wholeOfFloat_33 : decode cX6_wholeOfFloat 33 = .ok (.istore_n 2, 1) := by decide +kernel
theorem dX6_wholeOfFloat_34 : decode cX6_wholeOfFloat 34 = .ok (.iload_n 2, 1) := by decide +kernel
theorem dX6_wholeOfFloat_35 : decode cX6_wholeOfFloat 35 = .ok (.bipush 23, 2) := by decide +kernel
theorem dX6_wholeOfFloat_37 : decode cX6_wholeOfFloat 37 = .ok (.iload_n 1, 1) := by decide +kernel
theorem dX6_wholeOfFloat_38 : decode cX6_wholeOfFloat 38 = .ok (.isub, 1) := by decide +kernel
theorem dX6_wholeOfFloat_39 : decode cX6_wholeOfFloat 39 = .ok (.iushr, 1) := by decide +kernel
theorem dX6_wholeOfFloat_40 : decode cX6_wholeOfFloat 40 = .ok (.ireturn, 1) := by decide +kernel
theorem dX6_bitsOfDouble_0 : decode cX6_bitsOfDouble 0 = .ok (.dload_n 0, 1) := by decide +kernel
theorem dX6_bitsOfDouble_1 : decode cX6_bitsOfDouble 1 = .ok (.dconst 0, 1) := by decide +kernel
theorem dX6_bitsOfDouble_2 : decode cX6_bitsOfDouble 2 = .ok (.dcmp .l, 1) := by decide +kernel
theorem dX6_bitsOfDouble_3 : decode cX6_bitsOfDouble 3 = .ok (.ifCond .gt 5, 3) := by decide +kernel
theorem dX6_bitsOfDouble_6 : decode cX6_bitsOfDouble 6 = .ok (.lconst 0, 1) := by decide +kernel
theorem dX6_bitsOfDouble_7 : decode cX6_bitsOfDouble 7 = .ok (.lreturn, 1) := by decide +kernel
theorem dX6_bitsOfDouble_8 : decode cX6_bitsOfDouble 8 = .ok (.dload_n 0, 1) := by decide +kernel
theorem dX6_bitsOfDouble_9 : decode cX6_bitsOfDouble 9 = .ok (.dstore_n 2, 1) := by decide +kernel
theorem dX6_bitsOfDouble_10 : decode cX6_bitsOfDouble 10 = .ok (.iconst 0, 1) := by decide +kernel
theorem dX6_bitsOfDouble_11 : decode cX6_bitsOfDouble 11 = .ok (.istore 4, 2) := by decide +kernel
theorem dX6_bitsOfDouble_13 : decode cX6_bitsOfDouble 13 = .ok (.iconst 0, 1) := by decide +kernel
theorem dX6_bitsOfDouble_14 : decode cX6_bitsOfDouble 14 = .ok (.istore 5, 2) := by decide +kernel
theorem dX6_bitsOfDouble_16 : decode cX6_bitsOfDouble 16 = .ok (.iload 5, 2) := by decide +kernel
theorem dX6_bitsOfDouble_18 : decode cX6_bitsOfDouble 18 = .ok (.sipush 1000, 3) := by decide +kernel
theorem dX6_bitsOfDouble_21 : decode cX6_bitsOfDouble 21 = .ok (.if_icmp .ge 26, 3) := by decide +kernel
theorem dX6_bitsOfDouble_24 : decode cX6_bitsOfDouble 24 = .ok (.dload_n 2, 1) := by decide +kernel
theorem dX6_bitsOfDouble_25 : decode cX6_bitsOfDouble 25 = .ok (.ldc2_w 327, 3) := by decide +kernel
theorem dX6_bitsOfDouble_28 : decode cX6_bitsOfDouble 28 = .ok (.dcmp .l, 1) := by decide +kernel
theorem dX6_bitsOfDouble_29 : decode cX6_bitsOfDouble 29 = .ok (.ifCond .lt 18, 3) := by decide +kernel
theorem dX6_bitsOfDouble_32 : decode cX6_bitsOfDouble 32 = .ok (.dload_n 2, 1) := by decide +kernel
theorem dX6_bitsOfDouble_33 : decode cX6_bitsOfDouble 33 = .ok (.ldc2_w 327, 3) := by decide +kernel
theorem dX6_bitsOfDouble_36 : decode cX6_bitsOfDouble 36 = .ok (.ddiv, 1) := by decide +kernel
theorem dX6_bitsOfDouble_37 : decode cX6_bitsOfDouble 37 = .ok (.dstore_n 2, 1) := by decide +kernel
theorem dX6_bitsOfDouble_38 : decode cX6_bitsOfDouble 38 = .ok (.iinc 4 1, 3) := by decide +kernel
theorem dX6_bitsOfDouble_41 : decode cX6_bitsOfDouble 41 = .ok (.iinc 5 1, 3) := by decide +kernel
theorem dX6_bitsOfDouble_44 : decode cX6_bitsOfDouble 44 = .ok (.goto (-28), 3) := by decide +kernel
theorem dX6_bitsOfDouble_47 : decode cX6_bitsOfDouble 47 = .ok (.iconst 0, 1) := by decide +kernel
theorem dX6_bitsOfDouble_48 : decode cX6_bitsOfDouble 48 = .ok (.istore 5, 2) := by decide +kernel
theorem dX6_bitsOfDouble_50 : decode cX6_bitsOfDouble 50 = .ok (.iload 5, 2) := by decide +kernel
theorem dX6_bitsOfDouble_52 : decode cX6_bitsOfDouble 52 = .ok (.sipush 1000, 3) := by decide +kernel
theorem dX6_bitsOfDouble_55 : decode cX6_bitsOfDouble 55 = .ok (.if_icmp .ge 24, 3) := by decide +kernel
theorem dX6_bitsOfDouble_58 : decode cX6_bitsOfDouble 58 = .ok (.dload_n 2, 1) := by decide +kernel
theorem dX6_bitsOfDouble_59 : decode cX6_bitsOfDouble 59 = .ok (.dconst 1, 1) := by decide +kernel
theorem dX6_bitsOfDouble_60 : decode cX6_bitsOfDouble 60 = .ok (.dcmp .g, 1) := by decide +kernel
theorem dX6_bitsOfDouble_61 : decode cX6_bitsOfDouble 61 = .ok (.ifCond .ge 18, 3) := by decide +kernel
theorem dX6_bitsOfDouble_64 : decode cX6_bitsOfDouble 64 = .ok (.dload_n 2, 1) := by decide +kernel
theorem dX6_bitsOfDouble_65 : decode cX6_bitsOfDouble 65 = .ok (.ldc2_w 327, 3) := by decide +kernel
theorem dX6_bitsOfDouble_68 : decode cX6_bitsOfDouble 68 = .ok (.dmul, 1) := by decide +kernel
theorem dX6_bitsOfDouble_69 : decode cX6_bitsOfDouble 69 = .ok (.dstore_n 2, 1) := by decide +kernel
theorem dX6_bitsOfDouble_70 : decode cX6_bitsOfDouble 70 = .ok (.iinc 4 (-1), 3) := by decide +kernel
theorem dX6_bitsOfDouble_73 : decode cX6_bitsOfDouble 73 = .ok (.iinc 5 1, 3) := by decide +kernel
theorem dX6_bitsOfDouble_76 : decode cX6_bitsOfDouble 76 = .ok (.goto (-26), 3) := by decide +kernel
theorem dX6_bitsOfDouble_79 : decode cX6_bitsOfDouble 79 = .ok (.dload_n 2, 1) := by decide +kernel
theorem dX6_bitsOfDouble_80 : decode cX6_bitsOfDouble 80 = .ok (.dconst 1, 1) := by decide +kernel
theorem dX6_bitsOfDouble_81 : decode cX6_bitsOfDouble 81 = .ok (.dsub, 1) := by decide +kernel
theorem dX6_bitsOfDouble_82 : decode cX6_bitsOfDouble 82 = .ok (.ldc2_w 329, 3) := by decide +kernel
theorem dX6_bitsOfDouble_85 : decode cX6_bitsOfDouble 85 = .ok (.dmul, 1) := by decide +kernel
theorem dX6_bitsOfDouble_86 : decode cX6_bitsOfDouble 86 = .ok (.d2l, 1) := by decide +kernel
theorem dX6_bitsOfDouble_87 : decode cX6_bitsOfDouble 87 = .ok (.lstore 5, 2) := by decide +kernel
theorem dX6_bitsOfDouble_89 : decode cX6_bitsOfDouble 89 = .ok (.iload 4, 2) := by decide +kernel
theorem dX6_bitsOfDouble_91 : decode cX6_bitsOfDouble 91 = .ok (.i2l, 1) := by decide +kernel
theorem dX6_bitsOfDouble_92 : decode cX6_bitsOfDouble 92 = .ok (.ldc2_w 331, 3) := by decide +kernel
theorem dX6_bitsOfDouble_95 : decode cX6_bitsOfDouble 95 = .ok (.ladd, 1) := by decide +kernel
theorem dX6_bitsOfDouble_96 : decode cX6_bitsOfDouble 96 = .ok (.bipush 52, 2) := by decide +kernel
theorem dX6_bitsOfDouble_98 : decode cX6_bitsOfDouble 98 = .ok (.lshl, 1) := by decide +kernel
theorem dX6_bitsOfDouble_99 : decode cX6_bitsOfDouble 99 = .ok (.lload 5, 2) := by decide +kernel
theorem dX6_bitsOfDouble_101 : decode cX6_bitsOfDouble 101 = .ok (.lor, 1) := by decide +kernel
theorem dX6_bitsOfDouble_102 : decode cX6_bitsOfDouble 102 = .ok (.lreturn, 1) := by decide +kernel
theorem dX6_signOfRow_0 : decode cX6_signOfRow 0 = .ok (.lload_n 0, 1) := by decide +kernel
theorem dX6_signOfRow_1 : decode cX6_signOfRow 1 = .ok (.iconst 2, 1) := by decide +kernel
theorem dX6_signOfRow_2 : decode cX6_signOfRow 2 = .ok (.bipush 23, 2) := by decide +kernel
theorem dX6_signOfRow_4 : decode cX6_signOfRow 4 = .ok (.iload_n 2, 1) := by decide +kernel
theorem dX6_signOfRow_5 : decode cX6_signOfRow 5 = .ok (.isub, 1) := by decide +kernel
theorem dX6_signOfRow_6 : decode cX6_signOfRow 6 = .ok (.imul, 1) := by decide +kernel
theorem dX6_signOfRow_7 : decode cX6_signOfRow 7 = .ok (.lushr, 1) := by decide +kernel
theorem dX6_signOfRow_8 : decode cX6_signOfRow 8 = .ok (.l2i, 1) := by decide +kernel
theorem dX6_signOfRow_9 : decode cX6_signOfRow 9 = .ok (.iconst 3, 1) := by decide +kernel
theorem dX6_signOfRow_10 : decode cX6_signOfRow 10 = .ok (.iand, 1) := by decide +kernel
theorem dX6_signOfRow_11 : decode cX6_signOfRow 11 = .ok (.ireturn, 1) := by decide +kernel
theorem dX6_rowAndSign_0 : decode cX6_rowAndSign 0 = .ok (.iload_n 2, 1) := by decide +kernel
theorem dX6_rowAndSign_1 : decode cX6_rowAndSign 1 = .ok (.bipush 24, 2) := by decide +kernel
theorem dX6_rowAndSign_3 : decode cX6_rowAndSign 3 = .ok (.if_icmp .lt 7, 3) := by decide +kernel
theorem dX6_rowAndSign_6 : decode cX6_rowAndSign 6 = .ok (.lload_n 0, 1) := by decide +kernel
theorem dX6_rowAndSign_7 : decode cX6_rowAndSign 7 = .ok (.goto 14, 3) := by decide +kernel
theorem dX6_rowAndSign_10 : decode cX6_rowAndSign 10 = .ok (.lload_n 0, 1) := by decide +kernel
theorem dX6_rowAndSign_11 : decode cX6_rowAndSign 11 = .ok (.iload_n 3, 1) := by decide +kernel
theorem dX6_rowAndSign_12 : decode cX6_rowAndSign 12 = .ok (.i2l, 1) := by decide +kernel
theorem dX6_rowAndSign_13 : decode cX6_rowAndSign 13 = .ok (.iconst 2, 1) := by decide +kernel
theorem dX6_rowAndSign_14 : decode cX6_rowAndSign 14 = .ok (.bipush 23, 2) := by decide +kernel
theorem dX6_rowAndSign_16 : decode cX6_rowAndSign 16 = .ok (.iload_n 2, 1) := by decide +kernel
theorem dX6_rowAndSign_17 : decode cX6_rowAndSign 17 = .ok (.isub, 1) := by decide +kernel
theorem dX6_rowAndSign_18 : decode cX6_rowAndSign 18 = .ok (.imul, 1) := by decide +kernel
theorem dX6_rowAndSign_19 : decode cX6_rowAndSign 19 = .ok (.lshl, 1) := by decide +kernel
theorem dX6_rowAndSign_20 : decode cX6_rowAndSign 20 = .ok (.lor, 1) := by decide +kernel
theorem dX6_rowAndSign_21 : decode cX6_rowAndSign 21 = .ok (.lreturn, 1) := by decide +kernel
theorem dX6_alikeSigns_0 : decode cX6_alikeSigns 0 = .ok (.lload_n 0, 1) := by decide +kernel
theorem dX6_alikeSigns_1 : decode cX6_alikeSigns 1 = .ok (.lload_n 2, 1) := by decide +kernel
theorem dX6_alikeSigns_2 : decode cX6_alikeSigns 2 = .ok (.lxor, 1) := by decide +kernel
theorem dX6_alikeSigns_3 : decode cX6_alikeSigns 3 = .ok (.invokestatic 333, 3) := by decide +kernel
theorem dX6_alikeSigns_6 : decode cX6_alikeSigns 6 = .ok (.bipush 16, 2) := by decide +kernel
theorem dX6_alikeSigns_8 : decode cX6_alikeSigns 8 = .ok (.isub, 1) := by decide +kernel
theorem dX6_alikeSigns_9 : decode cX6_alikeSigns 9 = .ok (.iconst 1, 1) := by decide +kernel
theorem dX6_alikeSigns_10 : decode cX6_alikeSigns 10 = .ok (.ishr, 1) := by decide +kernel
theorem dX6_alikeSigns_11 : decode cX6_alikeSigns 11 = .ok (.ireturn, 1) := by decide +kernel
theorem dX6_rowBehind_0 : decode cX6_rowBehind 0 = .ok (.lload_n 0, 1) := by decide +kernel
theorem dX6_rowBehind_1 : decode cX6_rowBehind 1 = .ok (.lstore 4, 2) := by decide +kernel
theorem dX6_rowBehind_3 : decode cX6_rowBehind 3 = .ok (.iload_n 2, 1) := by decide +kernel
theorem dX6_rowBehind_4 : decode cX6_rowBehind 4 = .ok (.iconst 1, 1) := by decide +kernel
theorem dX6_rowBehind_5 : decode cX6_rowBehind 5 = .ok (.isub, 1) := by decide +kernel
theorem dX6_rowBehind_6 : decode cX6_rowBehind 6 = .ok (.istore 6, 2) := by decide +kernel
theorem dX6_rowBehind_8 : decode cX6_rowBehind 8 = .ok (.iload 6, 2) := by decide +kernel
theorem dX6_rowBehind_10 : decode cX6_rowBehind 10 = .ok (.ifCond .lt 54, 3) := by decide +kernel
theorem dX6_rowBehind_13 : decode cX6_rowBehind 13 = .ok (.lconst 1, 1) := by decide +kernel
theorem dX6_rowBehind_14 : decode cX6_rowBehind 14 = .ok (.iconst 2, 1) := by decide +kernel
theorem dX6_rowBehind_15 : decode cX6_rowBehind 15 = .ok (.bipush 23, 2) := by decide +kernel
theorem dX6_rowBehind_17 : decode cX6_rowBehind 17 = .ok (.iload 6, 2) := by decide +kernel
theorem dX6_rowBehind_19 : decode cX6_rowBehind 19 = .ok (.isub, 1) := by decide +kernel
theorem dX6_rowBehind_20 : decode cX6_rowBehind 20 = .ok (.imul, 1) := by decide +kernel
theorem dX6_rowBehind_21 : decode cX6_rowBehind 21 = .ok (.lshl, 1) := by decide +kernel
theorem dX6_rowBehind_22 : decode cX6_rowBehind 22 = .ok (.lstore 7, 2) := by decide +kernel
theorem dX6_rowBehind_24 : decode cX6_rowBehind 24 = .ok (.lload 4, 2) := by decide +kernel
theorem dX6_rowBehind_26 : decode cX6_rowBehind 26 = .ok (.iload 6, 2) := by decide +kernel
theorem dX6_rowBehind_28 : decode cX6_rowBehind 28 = .ok (.invokestatic 166, 3) := by decide +kernel
theorem dX6_rowBehind_31 : decode cX6_rowBehind 31 = .ok (.istore 9, 2) := by decide +kernel
theorem dX6_rowBehind_33 : decode cX6_rowBehind 33 = .ok (.iload 9, 2) := by decide +kernel
theorem dX6_rowBehind_35 : decode cX6_rowBehind 35 = .ok (.iload_n 3, 1) := by decide +kernel
theorem dX6_rowBehind_36 : decode cX6_rowBehind 36 = .ok (.iconst 1, 1) := by decide +kernel
theorem dX6_rowBehind_37 : decode cX6_rowBehind 37 = .ok (.isub, 1) := by decide +kernel
theorem dX6_rowBehind_38 : decode cX6_rowBehind 38 = .ok (.if_icmp .ge 9, 3) := by decide +kernel
theorem dX6_rowBehind_41 : decode cX6_rowBehind 41 = .ok (.lload 4, 2) := by decide +kernel
theorem dX6_rowBehind_43 : decode cX6_rowBehind 43 = .ok (.lload 7, 2) := by decide +kernel
theorem dX6_rowBehind_45 : decode cX6_rowBehind 45 = .ok (.ladd, 1) := by decide +kernel
theorem dX6_rowBehind_46 : decode cX6_rowBehind 46 = .ok (.lreturn, 1) := by decide +kernel
theorem dX6_rowBehind_47 : decode cX6_rowBehind 47 = .ok (.lload 4, 2) := by decide +kernel
theorem dX6_rowBehind_49 : decode cX6_rowBehind 49 = .ok (.iload 9, 2) := by decide +kernel
theorem dX6_rowBehind_51 : decode cX6_rowBehind 51 = .ok (.i2l, 1) := by decide +kernel
theorem dX6_rowBehind_52 : decode cX6_rowBehind 52 = .ok (.lload 7, 2) := by decide +kernel
theorem dX6_rowBehind_54 : decode cX6_rowBehind 54 = .ok (.lmul, 1) := by decide +kernel
theorem dX6_rowBehind_55 : decode cX6_rowBehind 55 = .ok (.lsub, 1) := by decide +kernel
theorem dX6_rowBehind_56 : decode cX6_rowBehind 56 = .ok (.lstore 4, 2) := by decide +kernel
theorem dX6_rowBehind_58 : decode cX6_rowBehind 58 = .ok (.iinc 6 (-1), 3) := by decide +kernel
theorem dX6_rowBehind_61 : decode cX6_rowBehind 61 = .ok (.goto (-53), 3) := by decide +kernel
theorem dX6_rowBehind_64 : decode cX6_rowBehind 64 = .ok (.ldc2_w 181, 3) := by decide +kernel
theorem dX6_rowBehind_67 : decode cX6_rowBehind 67 = .ok (.lreturn, 1) := by decide +kernel
theorem dX6_rankThings_0 : decode cX6_rankThings 0 = .ok (.iconst 0, 1) := by decide +kernel
theorem dX6_rankThings_1 : decode cX6_rankThings 1 = .ok (.istore_n 3, 1) := by decide +kernel
theorem dX6_rankThings_2 : decode cX6_rankThings 2 = .ok (.iload_n 3, 1) := by decide +kernel
theorem dX6_rankThings_3 : decode cX6_rankThings 3 = .ok (.iload_n 2, 1) := by decide +kernel
theorem dX6_rankThings_4 : decode cX6_rankThings 4 = .ok (.if_icmp .ge 52, 3) := by decide +kernel
theorem dX6_rankThings_7 : decode cX6_rankThings 7 = .ok (.iload_n 3, 1) := by decide +kernel
theorem dX6_rankThings_8 : decode cX6_rankThings 8 = .ok (.istore 4, 2) := by decide +kernel
theorem dX6_rankThings_10 : decode cX6_rankThings 10 = .ok (.iload 4, 2) := by decide +kernel
theorem dX6_rankThings_12 : decode cX6_rankThings 12 = .ok (.ifCond .le 33, 3) := by decide +kernel
theorem dX6_rankThings_15 : decode cX6_rankThings 15 = .ok (.aload_n 1, 1) := by decide +kernel
theorem dX6_rankThings_16 : decode cX6_rankThings 16 = .ok (.aload_n 0, 1) := by decide +kernel
theorem dX6_rankThings_17 : decode cX6_rankThings 17 = .ok (.iload 4, 2) := by decide +kernel
theorem dX6_rankThings_19 : decode cX6_rankThings 19 = .ok (.iconst 1, 1) := by decide +kernel
theorem dX6_rankThings_20 : decode cX6_rankThings 20 = .ok (.isub, 1) := by decide +kernel
theorem dX6_rankThings_21 : decode cX6_rankThings 21 = .ok (.iaload, 1) := by decide +kernel
theorem dX6_rankThings_22 : decode cX6_rankThings 22 = .ok (.iaload, 1) := by decide +kernel
theorem dX6_rankThings_23 : decode cX6_rankThings 23 = .ok (.aload_n 1, 1) := by decide +kernel
theorem dX6_rankThings_24 : decode cX6_rankThings 24 = .ok (.iload_n 3, 1) := by decide +kernel
theorem dX6_rankThings_25 : decode cX6_rankThings 25 = .ok (.iaload, 1) := by decide +kernel
theorem dX6_rankThings_26 : decode cX6_rankThings 26 = .ok (.if_icmp .ge 19, 3) := by decide +kernel
theorem dX6_rankThings_29 : decode cX6_rankThings 29 = .ok (.aload_n 0, 1) := by decide +kernel
theorem dX6_rankThings_30 : decode cX6_rankThings 30 = .ok (.iload 4, 2) := by decide +kernel
theorem dX6_rankThings_32 : decode cX6_rankThings 32 = .ok (.aload_n 0, 1) := by decide +kernel
theorem dX6_rankThings_33 : decode cX6_rankThings 33 = .ok (.iload 4, 2) := by decide +kernel
theorem dX6_rankThings_35 : decode cX6_rankThings 35 = .ok (.iconst 1, 1) := by decide +kernel
theorem dX6_rankThings_36 : decode cX6_rankThings 36 = .ok (.isub, 1) := by decide +kernel
theorem dX6_rankThings_37 : decode cX6_rankThings 37 = .ok (.iaload, 1) := by decide +kernel
theorem dX6_rankThings_38 : decode cX6_rankThings 38 = .ok (.iastore, 1) := by decide +kernel
theorem dX6_rankThings_39 : decode cX6_rankThings 39 = .ok (.iinc 4 (-1), 3) := by decide +kernel
theorem dX6_rankThings_42 : decode cX6_rankThings 42 = .ok (.goto (-32), 3) := by decide +kernel
theorem dX6_rankThings_45 : decode cX6_rankThings 45 = .ok (.aload_n 0, 1) := by decide +kernel
theorem dX6_rankThings_46 : decode cX6_rankThings 46 = .ok (.iload 4, 2) := by decide +kernel
theorem dX6_rankThings_48 : decode cX6_rankThings 48 = .ok (.iload_n 3, 1) := by decide +kernel
theorem dX6_rankThings_49 : decode cX6_rankThings 49 = .ok (.iastore, 1) := by decide +kernel
theorem dX6_rankThings_50 : decode cX6_rankThings 50 = .ok (.iinc 3 1, 3) := by decide +kernel
theorem dX6_rankThings_53 : decode cX6_rankThings 53 = .ok (.goto (-51), 3) := by decide +kernel
theorem dX6_rankThings_56 : decode cX6_rankThings 56 = .ok (.return_, 1) := by decide +kernel
theorem dX7_init_0 : decode cX7_init 0 = .ok (.aload_n 0, 1) := by decide +kernel
theorem dX7_init_1 : decode cX7_init 1 = .ok (.invokespecial 1, 3) := by decide +kernel
theorem dX7_init_4 : decode cX7_init 4 = .ok (.aload_n 0, 1) := by decide +kernel
theorem dX7_init_5 : decode cX7_init 5 = .ok (.iconst 4, 1) := by decide +kernel
theorem dX7_init_6 : decode cX7_init 6 = .ok (.newarray .int, 2) := by decide +kernel
theorem dX7_init_8 : decode cX7_init 8 = .ok (.putfield 7, 3) := by decide +kernel
theorem dX7_init_11 : decode cX7_init 11 = .ok (.aload_n 0, 1) := by decide +kernel
theorem dX7_init_12 : decode cX7_init 12 = .ok (.bipush 24, 2) := by decide +kernel
theorem dX7_init_14 : decode cX7_init 14 = .ok (.newarray .int, 2) := by decide +kernel
theorem dX7_init_16 : decode cX7_init 16 = .ok (.putfield 13, 3) := by decide +kernel
theorem dX7_init_19 : decode cX7_init 19 = .ok (.aload_n 0, 1) := by decide +kernel
theorem dX7_init_20 : decode cX7_init 20 = .ok (.bipush 24, 2) := by decide +kernel
theorem dX7_init_22 : decode cX7_init 22 = .ok (.newarray .long, 2) := by decide +kernel
theorem dX7_init_24 : decode cX7_init 24 = .ok (.putfield 16, 3) := by decide +kernel
theorem dX7_init_27 : decode cX7_init 27 = .ok (.aload_n 0, 1) := by decide +kernel
theorem dX7_init_28 : decode cX7_init 28 = .ok (.bipush 24, 2) := by decide +kernel
theorem dX7_init_30 : decode cX7_init 30 = .ok (.newarray .int, 2) := by decide +kernel
theorem dX7_init_32 : decode cX7_init 32 = .ok (.putfield 20, 3) := by decide +kernel
theorem dX7_init_35 : decode cX7_init 35 = .ok (.aload_n 0, 1) := by decide +kernel
theorem dX7_init_36 : decode cX7_init 36 = .ok (.bipush 24, 2) := by decide +kernel
theorem dX7_init_38 : decode cX7_init 38 = .ok (.newarray .int, 2) := by decide +kernel
theorem dX7_init_40 : decode cX7_init 40 = .ok (.putfield 23, 3) := by decide +kernel
theorem dX7_init_43 : decode cX7_init 43 = .ok (.aload_n 0, 1) := by decide +kernel
theorem dX7_init_44 : decode cX7_init 44 = .ok (.bipush 24, 2) := by decide +kernel
theorem dX7_init_46 : decode cX7_init 46 = .ok (.newarray .int, 2) := by decide +kernel
theorem dX7_init_48 : decode cX7_init 48 = .ok (.putfield 26, 3) := by decide +kernel
theorem dX7_init_51 : decode cX7_init 51 = .ok (.aload_n 0, 1) := by decide +kernel
theorem dX7_init_52 : decode cX7_init 52 = .ok (.ldc 29, 2) := by decide +kernel
theorem dX7_init_54 : decode cX7_init 54 = .ok (.newarray .long, 2) := by decide +kernel
theorem dX7_init_56 : decode cX7_init 56 = .ok (.putfield 30, 3) := by decide +kernel
theorem dX7_init_59 : decode cX7_init 59 = .ok (.aload_n 0, 1) := by decide +kernel
theorem dX7_init_60 : decode cX7_init 60 = .ok (.ldc 29, 2) := by decide +kernel
theorem dX7_init_62 : decode cX7_init 62 = .ok (.newarray .boolean, 2) := by decide +kernel
theorem dX7_init_64 : decode cX7_init 64 = .ok (.putfield 33, 3) := by decide +kernel
theorem dX7_init_67 : decode cX7_init 67 = .ok (.aload_n 0, 1) := by decide +kernel
theorem dX7_init_68 : decode cX7_init 68 = .ok (.bipush 25, 2) := by decide +kernel
theorem dX7_init_70 : decode cX7_init 70 = .ok (.newarray .long, 2) := by decide +kernel
theorem dX7_init_72 : decode cX7_init 72 = .ok (.putfield 37, 3) := by decide +kernel
theorem dX7_init_75 : decode cX7_init 75 = .ok (.aload_n 0, 1) := by decide +kernel
theorem dX7_init_76 : decode cX7_init 76 = .ok (.iconst 4, 1) := by decide +kernel
theorem dX7_init_77 : decode cX7_init 77 = .ok (.newarray .int, 2) := by decide +kernel
theorem dX7_init_79 : decode cX7_init 79 = .ok (.putfield 40, 3) := by decide +kernel
theorem dX7_init_82 : decode cX7_init 82 = .ok (.aload_n 0, 1) := by decide +kernel
theorem dX7_init_83 : decode cX7_init 83 = .ok (.sipush 400, 3) := by decide +kernel
theorem dX7_init_86 : decode cX7_init 86 = .ok (.newarray .long, 2) := by decide +kernel
theorem dX7_init_88 : decode cX7_init 88 = .ok (.putfield 43, 3) := by decide +kernel
theorem dX7_init_91 : decode cX7_init 91 = .ok (.aload_n 0, 1) := by decide +kernel
theorem dX7_init_92 : decode cX7_init 92 = .ok (.sipush 400, 3) := by decide +kernel
theorem dX7_init_95 : decode cX7_init 95 = .ok (.newarray .int, 2) := by decide +kernel
theorem dX7_init_97 : decode cX7_init 97 = .ok (.putfield 46, 3) := by decide +kernel
theorem dX7_init_100 : decode cX7_init 100 = .ok (.aload_n 0, 1) := by decide +kernel
theorem dX7_init_101 : decode cX7_init 101 = .ok (.sipush 400, 3) := by decide +kernel
theorem dX7_init_104 : decode cX7_init 104 = .ok (.newarray .int, 2) := by decide +kernel
theorem dX7_init_106 : decode cX7_init 106 = .ok (.putfield 49, 3) := by decide +kernel
theorem dX7_init_109 : decode cX7_init 109 = .ok (.aload_n 0, 1) := by decide +kernel
theorem dX7_init_110 : decode cX7_init 110 = .ok (.sipush 400, 3) := by decide +kernel
theorem dX7_init_113 : decode cX7_init 113 = .ok (.newarray .int, 2) := by decide +kernel
theorem dX7_init_115 : decode cX7_init 115 = .ok (.putfield 52, 3) := by decide +kernel
theorem dX7_init_118 : decode cX7_init 118 = .ok (.aload_n 0, 1) := by decide +kernel
theorem dX7_init_119 : decode cX7_init 119 = .ok (.bipush 24, 2) := by decide +kernel
theorem dX7_init_121 : decode cX7_init 121 = .ok (.newarray .int, 2) := by decide +kernel
theorem dX7_init_123 : decode cX7_init 123 = .ok (.putfield 55, 3) := by decide +kernel
theorem dX7_init_126 : decode cX7_init 126 = .ok (.aload_n 0, 1) := by decide +kernel
theorem dX7_init_127 : decode cX7_init 127 = .ok (.sipush 576, 3) := by decide +kernel
theorem dX7_init_130 : decode cX7_init 130 = .ok (.newarray .long, 2) := by decide +kernel
theorem dX7_init_132 : decode cX7_init 132 = .ok (.putfield 58, 3) := by decide +kernel
theorem dX7_init_135 : decode cX7_init 135 = .ok (.aload_n 0, 1) := by decide +kernel
theorem dX7_init_136 : decode cX7_init 136 = .ok (.sipush 150, 3) := by decide +kernel
theorem dX7_init_139 : decode cX7_init 139 = .ok (.newarray .long, 2) := by decide +kernel
theorem dX7_init_141 : decode cX7_init 141 = .ok (.putfield 61, 3) := by decide +kernel
theorem dX7_init_144 : decode cX7_init 144 = .ok (.aload_n 0, 1) := by decide +kernel
theorem dX7_init_145 : decode cX7_init 145 = .ok (.bipush 100, 2) := by decide +kernel
theorem dX7_init_147 : decode cX7_init 147 = .ok (.newarray .int, 2) := by decide +kernel
theorem dX7_init_149 : decode cX7_init 149 = .ok (.putfield 64, 3) := by decide +kernel
theorem dX7_init_152 : decode cX7_init 152 = .ok (.aload_n 0, 1) := by decide +kernel
theorem dX7_init_153 : decode cX7_init 153 = .ok (.bipush 100, 2) := by decide +kernel
theorem dX7_init_155 : decode cX7_init 155 = .ok (.newarray .int, 2) := by decide +kernel
theorem dX7_init_157 : decode cX7_init 157 = .ok (.putfield 67, 3) := by decide +kernel
theorem dX7_init_160 : decode cX7_init 160 = .ok (.aload_n 0, 1) := by decide +kernel
theorem dX7_init_161 : decode cX7_init 161 = .ok (.bipush 100, 2) := by decide +kernel
theorem dX7_init_163 : decode cX7_init 163 = .ok (.newarray .long, 2) := by decide +kernel
theorem dX7_init_165 : decode cX7_init 165 = .ok (.putfield 70, 3) := by decide +kernel
theorem dX7_init_168 : decode cX7_init 168 = .ok (.aload_n 0, 1) := by decide +kernel
theorem dX7_init_169 : decode cX7_init 169 = .ok (.bipush 100, 2) := by decide +kernel
theorem dX7_init_171 : decode cX7_init 171 = .ok (.newarray .int, 2) := by decide +kernel
theorem dX7_init_173 : decode cX7_init 173 = .ok (.putfield 73, 3) := by decide +kernel
theorem dX7_init_176 : decode cX7_init 176 = .ok (.aload_n 0, 1) := by decide +kernel
theorem dX7_init_177 : decode cX7_init 177 = .ok (.bipush 24, 2) := by decide +kernel
theorem dX7_init_179 : decode cX7_init 179 = .ok (.newarray .long, 2) := by decide +kernel
theorem dX7_init_181 : decode cX7_init 181 = .ok (.putfield 76, 3) := by decide +kernel
theorem dX7_init_184 : decode cX7_init 184 = .ok (.aload_n 0, 1) := by decide +kernel
theorem dX7_init_185 : decode cX7_init 185 = .ok (.bipush 24, 2) := by decide +kernel
theorem dX7_init_187 : decode cX7_init 187 = .ok (.newarray .int, 2) := by decide +kernel
theorem dX7_init_189 : decode cX7_init 189 = .ok (.putfield 79, 3) := by decide +kernel
theorem dX7_init_192 : decode cX7_init 192 = .ok (.aload_n 0, 1) := by decide +kernel
theorem dX7_init_193 : decode cX7_init 193 = .ok (.bipush (-6), 2) := by decide +kernel
theorem dX7_init_195 : decode cX7_init 195 = .ok (.putfield 82, 3) := by decide +kernel
theorem dX7_init_198 : decode cX7_init 198 = .ok (.aload_n 0, 1) := by decide +kernel
theorem dX7_init_199 : decode cX7_init 199 = .ok (.bipush (-6), 2) := by decide +kernel
theorem dX7_init_201 : decode cX7_init 201 = .ok (.putfield 86, 3) := by decide +kernel
theorem dX7_init_204 : decode cX7_init 204 = .ok (.aload_n 0, 1) := by decide +kernel
theorem dX7_init_205 : decode cX7_init 205 = .ok (.sipush 600, 3) := by decide +kernel
theorem dX7_init_208 : decode cX7_init 208 = .ok (.newarray .long, 2) := by decide +kernel
theorem dX7_init_210 : decode cX7_init 210 = .ok (.putfield 89, 3) := by decide +kernel
theorem dX7_init_213 : decode cX7_init 213 = .ok (.aload_n 0, 1) := by decide +kernel
theorem dX7_init_214 : decode cX7_init 214 = .ok (.sipush 600, 3) := by decide +kernel
theorem dX7_init_217 : decode cX7_init 217 = .ok (.newarray .int, 2) := by decide +kernel
theorem dX7_init_219 : decode cX7_init 219 = .ok (.putfield 92, 3) := by decide +kernel
theorem dX7_init_222 : decode cX7_init 222 = .ok (.aload_n 0, 1) := by decide +kernel
theorem dX7_init_223 : decode cX7_init 223 = .ok (.sipush 2400, 3) := by decide +kernel
theorem dX7_init_226 : decode cX7_init 226 = .ok (.newarray .int, 2) := by decide +kernel
theorem dX7_init_228 : decode cX7_init 228 = .ok (.putfield 95, 3) := by decide +kernel
theorem dX7_init_231 : decode cX7_init 231 = .ok (.aload_n 0, 1) := by decide +kernel
theorem dX7_init_232 : decode cX7_init 232 = .ok (.bipush 24, 2) := by decide +kernel
theorem dX7_init_234 : decode cX7_init 234 = .ok (.newarray .int, 2) := by decide +kernel
theorem dX7_init_236 : decode cX7_init 236 = .ok (.putfield 98, 3) := by decide +kernel
theorem dX7_init_239 : decode cX7_init 239 = .ok (.aload_n 0, 1) := by decide +kernel
theorem dX7_init_240 : decode cX7_init 240 = .ok (.sipush 200, 3) := by decide +kernel
theorem dX7_init_243 : decode cX7_init 243 = .ok (.newarray .int, 2) := by decide +kernel
theorem dX7_init_245 : decode cX7_init 245 = .ok (.putfield 101, 3) := by decide +kernel
theorem dX7_init_248 : decode cX7_init 248 = .ok (.aload_n 0, 1) := by decide +kernel
theorem dX7_init_249 : decode cX7_init 249 = .ok (.sipush 200, 3) := by decide +kernel
theorem dX7_init_252 : decode cX7_init 252 = .ok (.newarray .int, 2) := by decide +kernel
theorem dX7_init_254 : decode cX7_init 254 = .ok (.putfield 104, 3) := by decide +kernel
theorem dX7_init_257 : decode cX7_init 257 = .ok (.aload_n 0, 1) := by decide +kernel
theorem dX7_init_258 : decode cX7_init 258 = .ok (.sipush 18000, 3) := by decide +kernel
theorem dX7_init_261 : decode cX7_init 261 = .ok (.newarray .long, 2) := by decide +kernel
theorem dX7_init_263 : decode cX7_init 263 = .ok (.putfield 107, 3) := by decide +kernel
theorem dX7_init_266 : decode cX7_init 266 = .ok (.aload_n 0, 1) := by decide +kernel
theorem dX7_init_267 : decode cX7_init 267 = .ok (.sipush 2000, 3) := by decide +kernel
theorem dX7_init_270 : decode cX7_init 270 = .ok (.newarray .int, 2) := by decide +kernel
theorem dX7_init_272 : decode cX7_init 272 = .ok (.putfield 110, 3) := by decide +kernel
theorem dX7_init_275 : decode cX7_init 275 = .ok (.aload_n 0, 1) := by decide +kernel
theorem dX7_init_276 : decode cX7_init 276 = .ok (.sipush 2000, 3) := by decide +kernel
theorem dX7_init_279 : decode cX7_init 279 = .ok (.newarray .int, 2) := by decide +kernel
theorem dX7_init_281 : decode cX7_init 281 = .ok (.putfield 113, 3) := by decide +kernel
theorem dX7_init_284 : decode cX7_init 284 = .ok (.aload_n 0, 1) := by decide +kernel
theorem dX7_init_285 : decode cX7_init 285 = .ok (.bipush 9, 2) := by decide +kernel
theorem dX7_init_287 : decode cX7_init 287 = .ok (.newarray .long, 2) := by decide +kernel
theorem dX7_init_289 : decode cX7_init 289 = .ok (.putfield 116, 3) := by decide +kernel
theorem dX7_init_292 : decode cX7_init 292 = .ok (.aload_n 0, 1) := by decide +kernel
theorem dX7_init_293 : decode cX7_init 293 = .ok (.sipush 2000, 3) := by decide +kernel
theorem dX7_init_296 : decode cX7_init 296 = .ok (.newarray .int, 2) := by decide +kernel
theorem dX7_init_298 : decode cX7_init 298 = .ok (.putfield 119, 3) := by decide +kernel
theorem dX7_init_301 : decode cX7_init 301 = .ok (.aload_n 0, 1) := by decide +kernel
theorem dX7_init_302 : decode cX7_init 302 = .ok (.sipush 192, 3) := by decide +kernel
theorem dX7_init_305 : decode cX7_init 305 = .ok (.newarray .long, 2) := by decide +kernel
theorem dX7_init_307 : decode cX7_init 307 = .ok (.putfield 122, 3) := by decide +kernel
theorem dX7_init_310 : decode cX7_init 310 = .ok (.aload_n 0, 1) := by decide +kernel
theorem dX7_init_311 : decode cX7_init 311 = .ok (.sipush 192, 3) := by decide +kernel
