theorem dX7_build_174 : decode cX7_build 174 = .ok (.bipush 24, 2) := by decide +kernel
theorem dX7_build_176 : decode cX7_build 176 = .ok (.goto 4, 3) := by decide +kernel
theorem dX7_build_179 : decode cX7_build 179 = .ok (.iload_n 2, 1) := by decide +kernel
theorem dX7_build_180 : decode cX7_build 180 = .ok (.invokevirtual 307, 3) := by decide +kernel
theorem dX7_build_183 : decode cX7_build 183 = .ok (.ifCond .ne 24, 3) := by decide +kernel
theorem dX7_build_186 : decode cX7_build 186 = .ok (.ldc2_w 311, 3) := by decide +kernel
theorem dX7_build_189 : decode cX7_build 189 = .ok (.lreturn, 1) := by decide +kernel
theorem dX7_build_190 : decode cX7_build 190 = .ok (.iload_n 1, 1) := by decide +kernel
theorem dX7_build_191 : decode cX7_build 191 = .ok (.iconst 2, 1) := by decide +kernel
theorem dX7_build_192 : decode cX7_build 192 = .ok (.if_icmp .ne 10, 3) := by decide +kernel
theorem dX7_build_195 : decode cX7_build 195 = .ok (.aload_n 0, 1) := by decide +kernel
theorem dX7_build_196 : decode cX7_build 196 = .ok (.invokevirtual 313, 3) := by decide +kernel
theorem dX7_build_199 : decode cX7_build 199 = .ok (.goto 8, 3) := by decide +kernel
theorem dX7_build_202 : decode cX7_build 202 = .ok (.aload_n 0, 1) := by decide +kernel
theorem dX7_build_203 : decode cX7_build 203 = .ok (.iload_n 2, 1) := by decide +kernel
theorem dX7_build_204 : decode cX7_build 204 = .ok (.invokevirtual 316, 3) := by decide +kernel
theorem dX7_build_207 : decode cX7_build 207 = .ok (.aload_n 0, 1) := by decide +kernel
theorem dX7_build_208 : decode cX7_build 208 = .ok (.invokevirtual 319, 3) := by decide +kernel
theorem dX7_build_211 : decode cX7_build 211 = .ok (.aload_n 0, 1) := by decide +kernel
theorem dX7_build_212 : decode cX7_build 212 = .ok (.invokevirtual 322, 3) := by decide +kernel
theorem dX7_build_215 : decode cX7_build 215 = .ok (.lreturn, 1) := by decide +kernel
theorem dX7_own_0 : decode cX7_own 0 = .ok (.aload_n 0, 1) := by decide +kernel
theorem dX7_own_1 : decode cX7_own 1 = .ok (.invokevirtual 179, 3) := by decide +kernel
theorem dX7_own_4 : decode cX7_own 4 = .ok (.ifCond .ne 6, 3) := by decide +kernel
theorem dX7_own_7 : decode cX7_own 7 = .ok (.bipush (-3), 2) := by decide +kernel
theorem dX7_own_9 : decode cX7_own 9 = .ok (.ireturn, 1) := by decide +kernel
theorem dX7_own_10 : decode cX7_own 10 = .ok (.iconst 0, 1) := by decide +kernel
theorem dX7_own_11 : decode cX7_own 11 = .ok (.istore_n 1, 1) := by decide +kernel
theorem dX7_own_12 : decode cX7_own 12 = .ok (.iload_n 1, 1) := by decide +kernel
theorem dX7_own_13 : decode cX7_own 13 = .ok (.aload_n 0, 1) := by decide +kernel
theorem dX7_own_14 : decode cX7_own 14 = .ok (.getfield 154, 3) := by decide +kernel
theorem dX7_own_17 : decode cX7_own 17 = .ok (.if_icmp .ge 23, 3) := by decide +kernel
theorem dX7_own_20 : decode cX7_own 20 = .ok (.aload_n 0, 1) := by decide +kernel
theorem dX7_own_21 : decode cX7_own 21 = .ok (.getfield 16, 3) := by decide +kernel
theorem dX7_own_24 : decode cX7_own 24 = .ok (.iload_n 1, 1) := by decide +kernel
theorem dX7_own_25 : decode cX7_own 25 = .ok (.lconst 0, 1) := by decide +kernel
theorem dX7_own_26 : decode cX7_own 26 = .ok (.lastore, 1) := by decide +kernel
theorem dX7_own_27 : decode cX7_own 27 = .ok (.aload_n 0, 1) := by decide +kernel
theorem dX7_own_28 : decode cX7_own 28 = .ok (.getfield 20, 3) := by decide +kernel
theorem dX7_own_31 : decode cX7_own 31 = .ok (.iload_n 1, 1) := by decide +kernel
theorem dX7_own_32 : decode cX7_own 32 = .ok (.iconst 0, 1) := by decide +kernel
theorem dX7_own_33 : decode cX7_own 33 = .ok (.iastore, 1) := by decide +kernel
theorem dX7_own_34 : decode cX7_own 34 = .ok (.iinc 1 1, 3) := by decide +kernel
theorem dX7_own_37 : decode cX7_own 37 = .ok (.goto (-25), 3) := by decide +kernel
theorem dX7_own_40 : decode cX7_own 40 = .ok (.aload_n 0, 1) := by decide +kernel
theorem dX7_own_41 : decode cX7_own 41 = .ok (.invokevirtual 319, 3) := by decide +kernel
theorem dX7_own_44 : decode cX7_own 44 = .ok (.aload_n 0, 1) := by decide +kernel
theorem dX7_own_45 : decode cX7_own 45 = .ok (.iconst 1, 1) := by decide +kernel
theorem dX7_own_46 : decode cX7_own 46 = .ok (.putfield 163, 3) := by decide +kernel
theorem dX7_own_49 : decode cX7_own 49 = .ok (.aload_n 0, 1) := by decide +kernel
theorem dX7_own_50 : decode cX7_own 50 = .ok (.getfield 154, 3) := by decide +kernel
theorem dX7_own_53 : decode cX7_own 53 = .ok (.ireturn, 1) := by decide +kernel
theorem dX7_add_0 : decode cX7_add 0 = .ok (.aload_n 0, 1) := by decide +kernel
theorem dX7_add_1 : decode cX7_add 1 = .ok (.iload_n 1, 1) := by decide +kernel
theorem dX7_add_2 : decode cX7_add 2 = .ok (.invokevirtual 157, 3) := by decide +kernel
theorem dX7_add_5 : decode cX7_add 5 = .ok (.ifCond .eq 11, 3) := by decide +kernel
theorem dX7_add_8 : decode cX7_add 8 = .ok (.aload_n 0, 1) := by decide +kernel
theorem dX7_add_9 : decode cX7_add 9 = .ok (.iload_n 2, 1) := by decide +kernel
theorem dX7_add_10 : decode cX7_add 10 = .ok (.invokevirtual 299, 3) := by decide +kernel
theorem dX7_add_13 : decode cX7_add 13 = .ok (.ifCond .ne 5, 3) := by decide +kernel
theorem dX7_add_16 : decode cX7_add 16 = .ok (.iconst (-1), 1) := by decide +kernel
theorem dX7_add_17 : decode cX7_add 17 = .ok (.ireturn, 1) := by decide +kernel
theorem dX7_add_18 : decode cX7_add 18 = .ok (.aload_n 0, 1) := by decide +kernel
theorem dX7_add_19 : decode cX7_add 19 = .ok (.getfield 140, 3) := by decide +kernel
theorem dX7_add_22 : decode cX7_add 22 = .ok (.ifCond .eq 10, 3) := by decide +kernel
theorem dX7_add_25 : decode cX7_add 25 = .ok (.aload_n 0, 1) := by decide +kernel
theorem dX7_add_26 : decode cX7_add 26 = .ok (.getfield 163, 3) := by decide +kernel
theorem dX7_add_29 : decode cX7_add 29 = .ok (.ifCond .ne 6, 3) := by decide +kernel
theorem dX7_add_32 : decode cX7_add 32 = .ok (.bipush (-3), 2) := by decide +kernel
theorem dX7_add_34 : decode cX7_add 34 = .ok (.ireturn, 1) := by decide +kernel
theorem dX7_add_35 : decode cX7_add 35 = .ok (.aload_n 0, 1) := by decide +kernel
theorem dX7_add_36 : decode cX7_add 36 = .ok (.getfield 20, 3) := by decide +kernel
theorem dX7_add_39 : decode cX7_add 39 = .ok (.iload_n 1, 1) := by decide +kernel
theorem dX7_add_40 : decode cX7_add 40 = .ok (.iaload, 1) := by decide +kernel
theorem dX7_add_41 : decode cX7_add 41 = .ok (.bipush 24, 2) := by decide +kernel
theorem dX7_add_43 : decode cX7_add 43 = .ok (.if_icmp .ne 6, 3) := by decide +kernel
theorem dX7_add_46 : decode cX7_add 46 = .ok (.bipush (-4), 2) := by decide +kernel
theorem dX7_add_48 : decode cX7_add 48 = .ok (.ireturn, 1) := by decide +kernel
theorem dX7_add_49 : decode cX7_add 49 = .ok (.aload_n 0, 1) := by decide +kernel
theorem dX7_add_50 : decode cX7_add 50 = .ok (.getfield 16, 3) := by decide +kernel
theorem dX7_add_53 : decode cX7_add 53 = .ok (.iload_n 1, 1) := by decide +kernel
theorem dX7_add_54 : decode cX7_add 54 = .ok (.aload_n 0, 1) := by decide +kernel
theorem dX7_add_55 : decode cX7_add 55 = .ok (.getfield 16, 3) := by decide +kernel
theorem dX7_add_58 : decode cX7_add 58 = .ok (.iload_n 1, 1) := by decide +kernel
theorem dX7_add_59 : decode cX7_add 59 = .ok (.laload, 1) := by decide +kernel
theorem dX7_add_60 : decode cX7_add 60 = .ok (.aload_n 0, 1) := by decide +kernel
theorem dX7_add_61 : decode cX7_add 61 = .ok (.getfield 20, 3) := by decide +kernel
theorem dX7_add_64 : decode cX7_add 64 = .ok (.iload_n 1, 1) := by decide +kernel
theorem dX7_add_65 : decode cX7_add 65 = .ok (.iaload, 1) := by decide +kernel
theorem dX7_add_66 : decode cX7_add 66 = .ok (.iload_n 2, 1) := by decide +kernel
theorem dX7_add_67 : decode cX7_add 67 = .ok (.invokestatic 262, 3) := by decide +kernel
theorem dX7_add_70 : decode cX7_add 70 = .ok (.lastore, 1) := by decide +kernel
theorem dX7_add_71 : decode cX7_add 71 = .ok (.aload_n 0, 1) := by decide +kernel
theorem dX7_add_72 : decode cX7_add 72 = .ok (.getfield 20, 3) := by decide +kernel
theorem dX7_add_75 : decode cX7_add 75 = .ok (.iload_n 1, 1) := by decide +kernel
theorem dX7_add_76 : decode cX7_add 76 = .ok (.dup2, 1) := by decide +kernel
theorem dX7_add_77 : decode cX7_add 77 = .ok (.iaload, 1) := by decide +kernel
theorem dX7_add_78 : decode cX7_add 78 = .ok (.iconst 1, 1) := by decide +kernel
theorem dX7_add_79 : decode cX7_add 79 = .ok (.iadd, 1) := by decide +kernel
theorem dX7_add_80 : decode cX7_add 80 = .ok (.iastore, 1) := by decide +kernel
theorem dX7_add_81 : decode cX7_add 81 = .ok (.aload_n 0, 1) := by decide +kernel
theorem dX7_add_82 : decode cX7_add 82 = .ok (.getfield 20, 3) := by decide +kernel
theorem dX7_add_85 : decode cX7_add 85 = .ok (.iload_n 1, 1) := by decide +kernel
theorem dX7_add_86 : decode cX7_add 86 = .ok (.iaload, 1) := by decide +kernel
theorem dX7_add_87 : decode cX7_add 87 = .ok (.ireturn, 1) := by decide +kernel
theorem dX7_breaksAlone_0 : decode cX7_breaksAlone 0 = .ok (.aload_n 0, 1) := by decide +kernel
theorem dX7_breaksAlone_1 : decode cX7_breaksAlone 1 = .ok (.getfield 20, 3) := by decide +kernel
theorem dX7_breaksAlone_4 : decode cX7_breaksAlone 4 = .ok (.iload_n 1, 1) := by decide +kernel
theorem dX7_breaksAlone_5 : decode cX7_breaksAlone 5 = .ok (.iaload, 1) := by decide +kernel
theorem dX7_breaksAlone_6 : decode cX7_breaksAlone 6 = .ok (.ifCond .eq 18, 3) := by decide +kernel
theorem dX7_breaksAlone_9 : decode cX7_breaksAlone 9 = .ok (.iload_n 2, 1) := by decide +kernel
theorem dX7_breaksAlone_10 : decode cX7_breaksAlone 10 = .ok (.iconst 1, 1) := by decide +kernel
theorem dX7_breaksAlone_11 : decode cX7_breaksAlone 11 = .ok (.if_icmp .ne 17, 3) := by decide +kernel
theorem dX7_breaksAlone_14 : decode cX7_breaksAlone 14 = .ok (.aload_n 0, 1) := by decide +kernel
theorem dX7_breaksAlone_15 : decode cX7_breaksAlone 15 = .ok (.getfield 20, 3) := by decide +kernel
theorem dX7_breaksAlone_18 : decode cX7_breaksAlone 18 = .ok (.iload_n 1, 1) := by decide +kernel
theorem dX7_breaksAlone_19 : decode cX7_breaksAlone 19 = .ok (.iaload, 1) := by decide +kernel
theorem dX7_breaksAlone_20 : decode cX7_breaksAlone 20 = .ok (.iload_n 3, 1) := by decide +kernel
theorem dX7_breaksAlone_21 : decode cX7_breaksAlone 21 = .ok (.if_icmp .le 7, 3) := by decide +kernel
theorem dX7_breaksAlone_24 : decode cX7_breaksAlone 24 = .ok (.iconst 1, 1) := by decide +kernel
theorem dX7_breaksAlone_25 : decode cX7_breaksAlone 25 = .ok (.goto 4, 3) := by decide +kernel
theorem dX7_breaksAlone_28 : decode cX7_breaksAlone 28 = .ok (.iconst 0, 1) := by decide +kernel
theorem dX7_breaksAlone_29 : decode cX7_breaksAlone 29 = .ok (.istore 4, 2) := by decide +kernel
theorem dX7_breaksAlone_31 : decode cX7_breaksAlone 31 = .ok (.iconst 0, 1) := by decide +kernel
theorem dX7_breaksAlone_32 : decode cX7_breaksAlone 32 = .ok (.istore 5, 2) := by decide +kernel
theorem dX7_breaksAlone_34 : decode cX7_breaksAlone 34 = .ok (.iload 5, 2) := by decide +kernel
theorem dX7_breaksAlone_36 : decode cX7_breaksAlone 36 = .ok (.aload_n 0, 1) := by decide +kernel
theorem dX7_breaksAlone_37 : decode cX7_breaksAlone 37 = .ok (.getfield 20, 3) := by decide +kernel
theorem dX7_breaksAlone_40 : decode cX7_breaksAlone 40 = .ok (.iload_n 1, 1) := by decide +kernel
theorem dX7_breaksAlone_41 : decode cX7_breaksAlone 41 = .ok (.iaload, 1) := by decide +kernel
theorem dX7_breaksAlone_42 : decode cX7_breaksAlone 42 = .ok (.if_icmp .ge 67, 3) := by decide +kernel
theorem dX7_breaksAlone_45 : decode cX7_breaksAlone 45 = .ok (.iload_n 2, 1) := by decide +kernel
theorem dX7_breaksAlone_46 : decode cX7_breaksAlone 46 = .ok (.iconst 3, 1) := by decide +kernel
theorem dX7_breaksAlone_47 : decode cX7_breaksAlone 47 = .ok (.if_icmp .ne 62, 3) := by decide +kernel
theorem dX7_breaksAlone_50 : decode cX7_breaksAlone 50 = .ok (.iload 4, 2) := by decide +kernel
theorem dX7_breaksAlone_52 : decode cX7_breaksAlone 52 = .ok (.ifCond .ne 44, 3) := by decide +kernel
theorem dX7_breaksAlone_55 : decode cX7_breaksAlone 55 = .ok (.aload_n 0, 1) := by decide +kernel
theorem dX7_breaksAlone_56 : decode cX7_breaksAlone 56 = .ok (.getfield 16, 3) := by decide +kernel
theorem dX7_breaksAlone_59 : decode cX7_breaksAlone 59 = .ok (.iload_n 1, 1) := by decide +kernel
theorem dX7_breaksAlone_60 : decode cX7_breaksAlone 60 = .ok (.laload, 1) := by decide +kernel
theorem dX7_breaksAlone_61 : decode cX7_breaksAlone 61 = .ok (.iload 5, 2) := by decide +kernel
theorem dX7_breaksAlone_63 : decode cX7_breaksAlone 63 = .ok (.invokestatic 169, 3) := by decide +kernel
theorem dX7_breaksAlone_66 : decode cX7_breaksAlone 66 = .ok (.iload_n 3, 1) := by decide +kernel
theorem dX7_breaksAlone_67 : decode cX7_breaksAlone 67 = .ok (.if_icmp .ne 7, 3) := by decide +kernel
theorem dX7_breaksAlone_70 : decode cX7_breaksAlone 70 = .ok (.iconst 1, 1) := by decide +kernel
theorem dX7_breaksAlone_71 : decode cX7_breaksAlone 71 = .ok (.goto 4, 3) := by decide +kernel
theorem dX7_breaksAlone_74 : decode cX7_breaksAlone 74 = .ok (.iconst 0, 1) := by decide +kernel
theorem dX7_breaksAlone_75 : decode cX7_breaksAlone 75 = .ok (.iload 5, 2) := by decide +kernel
theorem dX7_breaksAlone_77 : decode cX7_breaksAlone 77 = .ok (.aload_n 0, 1) := by decide +kernel
theorem dX7_breaksAlone_78 : decode cX7_breaksAlone 78 = .ok (.getfield 20, 3) := by decide +kernel
theorem dX7_breaksAlone_81 : decode cX7_breaksAlone 81 = .ok (.iload_n 1, 1) := by decide +kernel
theorem dX7_breaksAlone_82 : decode cX7_breaksAlone 82 = .ok (.iaload, 1) := by decide +kernel
theorem dX7_breaksAlone_83 : decode cX7_breaksAlone 83 = .ok (.iconst 1, 1) := by decide +kernel
theorem dX7_breaksAlone_84 : decode cX7_breaksAlone 84 = .ok (.isub, 1) := by decide +kernel
theorem dX7_breaksAlone_85 : decode cX7_breaksAlone 85 = .ok (.if_icmp .ne 7, 3) := by decide +kernel
theorem dX7_breaksAlone_88 : decode cX7_breaksAlone 88 = .ok (.iconst 1, 1) := by decide +kernel
theorem dX7_breaksAlone_89 : decode cX7_breaksAlone 89 = .ok (.goto 4, 3) := by decide +kernel
theorem dX7_breaksAlone_92 : decode cX7_breaksAlone 92 = .ok (.iconst 0, 1) := by decide +kernel
theorem dX7_breaksAlone_93 : decode cX7_breaksAlone 93 = .ok (.if_icmp .eq 7, 3) := by decide +kernel
theorem dX7_breaksAlone_96 : decode cX7_breaksAlone 96 = .ok (.iconst 1, 1) := by decide +kernel
theorem dX7_breaksAlone_97 : decode cX7_breaksAlone 97 = .ok (.goto 4, 3) := by decide +kernel
theorem dX7_breaksAlone_100 : decode cX7_breaksAlone 100 = .ok (.iconst 0, 1) := by decide +kernel
theorem dX7_breaksAlone_101 : decode cX7_breaksAlone 101 = .ok (.istore 4, 2) := by decide +kernel
theorem dX7_breaksAlone_103 : decode cX7_breaksAlone 103 = .ok (.iinc 5 1, 3) := by decide +kernel
theorem dX7_breaksAlone_106 : decode cX7_breaksAlone 106 = .ok (.goto (-72), 3) := by decide +kernel
theorem dX7_breaksAlone_109 : decode cX7_breaksAlone 109 = .ok (.iload 4, 2) := by decide +kernel
theorem dX7_breaksAlone_111 : decode cX7_breaksAlone 111 = .ok (.ireturn, 1) := by decide +kernel
theorem dX7_breakBoth_0 : decode cX7_breakBoth 0 = .ok (.aload_n 0, 1) := by decide +kernel
theorem dX7_breakBoth_1 : decode cX7_breakBoth 1 = .ok (.getfield 16, 3) := by decide +kernel
theorem dX7_breakBoth_4 : decode cX7_breakBoth 4 = .ok (.iload_n 1, 1) := by decide +kernel
theorem dX7_breakBoth_5 : decode cX7_breakBoth 5 = .ok (.laload, 1) := by decide +kernel
theorem dX7_breakBoth_6 : decode cX7_breakBoth 6 = .ok (.aload_n 0, 1) := by decide +kernel
theorem dX7_breakBoth_7 : decode cX7_breakBoth 7 = .ok (.getfield 20, 3) := by decide +kernel
theorem dX7_breakBoth_10 : decode cX7_breakBoth 10 = .ok (.iload_n 1, 1) := by decide +kernel
theorem dX7_breakBoth_11 : decode cX7_breakBoth 11 = .ok (.iaload, 1) := by decide +kernel
theorem dX7_breakBoth_12 : decode cX7_breakBoth 12 = .ok (.aload_n 0, 1) := by decide +kernel
theorem dX7_breakBoth_13 : decode cX7_breakBoth 13 = .ok (.getfield 16, 3) := by decide +kernel
theorem dX7_breakBoth_16 : decode cX7_breakBoth 16 = .ok (.iload_n 2, 1) := by decide +kernel
theorem dX7_breakBoth_17 : decode cX7_breakBoth 17 = .ok (.laload, 1) := by decide +kernel
theorem dX7_breakBoth_18 : decode cX7_breakBoth 18 = .ok (.aload_n 0, 1) := by decide +kernel
theorem dX7_breakBoth_19 : decode cX7_breakBoth 19 = .ok (.getfield 20, 3) := by decide +kernel
theorem dX7_breakBoth_22 : decode cX7_breakBoth 22 = .ok (.iload_n 2, 1) := by decide +kernel
theorem dX7_breakBoth_23 : decode cX7_breakBoth 23 = .ok (.iaload, 1) := by decide +kernel
theorem dX7_breakBoth_24 : decode cX7_breakBoth 24 = .ok (.invokestatic 326, 3) := by decide +kernel
theorem dX7_breakBoth_27 : decode cX7_breakBoth 27 = .ok (.ifCond .ne 33, 3) := by decide +kernel
theorem dX7_breakBoth_30 : decode cX7_breakBoth 30 = .ok (.aload_n 0, 1) := by decide +kernel
theorem dX7_breakBoth_31 : decode cX7_breakBoth 31 = .ok (.getfield 16, 3) := by decide +kernel
theorem dX7_breakBoth_34 : decode cX7_breakBoth 34 = .ok (.iload_n 2, 1) := by decide +kernel
theorem dX7_breakBoth_35 : decode cX7_breakBoth 35 = .ok (.laload, 1) := by decide +kernel
theorem dX7_breakBoth_36 : decode cX7_breakBoth 36 = .ok (.aload_n 0, 1) := by decide +kernel
theorem dX7_breakBoth_37 : decode cX7_breakBoth 37 = .ok (.getfield 20, 3) := by decide +kernel
theorem dX7_breakBoth_40 : decode cX7_breakBoth 40 = .ok (.iload_n 2, 1) := by decide +kernel
theorem dX7_breakBoth_41 : decode cX7_breakBoth 41 = .ok (.iaload, 1) := by decide +kernel
theorem dX7_breakBoth_42 : decode cX7_breakBoth 42 = .ok (.aload_n 0, 1) := by decide +kernel
theorem dX7_breakBoth_43 : decode cX7_breakBoth 43 = .ok (.getfield 16, 3) := by decide +kernel
theorem dX7_breakBoth_46 : decode cX7_breakBoth 46 = .ok (.iload_n 1, 1) := by decide +kernel
theorem dX7_breakBoth_47 : decode cX7_breakBoth 47 = .ok (.laload, 1) := by decide +kernel
theorem dX7_breakBoth_48 : decode cX7_breakBoth 48 = .ok (.aload_n 0, 1) := by decide +kernel
theorem dX7_breakBoth_49 : decode cX7_breakBoth 49 = .ok (.getfield 20, 3) := by decide +kernel
theorem dX7_breakBoth_52 : decode cX7_breakBoth 52 = .ok (.iload_n 1, 1) := by decide +kernel
theorem dX7_breakBoth_53 : decode cX7_breakBoth 53 = .ok (.iaload, 1) := by decide +kernel
theorem dX7_breakBoth_54 : decode cX7_breakBoth 54 = .ok (.invokestatic 326, 3) := by decide +kernel
theorem dX7_breakBoth_57 : decode cX7_breakBoth 57 = .ok (.ifCond .eq 7, 3) := by decide +kernel
theorem dX7_breakBoth_60 : decode cX7_breakBoth 60 = .ok (.iconst 1, 1) := by decide +kernel
theorem dX7_breakBoth_61 : decode cX7_breakBoth 61 = .ok (.goto 4, 3) := by decide +kernel
theorem dX7_breakBoth_64 : decode cX7_breakBoth 64 = .ok (.iconst 0, 1) := by decide +kernel
theorem dX7_breakBoth_65 : decode cX7_breakBoth 65 = .ok (.istore 4, 2) := by decide +kernel
theorem dX7_breakBoth_67 : decode cX7_breakBoth 67 = .ok (.iload 4, 2) := by decide +kernel
theorem dX7_breakBoth_69 : decode cX7_breakBoth 69 = .ok (.ifCond .ne 38, 3) := by decide +kernel
theorem dX7_breakBoth_72 : decode cX7_breakBoth 72 = .ok (.iload_n 3, 1) := by decide +kernel
theorem dX7_breakBoth_73 : decode cX7_breakBoth 73 = .ok (.iconst 2, 1) := by decide +kernel
theorem dX7_breakBoth_74 : decode cX7_breakBoth 74 = .ok (.if_icmp .ne 37, 3) := by decide +kernel
theorem dX7_breakBoth_77 : decode cX7_breakBoth 77 = .ok (.aload_n 0, 1) := by decide +kernel
theorem dX7_breakBoth_78 : decode cX7_breakBoth 78 = .ok (.getfield 16, 3) := by decide +kernel
theorem dX7_breakBoth_81 : decode cX7_breakBoth 81 = .ok (.iload_n 1, 1) := by decide +kernel
theorem dX7_breakBoth_82 : decode cX7_breakBoth 82 = .ok (.laload, 1) := by decide +kernel
theorem dX7_breakBoth_83 : decode cX7_breakBoth 83 = .ok (.aload_n 0, 1) := by decide +kernel
theorem dX7_breakBoth_84 : decode cX7_breakBoth 84 = .ok (.getfield 20, 3) := by decide +kernel
theorem dX7_breakBoth_87 : decode cX7_breakBoth 87 = .ok (.iload_n 1, 1) := by decide +kernel
theorem dX7_breakBoth_88 : decode cX7_breakBoth 88 = .ok (.iaload, 1) := by decide +kernel
theorem dX7_breakBoth_89 : decode cX7_breakBoth 89 = .ok (.aload_n 0, 1) := by decide +kernel
theorem dX7_breakBoth_90 : decode cX7_breakBoth 90 = .ok (.getfield 16, 3) := by decide +kernel
theorem dX7_breakBoth_93 : decode cX7_breakBoth 93 = .ok (.iload_n 2, 1) := by decide +kernel
theorem dX7_breakBoth_94 : decode cX7_breakBoth 94 = .ok (.laload, 1) := by decide +kernel
theorem dX7_breakBoth_95 : decode cX7_breakBoth 95 = .ok (.aload_n 0, 1) := by decide +kernel
theorem dX7_breakBoth_96 : decode cX7_breakBoth 96 = .ok (.getfield 20, 3) := by decide +kernel
theorem dX7_breakBoth_99 : decode cX7_breakBoth 99 = .ok (.iload_n 2, 1) := by decide +kernel
theorem dX7_breakBoth_100 : decode cX7_breakBoth 100 = .ok (.iaload, 1) := by decide +kernel
theorem dX7_breakBoth_101 : decode cX7_breakBoth 101 = .ok (.invokestatic 240, 3) := by decide +kernel
theorem dX7_breakBoth_104 : decode cX7_breakBoth 104 = .ok (.ifCond .ne 7, 3) := by decide +kernel
theorem dX7_breakBoth_107 : decode cX7_breakBoth 107 = .ok (.iconst 1, 1) := by decide +kernel
theorem dX7_breakBoth_108 : decode cX7_breakBoth 108 = .ok (.goto 4, 3) := by decide +kernel
theorem dX7_breakBoth_111 : decode cX7_breakBoth 111 = .ok (.iconst 0, 1) := by decide +kernel
theorem dX7_breakBoth_112 : decode cX7_breakBoth 112 = .ok (.ireturn, 1) := by decide +kernel
theorem dX7_isOfKind_0 : decode cX7_isOfKind 0 = .ok (.iconst 0, 1) := by decide +kernel
theorem dX7_isOfKind_1 : decode cX7_isOfKind 1 = .ok (.istore 4, 2) := by decide +kernel
theorem dX7_isOfKind_3 : decode cX7_isOfKind 3 = .ok (.iload 4, 2) := by decide +kernel
theorem dX7_isOfKind_5 : decode cX7_isOfKind 5 = .ok (.aload_n 0, 1) := by decide +kernel
theorem dX7_isOfKind_6 : decode cX7_isOfKind 6 = .ok (.getfield 154, 3) := by decide +kernel
theorem dX7_isOfKind_9 : decode cX7_isOfKind 9 = .ok (.if_icmp .ge 126, 3) := by decide +kernel
theorem dX7_isOfKind_12 : decode cX7_isOfKind 12 = .ok (.aload_n 0, 1) := by decide +kernel
theorem dX7_isOfKind_13 : decode cX7_isOfKind 13 = .ok (.iload 4, 2) := by decide +kernel
theorem dX7_isOfKind_15 : decode cX7_isOfKind 15 = .ok (.iload_n 1, 1) := by decide +kernel
theorem dX7_isOfKind_16 : decode cX7_isOfKind 16 = .ok (.iload_n 2, 1) := by decide +kernel
theorem dX7_isOfKind_17 : decode cX7_isOfKind 17 = .ok (.invokevirtual 329, 3) := by decide +kernel
theorem dX7_isOfKind_20 : decode cX7_isOfKind 20 = .ok (.istore 5, 2) := by decide +kernel
theorem dX7_isOfKind_22 : decode cX7_isOfKind 22 = .ok (.bipush (-6), 2) := by decide +kernel
theorem dX7_isOfKind_24 : decode cX7_isOfKind 24 = .ok (.istore 6, 2) := by decide +kernel
theorem dX7_isOfKind_26 : decode cX7_isOfKind 26 = .ok (.iload 4, 2) := by decide +kernel
theorem dX7_isOfKind_28 : decode cX7_isOfKind 28 = .ok (.iconst 1, 1) := by decide +kernel
theorem dX7_isOfKind_29 : decode cX7_isOfKind 29 = .ok (.iadd, 1) := by decide +kernel
theorem dX7_isOfKind_30 : decode cX7_isOfKind 30 = .ok (.istore 7, 2) := by decide +kernel
theorem dX7_isOfKind_32 : decode cX7_isOfKind 32 = .ok (.iload 7, 2) := by decide +kernel
theorem dX7_isOfKind_34 : decode cX7_isOfKind 34 = .ok (.aload_n 0, 1) := by decide +kernel
theorem dX7_isOfKind_35 : decode cX7_isOfKind 35 = .ok (.getfield 154, 3) := by decide +kernel
theorem dX7_isOfKind_38 : decode cX7_isOfKind 38 = .ok (.if_icmp .ge 35, 3) := by decide +kernel
theorem dX7_isOfKind_41 : decode cX7_isOfKind 41 = .ok (.iload 6, 2) := by decide +kernel
theorem dX7_isOfKind_43 : decode cX7_isOfKind 43 = .ok (.ifCond .ge 30, 3) := by decide +kernel
theorem dX7_isOfKind_46 : decode cX7_isOfKind 46 = .ok (.aload_n 0, 1) := by decide +kernel
theorem dX7_isOfKind_47 : decode cX7_isOfKind 47 = .ok (.iload 4, 2) := by decide +kernel
theorem dX7_isOfKind_49 : decode cX7_isOfKind 49 = .ok (.iload 7, 2) := by decide +kernel
theorem dX7_isOfKind_51 : decode cX7_isOfKind 51 = .ok (.iload_n 1, 1) := by decide +kernel
theorem dX7_isOfKind_52 : decode cX7_isOfKind 52 = .ok (.invokevirtual 333, 3) := by decide +kernel
theorem dX7_isOfKind_55 : decode cX7_isOfKind 55 = .ok (.ifCond .eq 8, 3) := by decide +kernel
theorem dX7_isOfKind_58 : decode cX7_isOfKind 58 = .ok (.iload 7, 2) := by decide +kernel
theorem dX7_isOfKind_60 : decode cX7_isOfKind 60 = .ok (.goto 5, 3) := by decide +kernel
theorem dX7_isOfKind_63 : decode cX7_isOfKind 63 = .ok (.bipush (-6), 2) := by decide +kernel
theorem dX7_isOfKind_65 : decode cX7_isOfKind 65 = .ok (.istore 6, 2) := by decide +kernel
theorem dX7_isOfKind_67 : decode cX7_isOfKind 67 = .ok (.iinc 7 1, 3) := by decide +kernel
theorem dX7_isOfKind_70 : decode cX7_isOfKind 70 = .ok (.goto (-38), 3) := by decide +kernel
theorem dX7_isOfKind_73 : decode cX7_isOfKind 73 = .ok (.iload 5, 2) := by decide +kernel
theorem dX7_isOfKind_75 : decode cX7_isOfKind 75 = .ok (.ifCond .ne 8, 3) := by decide +kernel
theorem dX7_isOfKind_78 : decode cX7_isOfKind 78 = .ok (.iload 6, 2) := by decide +kernel
theorem dX7_isOfKind_80 : decode cX7_isOfKind 80 = .ok (.ifCond .lt 49, 3) := by decide +kernel
theorem dX7_isOfKind_83 : decode cX7_isOfKind 83 = .ok (.aload_n 0, 1) := by decide +kernel
theorem dX7_isOfKind_84 : decode cX7_isOfKind 84 = .ok (.iload_n 3, 1) := by decide +kernel
theorem dX7_isOfKind_85 : decode cX7_isOfKind 85 = .ok (.ifCond .eq 8, 3) := by decide +kernel
theorem dX7_isOfKind_88 : decode cX7_isOfKind 88 = .ok (.iload 4, 2) := by decide +kernel
theorem dX7_isOfKind_90 : decode cX7_isOfKind 90 = .ok (.goto 7, 3) := by decide +kernel
theorem dX7_isOfKind_93 : decode cX7_isOfKind 93 = .ok (.aload_n 0, 1) := by decide +kernel
theorem dX7_isOfKind_94 : decode cX7_isOfKind 94 = .ok (.getfield 82, 3) := by decide +kernel
theorem dX7_isOfKind_97 : decode cX7_isOfKind 97 = .ok (.putfield 82, 3) := by decide +kernel
theorem dX7_isOfKind_100 : decode cX7_isOfKind 100 = .ok (.aload_n 0, 1) := by decide +kernel
theorem dX7_isOfKind_101 : decode cX7_isOfKind 101 = .ok (.iload_n 3, 1) := by decide +kernel
theorem dX7_isOfKind_102 : decode cX7_isOfKind 102 = .ok (.ifCond .eq 18, 3) := by decide +kernel
theorem dX7_isOfKind_105 : decode cX7_isOfKind 105 = .ok (.iload 5, 2) := by decide +kernel
theorem dX7_isOfKind_107 : decode cX7_isOfKind 107 = .ok (.ifCond .eq 8, 3) := by decide +kernel
theorem dX7_isOfKind_110 : decode cX7_isOfKind 110 = .ok (.bipush (-6), 2) := by decide +kernel
theorem dX7_isOfKind_112 : decode cX7_isOfKind 112 = .ok (.goto 12, 3) := by decide +kernel
theorem dX7_isOfKind_115 : decode cX7_isOfKind 115 = .ok (.iload 6, 2) := by decide +kernel
theorem dX7_isOfKind_117 : decode cX7_isOfKind 117 = .ok (.goto 7, 3) := by decide +kernel
theorem dX7_isOfKind_120 : decode cX7_isOfKind 120 = .ok (.aload_n 0, 1) := by decide +kernel
theorem dX7_isOfKind_121 : decode cX7_isOfKind 121 = .ok (.getfield 86, 3) := by decide +kernel
theorem dX7_isOfKind_124 : decode cX7_isOfKind 124 = .ok (.putfield 86, 3) := by decide +kernel
theorem dX7_isOfKind_127 : decode cX7_isOfKind 127 = .ok (.iconst 0, 1) := by decide +kernel
theorem dX7_isOfKind_128 : decode cX7_isOfKind 128 = .ok (.ireturn, 1) := by decide +kernel
theorem dX7_isOfKind_129 : decode cX7_isOfKind 129 = .ok (.iinc 4 1, 3) := by decide +kernel
theorem dX7_isOfKind_132 : decode cX7_isOfKind 132 = .ok (.goto (-129), 3) := by decide +kernel
theorem dX7_isOfKind_135 : decode cX7_isOfKind 135 = .ok (.iconst 1, 1) := by decide +kernel
theorem dX7_isOfKind_136 : decode cX7_isOfKind 136 = .ok (.ireturn, 1) := by decide +kernel
theorem dX7_isFree_0 : decode cX7_isFree 0 = .ok (.aload_n 0, 1) := by decide +kernel
theorem dX7_isFree_1 : decode cX7_isFree 1 = .ok (.iconst 0, 1) := by decide +kernel
theorem dX7_isFree_2 : decode cX7_isFree 2 = .ok (.iconst 0, 1) := by decide +kernel
theorem dX7_isFree_3 : decode cX7_isFree 3 = .ok (.iconst 0, 1) := by decide +kernel
theorem dX7_isFree_4 : decode cX7_isFree 4 = .ok (.invokevirtual 336, 3) := by decide +kernel
theorem dX7_isFree_7 : decode cX7_isFree 7 = .ok (.ireturn, 1) := by decide +kernel
theorem dX7_holds_0 : decode cX7_holds 0 = .ok (.iload_n 1, 1) := by decide +kernel
theorem dX7_holds_1 : decode cX7_holds 1 = .ok (.i2l, 1) := by decide +kernel
theorem dX7_holds_2 : decode cX7_holds 2 = .ok (.lconst 0, 1) := by decide +kernel
theorem dX7_holds_3 : decode cX7_holds 3 = .ok (.ldc2_w 161, 3) := by decide +kernel
theorem dX7_holds_6 : decode cX7_holds 6 = .ok (.invokestatic 133, 3) := by decide +kernel
theorem dX7_holds_9 : decode cX7_holds 9 = .ok (.ifCond .eq 33, 3) := by decide +kernel
theorem dX7_holds_12 : decode cX7_holds 12 = .ok (.iload_n 1, 1) := by decide +kernel
theorem dX7_holds_13 : decode cX7_holds 13 = .ok (.iconst 1, 1) := by decide +kernel
theorem dX7_holds_14 : decode cX7_holds 14 = .ok (.if_icmp .ne 15, 3) := by decide +kernel
theorem dX7_holds_17 : decode cX7_holds 17 = .ok (.iload_n 2, 1) := by decide +kernel
theorem dX7_holds_18 : decode cX7_holds 18 = .ok (.i2l, 1) := by decide +kernel
theorem dX7_holds_19 : decode cX7_holds 19 = .ok (.lconst 1, 1) := by decide +kernel
theorem dX7_holds_20 : decode cX7_holds 20 = .ok (.ldc2_w 297, 3) := by decide +kernel
theorem dX7_holds_23 : decode cX7_holds 23 = .ok (.invokestatic 133, 3) := by decide +kernel
theorem dX7_holds_26 : decode cX7_holds 26 = .ok (.ifCond .eq 16, 3) := by decide +kernel
theorem dX7_holds_29 : decode cX7_holds 29 = .ok (.iload_n 1, 1) := by decide +kernel
theorem dX7_holds_30 : decode cX7_holds 30 = .ok (.iconst 3, 1) := by decide +kernel
theorem dX7_holds_31 : decode cX7_holds 31 = .ok (.if_icmp .ne 14, 3) := by decide +kernel
theorem dX7_holds_34 : decode cX7_holds 34 = .ok (.aload_n 0, 1) := by decide +kernel
theorem dX7_holds_35 : decode cX7_holds 35 = .ok (.iload_n 2, 1) := by decide +kernel
theorem dX7_holds_36 : decode cX7_holds 36 = .ok (.invokevirtual 299, 3) := by decide +kernel
theorem dX7_holds_39 : decode cX7_holds 39 = .ok (.ifCond .ne 6, 3) := by decide +kernel
theorem dX7_holds_42 : decode cX7_holds 42 = .ok (.bipush (-2), 2) := by decide +kernel
theorem dX7_holds_44 : decode cX7_holds 44 = .ok (.ireturn, 1) := by decide +kernel
theorem dX7_holds_45 : decode cX7_holds 45 = .ok (.aload_n 0, 1) := by decide +kernel
theorem dX7_holds_46 : decode cX7_holds 46 = .ok (.getfield 140, 3) := by decide +kernel
theorem dX7_holds_49 : decode cX7_holds 49 = .ok (.ifCond .ne 6, 3) := by decide +kernel
theorem dX7_holds_52 : decode cX7_holds 52 = .ok (.bipush (-3), 2) := by decide +kernel
theorem dX7_holds_54 : decode cX7_holds 54 = .ok (.ireturn, 1) := by decide +kernel
theorem dX7_holds_55 : decode cX7_holds 55 = .ok (.aload_n 0, 1) := by decide +kernel
theorem dX7_holds_56 : decode cX7_holds 56 = .ok (.iload_n 1, 1) := by decide +kernel
theorem dX7_holds_57 : decode cX7_holds 57 = .ok (.iload_n 2, 1) := by decide +kernel
theorem dX7_holds_58 : decode cX7_holds 58 = .ok (.iconst 1, 1) := by decide +kernel
theorem dX7_holds_59 : decode cX7_holds 59 = .ok (.invokevirtual 336, 3) := by decide +kernel
theorem dX7_holds_62 : decode cX7_holds 62 = .ok (.ifCond .eq 7, 3) := by decide +kernel
theorem dX7_holds_65 : decode cX7_holds 65 = .ok (.iconst 1, 1) := by decide +kernel
theorem dX7_holds_66 : decode cX7_holds 66 = .ok (.goto 4, 3) := by decide +kernel
theorem dX7_holds_69 : decode cX7_holds 69 = .ok (.iconst 0, 1) := by decide +kernel
theorem dX7_holds_70 : decode cX7_holds 70 = .ok (.ireturn, 1) := by decide +kernel
theorem dX7_broken_0 : decode cX7_broken 0 = .ok (.iload_n 1, 1) := by decide +kernel
theorem dX7_broken_1 : decode cX7_broken 1 = .ok (.ifCond .ne 10, 3) := by decide +kernel
theorem dX7_broken_4 : decode cX7_broken 4 = .ok (.aload_n 0, 1) := by decide +kernel
theorem dX7_broken_5 : decode cX7_broken 5 = .ok (.getfield 82, 3) := by decide +kernel
theorem dX7_broken_8 : decode cX7_broken 8 = .ok (.goto 17, 3) := by decide +kernel
theorem dX7_broken_11 : decode cX7_broken 11 = .ok (.iload_n 1, 1) := by decide +kernel
theorem dX7_broken_12 : decode cX7_broken 12 = .ok (.iconst 1, 1) := by decide +kernel
theorem dX7_broken_13 : decode cX7_broken 13 = .ok (.if_icmp .ne 10, 3) := by decide +kernel
theorem dX7_broken_16 : decode cX7_broken 16 = .ok (.aload_n 0, 1) := by decide +kernel
theorem dX7_broken_17 : decode cX7_broken 17 = .ok (.getfield 86, 3) := by decide +kernel
theorem dX7_broken_20 : decode cX7_broken 20 = .ok (.goto 5, 3) := by decide +kernel
theorem dX7_broken_23 : decode cX7_broken 23 = .ok (.bipush (-2), 2) := by decide +kernel
theorem dX7_broken_25 : decode cX7_broken 25 = .ok (.ireturn, 1) := by decide +kernel
theorem dX7_cost_0 : decode cX7_cost 0 = .ok (.aload_n 0, 1) := by decide +kernel
theorem dX7_cost_1 : decode cX7_cost 1 = .ok (.getfield 140, 3) := by decide +kernel
theorem dX7_cost_4 : decode cX7_cost 4 = .ok (.ifCond .eq 10, 3) := by decide +kernel
theorem dX7_cost_7 : decode cX7_cost 7 = .ok (.aload_n 0, 1) := by decide +kernel
theorem dX7_cost_8 : decode cX7_cost 8 = .ok (.invokevirtual 322, 3) := by decide +kernel
theorem dX7_cost_11 : decode cX7_cost 11 = .ok (.goto 6, 3) := by decide +kernel
theorem dX7_cost_14 : decode cX7_cost 14 = .ok (.ldc2_w 295, 3) := by decide +kernel
theorem dX7_cost_17 : decode cX7_cost 17 = .ok (.lreturn, 1) := by decide +kernel
theorem dX7_mean_0 : decode cX7_mean 0 = .ok (.aload_n 0, 1) := by decide +kernel
theorem dX7_mean_1 : decode cX7_mean 1 = .ok (.getfield 140, 3) := by decide +kernel
theorem dX7_mean_4 : decode cX7_mean 4 = .ok (.ifCond .eq 25, 3) := by decide +kernel
theorem dX7_mean_7 : decode cX7_mean 7 = .ok (.aload_n 0, 1) := by decide +kernel
theorem dX7_mean_8 : decode cX7_mean 8 = .ok (.invokevirtual 322, 3) := by decide +kernel
theorem dX7_mean_11 : decode cX7_mean 11 = .ok (.l2d, 1) := by decide +kernel
theorem dX7_mean_12 : decode cX7_mean 12 = .ok (.aload_n 0, 1) := by decide +kernel
theorem dX7_mean_13 : decode cX7_mean 13 = .ok (.iconst 0, 1) := by decide +kernel
theorem dX7_mean_14 : decode cX7_mean 14 = .ok (.aload_n 0, 1) := by decide +kernel
theorem dX7_mean_15 : decode cX7_mean 15 = .ok (.getfield 154, 3) := by decide +kernel
theorem dX7_mean_18 : decode cX7_mean 18 = .ok (.invokevirtual 270, 3) := by decide +kernel
theorem dX7_mean_21 : decode cX7_mean 21 = .ok (.l2d, 1) := by decide +kernel
theorem dX7_mean_22 : decode cX7_mean 22 = .ok (.ddiv, 1) := by decide +kernel
theorem dX7_mean_23 : decode cX7_mean 23 = .ok (.invokestatic 340, 3) := by decide +kernel
theorem dX7_mean_26 : decode cX7_mean 26 = .ok (.goto 6, 3) := by decide +kernel
theorem dX7_mean_29 : decode cX7_mean 29 = .ok (.ldc2_w 295, 3) := by decide +kernel
theorem dX7_mean_32 : decode cX7_mean 32 = .ok (.lreturn, 1) := by decide +kernel
theorem dX7_length_0 : decode cX7_length 0 = .ok (.aload_n 0, 1) := by decide +kernel
theorem dX7_length_1 : decode cX7_length 1 = .ok (.iload_n 1, 1) := by decide +kernel
theorem dX7_length_2 : decode cX7_length 2 = .ok (.invokevirtual 157, 3) := by decide +kernel
theorem dX7_length_5 : decode cX7_length 5 = .ok (.ifCond .ne 5, 3) := by decide +kernel
theorem dX7_length_8 : decode cX7_length 8 = .ok (.iconst (-1), 1) := by decide +kernel
theorem dX7_length_9 : decode cX7_length 9 = .ok (.ireturn, 1) := by decide +kernel
theorem dX7_length_10 : decode cX7_length 10 = .ok (.aload_n 0, 1) := by decide +kernel
theorem dX7_length_11 : decode cX7_length 11 = .ok (.getfield 140, 3) := by decide +kernel
theorem dX7_length_14 : decode cX7_length 14 = .ok (.ifCond .eq 12, 3) := by decide +kernel
theorem dX7_length_17 : decode cX7_length 17 = .ok (.aload_n 0, 1) := by decide +kernel
theorem dX7_length_18 : decode cX7_length 18 = .ok (.getfield 20, 3) := by decide +kernel
theorem dX7_length_21 : decode cX7_length 21 = .ok (.iload_n 1, 1) := by decide +kernel
theorem dX7_length_22 : decode cX7_length 22 = .ok (.iaload, 1) := by decide +kernel
theorem dX7_length_23 : decode cX7_length 23 = .ok (.goto 5, 3) := by decide +kernel
theorem dX7_length_26 : decode cX7_length 26 = .ok (.bipush (-3), 2) := by decide +kernel
theorem dX7_length_28 : decode cX7_length 28 = .ok (.ireturn, 1) := by decide +kernel
theorem dX7_word_0 : decode cX7_word 0 = .ok (.aload_n 0, 1) := by decide +kernel
theorem dX7_word_1 : decode cX7_word 1 = .ok (.iload_n 1, 1) := by decide +kernel
theorem dX7_word_2 : decode cX7_word 2 = .ok (.invokevirtual 157, 3) := by decide +kernel
theorem dX7_word_5 : decode cX7_word 5 = .ok (.ifCond .ne 5, 3) := by decide +kernel
theorem dX7_word_8 : decode cX7_word 8 = .ok (.iconst (-1), 1) := by decide +kernel
theorem dX7_word_9 : decode cX7_word 9 = .ok (.ireturn, 1) := by decide +kernel
theorem dX7_word_10 : decode cX7_word 10 = .ok (.aload_n 0, 1) := by decide +kernel
theorem dX7_word_11 : decode cX7_word 11 = .ok (.getfield 140, 3) := by decide +kernel
theorem dX7_word_14 : decode cX7_word 14 = .ok (.ifCond .ne 6, 3) := by decide +kernel
theorem dX7_word_17 : decode cX7_word 17 = .ok (.bipush (-3), 2) := by decide +kernel
theorem dX7_word_19 : decode cX7_word 19 = .ok (.ireturn, 1) := by decide +kernel
theorem dX7_word_20 : decode cX7_word 20 = .ok (.iload_n 2, 1) := by decide +kernel
theorem dX7_word_21 : decode cX7_word 21 = .ok (.i2l, 1) := by decide +kernel
theorem dX7_word_22 : decode cX7_word 22 = .ok (.lconst 0, 1) := by decide +kernel
theorem dX7_word_23 : decode cX7_word 23 = .ok (.aload_n 0, 1) := by decide +kernel
theorem dX7_word_24 : decode cX7_word 24 = .ok (.getfield 20, 3) := by decide +kernel
theorem dX7_word_27 : decode cX7_word 27 = .ok (.iload_n 1, 1) := by decide +kernel
theorem dX7_word_28 : decode cX7_word 28 = .ok (.iaload, 1) := by decide +kernel
theorem dX7_word_29 : decode cX7_word 29 = .ok (.iconst 1, 1) := by decide +kernel
theorem dX7_word_30 : decode cX7_word 30 = .ok (.isub, 1) := by decide +kernel
theorem dX7_word_31 : decode cX7_word 31 = .ok (.i2l, 1) := by decide +kernel
theorem dX7_word_32 : decode cX7_word 32 = .ok (.invokestatic 133, 3) := by decide +kernel
theorem dX7_word_35 : decode cX7_word 35 = .ok (.ifCond .eq 16, 3) := by decide +kernel
theorem dX7_word_38 : decode cX7_word 38 = .ok (.aload_n 0, 1) := by decide +kernel
theorem dX7_word_39 : decode cX7_word 39 = .ok (.getfield 16, 3) := by decide +kernel
theorem dX7_word_42 : decode cX7_word 42 = .ok (.iload_n 1, 1) := by decide +kernel
theorem dX7_word_43 : decode cX7_word 43 = .ok (.laload, 1) := by decide +kernel
theorem dX7_word_44 : decode cX7_word 44 = .ok (.iload_n 2, 1) := by decide +kernel
theorem dX7_word_45 : decode cX7_word 45 = .ok (.invokestatic 169, 3) := by decide +kernel
theorem dX7_word_48 : decode cX7_word 48 = .ok (.goto 5, 3) := by decide +kernel
theorem dX7_word_51 : decode cX7_word 51 = .ok (.bipush (-6), 2) := by decide +kernel
theorem dX7_word_53 : decode cX7_word 53 = .ok (.ireturn, 1) := by decide +kernel
theorem dX7_room_0 : decode cX7_room 0 = .ok (.aload_n 0, 1) := by decide +kernel
theorem dX7_room_1 : decode cX7_room 1 = .ok (.getfield 140, 3) := by decide +kernel
theorem dX7_room_4 : decode cX7_room 4 = .ok (.ifCond .ne 7, 3) := by decide +kernel
theorem dX7_room_7 : decode cX7_room 7 = .ok (.ldc2_w 295, 3) := by decide +kernel
theorem dX7_room_10 : decode cX7_room 10 = .ok (.lreturn, 1) := by decide +kernel
theorem dX7_room_11 : decode cX7_room 11 = .ok (.dconst 0, 1) := by decide +kernel
theorem dX7_room_12 : decode cX7_room 12 = .ok (.dstore_n 1, 1) := by decide +kernel
theorem dX7_room_13 : decode cX7_room 13 = .ok (.iconst 0, 1) := by decide +kernel
theorem dX7_room_14 : decode cX7_room 14 = .ok (.istore_n 3, 1) := by decide +kernel
theorem dX7_room_15 : decode cX7_room 15 = .ok (.iload_n 3, 1) := by decide +kernel
theorem dX7_room_16 : decode cX7_room 16 = .ok (.aload_n 0, 1) := by decide +kernel
theorem dX7_room_17 : decode cX7_room 17 = .ok (.getfield 154, 3) := by decide +kernel
theorem dX7_room_20 : decode cX7_room 20 = .ok (.if_icmp .ge 47, 3) := by decide +kernel
theorem dX7_room_23 : decode cX7_room 23 = .ok (.dconst 1, 1) := by decide +kernel
theorem dX7_room_24 : decode cX7_room 24 = .ok (.dstore 4, 2) := by decide +kernel
theorem dX7_room_26 : decode cX7_room 26 = .ok (.iconst 0, 1) := by decide +kernel
theorem dX7_room_27 : decode cX7_room 27 = .ok (.istore 6, 2) := by decide +kernel
theorem dX7_room_29 : decode cX7_room 29 = .ok (.iload 6, 2) := by decide +kernel
theorem dX7_room_31 : decode cX7_room 31 = .ok (.aload_n 0, 1) := by decide +kernel
theorem dX7_room_32 : decode cX7_room 32 = .ok (.getfield 20, 3) := by decide +kernel
theorem dX7_room_35 : decode cX7_room 35 = .ok (.iload_n 3, 1) := by decide +kernel
theorem dX7_room_36 : decode cX7_room 36 = .ok (.iaload, 1) := by decide +kernel
theorem dX7_room_37 : decode cX7_room 37 = .ok (.if_icmp .ge 19, 3) := by decide +kernel
theorem dX7_room_40 : decode cX7_room 40 = .ok (.dload 4, 2) := by decide +kernel
theorem dX7_room_42 : decode cX7_room 42 = .ok (.aload_n 0, 1) := by decide +kernel
theorem dX7_room_43 : decode cX7_room 43 = .ok (.getfield 137, 3) := by decide +kernel
theorem dX7_room_46 : decode cX7_room 46 = .ok (.i2d, 1) := by decide +kernel
theorem dX7_room_47 : decode cX7_room 47 = .ok (.ddiv, 1) := by decide +kernel
theorem dX7_room_48 : decode cX7_room 48 = .ok (.dstore 4, 2) := by decide +kernel
theorem dX7_room_50 : decode cX7_room 50 = .ok (.iinc 6 1, 3) := by decide +kernel
theorem dX7_room_53 : decode cX7_room 53 = .ok (.goto (-24), 3) := by decide +kernel
theorem dX7_room_56 : decode cX7_room 56 = .ok (.dload_n 1, 1) := by decide +kernel
theorem dX7_room_57 : decode cX7_room 57 = .ok (.dload 4, 2) := by decide +kernel
theorem dX7_room_59 : decode cX7_room 59 = .ok (.dadd, 1) := by decide +kernel
theorem dX7_room_60 : decode cX7_room 60 = .ok (.dstore_n 1, 1) := by decide +kernel
theorem dX7_room_61 : decode cX7_room 61 = .ok (.iinc 3 1, 3) := by decide +kernel
theorem dX7_room_64 : decode cX7_room 64 = .ok (.goto (-49), 3) := by decide +kernel
theorem dX7_room_67 : decode cX7_room 67 = .ok (.dload_n 1, 1) := by decide +kernel
theorem dX7_room_68 : decode cX7_room 68 = .ok (.invokestatic 340, 3) := by decide +kernel
theorem dX7_room_71 : decode cX7_room 71 = .ok (.lreturn, 1) := by decide +kernel
theorem dX7_placeOf_0 : decode cX7_placeOf 0 = .ok (.iconst 0, 1) := by decide +kernel
theorem dX7_placeOf_1 : decode cX7_placeOf 1 = .ok (.istore 4, 2) := by decide +kernel
theorem dX7_placeOf_3 : decode cX7_placeOf 3 = .ok (.iload 4, 2) := by decide +kernel
theorem dX7_placeOf_5 : decode cX7_placeOf 5 = .ok (.aload_n 0, 1) := by decide +kernel
theorem dX7_placeOf_6 : decode cX7_placeOf 6 = .ok (.getfield 346, 3) := by decide +kernel
theorem dX7_placeOf_9 : decode cX7_placeOf 9 = .ok (.if_icmp .ge 35, 3) := by decide +kernel
theorem dX7_placeOf_12 : decode cX7_placeOf 12 = .ok (.aload_n 0, 1) := by decide +kernel
theorem dX7_placeOf_13 : decode cX7_placeOf 13 = .ok (.getfield 89, 3) := by decide +kernel
theorem dX7_placeOf_16 : decode cX7_placeOf 16 = .ok (.iload 4, 2) := by decide +kernel
theorem dX7_placeOf_18 : decode cX7_placeOf 18 = .ok (.laload, 1) := by decide +kernel
theorem dX7_placeOf_19 : decode cX7_placeOf 19 = .ok (.lload_n 1, 1) := by decide +kernel
theorem dX7_placeOf_20 : decode cX7_placeOf 20 = .ok (.lcmp, 1) := by decide +kernel
theorem dX7_placeOf_21 : decode cX7_placeOf 21 = .ok (.ifCond .ne 17, 3) := by decide +kernel
theorem dX7_placeOf_24 : decode cX7_placeOf 24 = .ok (.aload_n 0, 1) := by decide +kernel
theorem dX7_placeOf_25 : decode cX7_placeOf 25 = .ok (.getfield 92, 3) := by decide +kernel
theorem dX7_placeOf_28 : decode cX7_placeOf 28 = .ok (.iload 4, 2) := by decide +kernel
theorem dX7_placeOf_30 : decode cX7_placeOf 30 = .ok (.iaload, 1) := by decide +kernel
theorem dX7_placeOf_31 : decode cX7_placeOf 31 = .ok (.iload_n 3, 1) := by decide +kernel
theorem dX7_placeOf_32 : decode cX7_placeOf 32 = .ok (.if_icmp .ne 6, 3) := by decide +kernel
theorem dX7_placeOf_35 : decode cX7_placeOf 35 = .ok (.iload 4, 2) := by decide +kernel
theorem dX7_placeOf_37 : decode cX7_placeOf 37 = .ok (.ireturn, 1) := by decide +kernel
theorem dX7_placeOf_38 : decode cX7_placeOf 38 = .ok (.iinc 4 1, 3) := by decide +kernel
theorem dX7_placeOf_41 : decode cX7_placeOf 41 = .ok (.goto (-38), 3) := by decide +kernel
theorem dX7_placeOf_44 : decode cX7_placeOf 44 = .ok (.iconst (-1), 1) := by decide +kernel
theorem dX7_placeOf_45 : decode cX7_placeOf 45 = .ok (.ireturn, 1) := by decide +kernel
theorem dX7_cut_0 : decode cX7_cut 0 = .ok (.iload_n 2, 1) := by decide +kernel
theorem dX7_cut_1 : decode cX7_cut 1 = .ok (.ifCond .ne 7, 3) := by decide +kernel
theorem dX7_cut_4 : decode cX7_cut 4 = .ok (.lconst 0, 1) := by decide +kernel
theorem dX7_cut_5 : decode cX7_cut 5 = .ok (.goto 18, 3) := by decide +kernel
theorem dX7_cut_8 : decode cX7_cut 8 = .ok (.lload_n 0, 1) := by decide +kernel
theorem dX7_cut_9 : decode cX7_cut 9 = .ok (.bipush 48, 2) := by decide +kernel
theorem dX7_cut_11 : decode cX7_cut 11 = .ok (.iconst 2, 1) := by decide +kernel
theorem dX7_cut_12 : decode cX7_cut 12 = .ok (.iload_n 2, 1) := by decide +kernel
theorem dX7_cut_13 : decode cX7_cut 13 = .ok (.imul, 1) := by decide +kernel
theorem dX7_cut_14 : decode cX7_cut 14 = .ok (.isub, 1) := by decide +kernel
theorem dX7_cut_15 : decode cX7_cut 15 = .ok (.lshr, 1) := by decide +kernel
theorem dX7_cut_16 : decode cX7_cut 16 = .ok (.bipush 48, 2) := by decide +kernel
theorem dX7_cut_18 : decode cX7_cut 18 = .ok (.iconst 2, 1) := by decide +kernel
theorem dX7_cut_19 : decode cX7_cut 19 = .ok (.iload_n 2, 1) := by decide +kernel
theorem dX7_cut_20 : decode cX7_cut 20 = .ok (.imul, 1) := by decide +kernel
theorem dX7_cut_21 : decode cX7_cut 21 = .ok (.isub, 1) := by decide +kernel
theorem dX7_cut_22 : decode cX7_cut 22 = .ok (.lshl, 1) := by decide +kernel
theorem dX7_cut_23 : decode cX7_cut 23 = .ok (.lreturn, 1) := by decide +kernel
theorem dX7_findPlaces_0 : decode cX7_findPlaces 0 = .ok (.aload_n 0, 1) := by decide +kernel
theorem dX7_findPlaces_1 : decode cX7_findPlaces 1 = .ok (.iconst 0, 1) := by decide +kernel
theorem dX7_findPlaces_2 : decode cX7_findPlaces 2 = .ok (.putfield 346, 3) := by decide +kernel
theorem dX7_findPlaces_5 : decode cX7_findPlaces 5 = .ok (.iconst 0, 1) := by decide +kernel
theorem dX7_findPlaces_6 : decode cX7_findPlaces 6 = .ok (.istore_n 1, 1) := by decide +kernel
theorem dX7_findPlaces_7 : decode cX7_findPlaces 7 = .ok (.iload_n 1, 1) := by decide +kernel
theorem dX7_findPlaces_8 : decode cX7_findPlaces 8 = .ok (.aload_n 0, 1) := by decide +kernel
theorem dX7_findPlaces_9 : decode cX7_findPlaces 9 = .ok (.getfield 154, 3) := by decide +kernel
theorem dX7_findPlaces_12 : decode cX7_findPlaces 12 = .ok (.if_icmp .ge 77, 3) := by decide +kernel
theorem dX7_findPlaces_15 : decode cX7_findPlaces 15 = .ok (.iconst 0, 1) := by decide +kernel
theorem dX7_findPlaces_16 : decode cX7_findPlaces 16 = .ok (.istore_n 2, 1) := by decide +kernel
theorem dX7_findPlaces_17 : decode cX7_findPlaces 17 = .ok (.iload_n 2, 1) := by decide +kernel
theorem dX7_findPlaces_18 : decode cX7_findPlaces 18 = .ok (.aload_n 0, 1) := by decide +kernel
theorem dX7_findPlaces_19 : decode cX7_findPlaces 19 = .ok (.getfield 20, 3) := by decide +kernel
theorem dX7_findPlaces_22 : decode cX7_findPlaces 22 = .ok (.iload_n 1, 1) := by decide +kernel
theorem dX7_findPlaces_23 : decode cX7_findPlaces 23 = .ok (.iaload, 1) := by decide +kernel
theorem dX7_findPlaces_24 : decode cX7_findPlaces 24 = .ok (.if_icmp .ge 59, 3) := by decide +kernel
theorem dX7_findPlaces_27 : decode cX7_findPlaces 27 = .ok (.aload_n 0, 1) := by decide +kernel
theorem dX7_findPlaces_28 : decode cX7_findPlaces 28 = .ok (.getfield 16, 3) := by decide +kernel
theorem dX7_findPlaces_31 : decode cX7_findPlaces 31 = .ok (.iload_n 1, 1) := by decide +kernel
theorem dX7_findPlaces_32 : decode cX7_findPlaces 32 = .ok (.laload, 1) := by decide +kernel
theorem dX7_findPlaces_33 : decode cX7_findPlaces 33 = .ok (.iload_n 2, 1) := by decide +kernel
theorem dX7_findPlaces_34 : decode cX7_findPlaces 34 = .ok (.invokestatic 349, 3) := by decide +kernel
theorem dX7_findPlaces_37 : decode cX7_findPlaces 37 = .ok (.lstore_n 3, 1) := by decide +kernel
theorem dX7_findPlaces_38 : decode cX7_findPlaces 38 = .ok (.aload_n 0, 1) := by decide +kernel
theorem dX7_findPlaces_39 : decode cX7_findPlaces 39 = .ok (.lload_n 3, 1) := by decide +kernel
theorem dX7_findPlaces_40 : decode cX7_findPlaces 40 = .ok (.iload_n 2, 1) := by decide +kernel
theorem dX7_findPlaces_41 : decode cX7_findPlaces 41 = .ok (.invokevirtual 353, 3) := by decide +kernel
theorem dX7_findPlaces_44 : decode cX7_findPlaces 44 = .ok (.ifCond .ge 33, 3) := by decide +kernel
theorem dX7_findPlaces_47 : decode cX7_findPlaces 47 = .ok (.aload_n 0, 1) := by decide +kernel
theorem dX7_findPlaces_48 : decode cX7_findPlaces 48 = .ok (.getfield 89, 3) := by decide +kernel
theorem dX7_findPlaces_51 : decode cX7_findPlaces 51 = .ok (.aload_n 0, 1) := by decide +kernel
theorem dX7_findPlaces_52 : decode cX7_findPlaces 52 = .ok (.getfield 346, 3) := by decide +kernel
theorem dX7_findPlaces_55 : decode cX7_findPlaces 55 = .ok (.lload_n 3, 1) := by decide +kernel
theorem dX7_findPlaces_56 : decode cX7_findPlaces 56 = .ok (.lastore, 1) := by decide +kernel
theorem dX7_findPlaces_57 : decode cX7_findPlaces 57 = .ok (.aload_n 0, 1) := by decide +kernel
theorem dX7_findPlaces_58 : decode cX7_findPlaces 58 = .ok (.getfield 92, 3) := by decide +kernel
theorem dX7_findPlaces_61 : decode cX7_findPlaces 61 = .ok (.aload_n 0, 1) := by decide +kernel
theorem dX7_findPlaces_62 : decode cX7_findPlaces 62 = .ok (.getfield 346, 3) := by decide +kernel
theorem dX7_findPlaces_65 : decode cX7_findPlaces 65 = .ok (.iload_n 2, 1) := by decide +kernel
theorem dX7_findPlaces_66 : decode cX7_findPlaces 66 = .ok (.iastore, 1) := by decide +kernel
theorem dX7_findPlaces_67 : decode cX7_findPlaces 67 = .ok (.aload_n 0, 1) := by decide +kernel
theorem dX7_findPlaces_68 : decode cX7_findPlaces 68 = .ok (.dup, 1) := by decide +kernel
theorem dX7_findPlaces_69 : decode cX7_findPlaces 69 = .ok (.getfield 346, 3) := by decide +kernel
theorem dX7_findPlaces_72 : decode cX7_findPlaces 72 = .ok (.iconst 1, 1) := by decide +kernel
theorem dX7_findPlaces_73 : decode cX7_findPlaces 73 = .ok (.iadd, 1) := by decide +kernel
theorem dX7_findPlaces_74 : decode cX7_findPlaces 74 = .ok (.putfield 346, 3) := by decide +kernel
theorem dX7_findPlaces_77 : decode cX7_findPlaces 77 = .ok (.iinc 2 1, 3) := by decide +kernel
theorem dX7_findPlaces_80 : decode cX7_findPlaces 80 = .ok (.goto (-63), 3) := by decide +kernel
theorem dX7_findPlaces_83 : decode cX7_findPlaces 83 = .ok (.iinc 1 1, 3) := by decide +kernel
theorem dX7_findPlaces_86 : decode cX7_findPlaces 86 = .ok (.goto (-79), 3) := by decide +kernel
theorem dX7_findPlaces_89 : decode cX7_findPlaces 89 = .ok (.iconst 0, 1) := by decide +kernel
theorem dX7_findPlaces_90 : decode cX7_findPlaces 90 = .ok (.istore_n 1, 1) := by decide +kernel
theorem dX7_findPlaces_91 : decode cX7_findPlaces 91 = .ok (.iload_n 1, 1) := by decide +kernel
theorem dX7_findPlaces_92 : decode cX7_findPlaces 92 = .ok (.aload_n 0, 1) := by decide +kernel
theorem dX7_findPlaces_93 : decode cX7_findPlaces 93 = .ok (.getfield 346, 3) := by decide +kernel
theorem dX7_findPlaces_96 : decode cX7_findPlaces 96 = .ok (.if_icmp .ge 63, 3) := by decide +kernel
theorem dX7_findPlaces_99 : decode cX7_findPlaces 99 = .ok (.iconst 0, 1) := by decide +kernel
theorem dX7_findPlaces_100 : decode cX7_findPlaces 100 = .ok (.istore_n 2, 1) := by decide +kernel
theorem dX7_findPlaces_101 : decode cX7_findPlaces 101 = .ok (.iload_n 2, 1) := by decide +kernel
theorem dX7_findPlaces_102 : decode cX7_findPlaces 102 = .ok (.aload_n 0, 1) := by decide +kernel
theorem dX7_findPlaces_103 : decode cX7_findPlaces 103 = .ok (.getfield 137, 3) := by decide +kernel
theorem dX7_findPlaces_106 : decode cX7_findPlaces 106 = .ok (.if_icmp .ge 47, 3) := by decide +kernel
theorem dX7_findPlaces_109 : decode cX7_findPlaces 109 = .ok (.aload_n 0, 1) := by decide +kernel
theorem dX7_findPlaces_110 : decode cX7_findPlaces 110 = .ok (.getfield 95, 3) := by decide +kernel
theorem dX7_findPlaces_113 : decode cX7_findPlaces 113 = .ok (.iconst 4, 1) := by decide +kernel
theorem dX7_findPlaces_114 : decode cX7_findPlaces 114 = .ok (.iload_n 1, 1) := by decide +kernel
theorem dX7_findPlaces_115 : decode cX7_findPlaces 115 = .ok (.imul, 1) := by decide +kernel
theorem dX7_findPlaces_116 : decode cX7_findPlaces 116 = .ok (.iload_n 2, 1) := by decide +kernel
theorem dX7_findPlaces_117 : decode cX7_findPlaces 117 = .ok (.iadd, 1) := by decide +kernel
theorem dX7_findPlaces_118 : decode cX7_findPlaces 118 = .ok (.aload_n 0, 1) := by decide +kernel
theorem dX7_findPlaces_119 : decode cX7_findPlaces 119 = .ok (.aload_n 0, 1) := by decide +kernel
theorem dX7_findPlaces_120 : decode cX7_findPlaces 120 = .ok (.getfield 89, 3) := by decide +kernel
theorem dX7_findPlaces_123 : decode cX7_findPlaces 123 = .ok (.iload_n 1, 1) := by decide +kernel
theorem dX7_findPlaces_124 : decode cX7_findPlaces 124 = .ok (.laload, 1) := by decide +kernel
theorem dX7_findPlaces_125 : decode cX7_findPlaces 125 = .ok (.aload_n 0, 1) := by decide +kernel
theorem dX7_findPlaces_126 : decode cX7_findPlaces 126 = .ok (.getfield 92, 3) := by decide +kernel
theorem dX7_findPlaces_129 : decode cX7_findPlaces 129 = .ok (.iload_n 1, 1) := by decide +kernel
theorem dX7_findPlaces_130 : decode cX7_findPlaces 130 = .ok (.iaload, 1) := by decide +kernel
theorem dX7_findPlaces_131 : decode cX7_findPlaces 131 = .ok (.iload_n 2, 1) := by decide +kernel
theorem dX7_findPlaces_132 : decode cX7_findPlaces 132 = .ok (.invokestatic 262, 3) := by decide +kernel
theorem dX7_findPlaces_135 : decode cX7_findPlaces 135 = .ok (.aload_n 0, 1) := by decide +kernel
theorem dX7_findPlaces_136 : decode cX7_findPlaces 136 = .ok (.getfield 92, 3) := by decide +kernel
theorem dX7_findPlaces_139 : decode cX7_findPlaces 139 = .ok (.iload_n 1, 1) := by decide +kernel
theorem dX7_findPlaces_140 : decode cX7_findPlaces 140 = .ok (.iaload, 1) := by decide +kernel
theorem dX7_findPlaces_141 : decode cX7_findPlaces 141 = .ok (.iconst 1, 1) := by decide +kernel
theorem dX7_findPlaces_142 : decode cX7_findPlaces 142 = .ok (.iadd, 1) := by decide +kernel
theorem dX7_findPlaces_143 : decode cX7_findPlaces 143 = .ok (.invokevirtual 356, 3) := by decide +kernel
theorem dX7_findPlaces_146 : decode cX7_findPlaces 146 = .ok (.iastore, 1) := by decide +kernel
theorem dX7_findPlaces_147 : decode cX7_findPlaces 147 = .ok (.iinc 2 1, 3) := by decide +kernel
theorem dX7_findPlaces_150 : decode cX7_findPlaces 150 = .ok (.goto (-49), 3) := by decide +kernel
theorem dX7_findPlaces_153 : decode cX7_findPlaces 153 = .ok (.iinc 1 1, 3) := by decide +kernel
theorem dX7_findPlaces_156 : decode cX7_findPlaces 156 = .ok (.goto (-65), 3) := by decide +kernel
theorem dX7_findPlaces_159 : decode cX7_findPlaces 159 = .ok (.return_, 1) := by decide +kernel
theorem dX7_leadsTo_0 : decode cX7_leadsTo 0 = .ok (.iconst 0, 1) := by decide +kernel
theorem dX7_leadsTo_1 : decode cX7_leadsTo 1 = .ok (.istore 4, 2) := by decide +kernel
theorem dX7_leadsTo_3 : decode cX7_leadsTo 3 = .ok (.iload 4, 2) := by decide +kernel
theorem dX7_leadsTo_5 : decode cX7_leadsTo 5 = .ok (.aload_n 0, 1) := by decide +kernel
theorem dX7_leadsTo_6 : decode cX7_leadsTo 6 = .ok (.getfield 154, 3) := by decide +kernel
theorem dX7_leadsTo_9 : decode cX7_leadsTo 9 = .ok (.if_icmp .ge 34, 3) := by decide +kernel
theorem dX7_leadsTo_12 : decode cX7_leadsTo 12 = .ok (.aload_n 0, 1) := by decide +kernel
theorem dX7_leadsTo_13 : decode cX7_leadsTo 13 = .ok (.getfield 20, 3) := by decide +kernel
theorem dX7_leadsTo_16 : decode cX7_leadsTo 16 = .ok (.iload 4, 2) := by decide +kernel
theorem dX7_leadsTo_18 : decode cX7_leadsTo 18 = .ok (.iaload, 1) := by decide +kernel
theorem dX7_leadsTo_19 : decode cX7_leadsTo 19 = .ok (.iload_n 3, 1) := by decide +kernel
theorem dX7_leadsTo_20 : decode cX7_leadsTo 20 = .ok (.if_icmp .ne 17, 3) := by decide +kernel
theorem dX7_leadsTo_23 : decode cX7_leadsTo 23 = .ok (.aload_n 0, 1) := by decide +kernel
theorem dX7_leadsTo_24 : decode cX7_leadsTo 24 = .ok (.getfield 16, 3) := by decide +kernel
theorem dX7_leadsTo_27 : decode cX7_leadsTo 27 = .ok (.iload 4, 2) := by decide +kernel
theorem dX7_leadsTo_29 : decode cX7_leadsTo 29 = .ok (.laload, 1) := by decide +kernel
theorem dX7_leadsTo_30 : decode cX7_leadsTo 30 = .ok (.lload_n 1, 1) := by decide +kernel
theorem dX7_leadsTo_31 : decode cX7_leadsTo 31 = .ok (.lcmp, 1) := by decide +kernel
theorem dX7_leadsTo_32 : decode cX7_leadsTo 32 = .ok (.ifCond .ne 5, 3) := by decide +kernel
theorem dX7_leadsTo_35 : decode cX7_leadsTo 35 = .ok (.iconst 0, 1) := by decide +kernel
theorem dX7_leadsTo_36 : decode cX7_leadsTo 36 = .ok (.ireturn, 1) := by decide +kernel
theorem dX7_leadsTo_37 : decode cX7_leadsTo 37 = .ok (.iinc 4 1, 3) := by decide +kernel
theorem dX7_leadsTo_40 : decode cX7_leadsTo 40 = .ok (.goto (-37), 3) := by decide +kernel
theorem dX7_leadsTo_43 : decode cX7_leadsTo 43 = .ok (.aload_n 0, 1) := by decide +kernel
theorem dX7_leadsTo_44 : decode cX7_leadsTo 44 = .ok (.lload_n 1, 1) := by decide +kernel
theorem dX7_leadsTo_45 : decode cX7_leadsTo 45 = .ok (.iload_n 3, 1) := by decide +kernel
theorem dX7_leadsTo_46 : decode cX7_leadsTo 46 = .ok (.invokevirtual 353, 3) := by decide +kernel
theorem dX7_leadsTo_49 : decode cX7_leadsTo 49 = .ok (.ireturn, 1) := by decide +kernel
theorem dX7_full_0 : decode cX7_full 0 = .ok (.aload_n 0, 1) := by decide +kernel
theorem dX7_full_1 : decode cX7_full 1 = .ok (.getfield 140, 3) := by decide +kernel
theorem dX7_full_4 : decode cX7_full 4 = .ok (.ifCond .ne 6, 3) := by decide +kernel
theorem dX7_full_7 : decode cX7_full 7 = .ok (.bipush (-3), 2) := by decide +kernel
theorem dX7_full_9 : decode cX7_full 9 = .ok (.ireturn, 1) := by decide +kernel
theorem dX7_full_10 : decode cX7_full 10 = .ok (.aload_n 0, 1) := by decide +kernel
theorem dX7_full_11 : decode cX7_full 11 = .ok (.invokevirtual 359, 3) := by decide +kernel
theorem dX7_full_14 : decode cX7_full 14 = .ok (.ifCond .ne 6, 3) := by decide +kernel
theorem dX7_full_17 : decode cX7_full 17 = .ok (.bipush (-5), 2) := by decide +kernel
theorem dX7_full_19 : decode cX7_full 19 = .ok (.ireturn, 1) := by decide +kernel
theorem dX7_full_20 : decode cX7_full 20 = .ok (.aload_n 0, 1) := by decide +kernel
theorem dX7_full_21 : decode cX7_full 21 = .ok (.invokevirtual 362, 3) := by decide +kernel
theorem dX7_full_24 : decode cX7_full 24 = .ok (.iconst 1, 1) := by decide +kernel
theorem dX7_full_25 : decode cX7_full 25 = .ok (.istore_n 1, 1) := by decide +kernel
theorem dX7_full_26 : decode cX7_full 26 = .ok (.iconst 0, 1) := by decide +kernel
theorem dX7_full_27 : decode cX7_full 27 = .ok (.istore_n 2, 1) := by decide +kernel
theorem dX7_full_28 : decode cX7_full 28 = .ok (.iload_n 2, 1) := by decide +kernel
theorem dX7_full_29 : decode cX7_full 29 = .ok (.aload_n 0, 1) := by decide +kernel
theorem dX7_full_30 : decode cX7_full 30 = .ok (.getfield 346, 3) := by decide +kernel
theorem dX7_full_33 : decode cX7_full 33 = .ok (.if_icmp .ge 48, 3) := by decide +kernel
theorem dX7_full_36 : decode cX7_full 36 = .ok (.iconst 0, 1) := by decide +kernel
theorem dX7_full_37 : decode cX7_full 37 = .ok (.istore_n 3, 1) := by decide +kernel
theorem dX7_full_38 : decode cX7_full 38 = .ok (.iload_n 3, 1) := by decide +kernel
theorem dX7_full_39 : decode cX7_full 39 = .ok (.aload_n 0, 1) := by decide +kernel
theorem dX7_full_40 : decode cX7_full 40 = .ok (.getfield 137, 3) := by decide +kernel
theorem dX7_full_43 : decode cX7_full 43 = .ok (.if_icmp .ge 32, 3) := by decide +kernel
theorem dX7_full_46 : decode cX7_full 46 = .ok (.iload_n 1, 1) := by decide +kernel
theorem dX7_full_47 : decode cX7_full 47 = .ok (.ifCond .eq 20, 3) := by decide +kernel
theorem dX7_full_50 : decode cX7_full 50 = .ok (.aload_n 0, 1) := by decide +kernel
theorem dX7_full_51 : decode cX7_full 51 = .ok (.getfield 95, 3) := by decide +kernel
theorem dX7_full_54 : decode cX7_full 54 = .ok (.iconst 4, 1) := by decide +kernel
theorem dX7_full_55 : decode cX7_full 55 = .ok (.iload_n 2, 1) := by decide +kernel
theorem dX7_full_56 : decode cX7_full 56 = .ok (.imul, 1) := by decide +kernel
theorem dX7_full_57 : decode cX7_full 57 = .ok (.iload_n 3, 1) := by decide +kernel
theorem dX7_full_58 : decode cX7_full 58 = .ok (.iadd, 1) := by decide +kernel
theorem dX7_full_59 : decode cX7_full 59 = .ok (.iaload, 1) := by decide +kernel
theorem dX7_full_60 : decode cX7_full 60 = .ok (.ifCond .lt 7, 3) := by decide +kernel
theorem dX7_full_63 : decode cX7_full 63 = .ok (.iconst 1, 1) := by decide +kernel
theorem dX7_full_64 : decode cX7_full 64 = .ok (.goto 4, 3) := by decide +kernel
theorem dX7_full_67 : decode cX7_full 67 = .ok (.iconst 0, 1) := by decide +kernel
theorem dX7_full_68 : decode cX7_full 68 = .ok (.istore_n 1, 1) := by decide +kernel
theorem dX7_full_69 : decode cX7_full 69 = .ok (.iinc 3 1, 3) := by decide +kernel
theorem dX7_full_72 : decode cX7_full 72 = .ok (.goto (-34), 3) := by decide +kernel
theorem dX7_full_75 : decode cX7_full 75 = .ok (.iinc 2 1, 3) := by decide +kernel
theorem dX7_full_78 : decode cX7_full 78 = .ok (.goto (-50), 3) := by decide +kernel
theorem dX7_full_81 : decode cX7_full 81 = .ok (.iload_n 1, 1) := by decide +kernel
theorem dX7_full_82 : decode cX7_full 82 = .ok (.ifCond .eq 7, 3) := by decide +kernel
theorem dX7_full_85 : decode cX7_full 85 = .ok (.iconst 1, 1) := by decide +kernel
theorem dX7_full_86 : decode cX7_full 86 = .ok (.goto 4, 3) := by decide +kernel
theorem dX7_full_89 : decode cX7_full 89 = .ok (.iconst 0, 1) := by decide +kernel
theorem dX7_full_90 : decode cX7_full 90 = .ok (.ireturn, 1) := by decide +kernel
theorem dX7_canon_0 : decode cX7_canon 0 = .ok (.aload_n 0, 1) := by decide +kernel
theorem dX7_canon_1 : decode cX7_canon 1 = .ok (.getfield 140, 3) := by decide +kernel
theorem dX7_canon_4 : decode cX7_canon 4 = .ok (.ifCond .ne 6, 3) := by decide +kernel
theorem dX7_canon_7 : decode cX7_canon 7 = .ok (.bipush (-3), 2) := by decide +kernel
theorem dX7_canon_9 : decode cX7_canon 9 = .ok (.ireturn, 1) := by decide +kernel
theorem dX7_canon_10 : decode cX7_canon 10 = .ok (.iconst 0, 1) := by decide +kernel
theorem dX7_canon_11 : decode cX7_canon 11 = .ok (.istore_n 1, 1) := by decide +kernel
theorem dX7_canon_12 : decode cX7_canon 12 = .ok (.iload_n 1, 1) := by decide +kernel
theorem dX7_canon_13 : decode cX7_canon 13 = .ok (.aload_n 0, 1) := by decide +kernel
theorem dX7_canon_14 : decode cX7_canon 14 = .ok (.getfield 154, 3) := by decide +kernel
theorem dX7_canon_17 : decode cX7_canon 17 = .ok (.if_icmp .ge 76, 3) := by decide +kernel
theorem dX7_canon_20 : decode cX7_canon 20 = .ok (.aload_n 0, 1) := by decide +kernel
theorem dX7_canon_21 : decode cX7_canon 21 = .ok (.getfield 20, 3) := by decide +kernel
theorem dX7_canon_24 : decode cX7_canon 24 = .ok (.iload_n 1, 1) := by decide +kernel
theorem dX7_canon_25 : decode cX7_canon 25 = .ok (.iaload, 1) := by decide +kernel
theorem dX7_canon_26 : decode cX7_canon 26 = .ok (.ifCond .ne 6, 3) := by decide +kernel
theorem dX7_canon_29 : decode cX7_canon 29 = .ok (.bipush (-5), 2) := by decide +kernel
theorem dX7_canon_31 : decode cX7_canon 31 = .ok (.ireturn, 1) := by decide +kernel
theorem dX7_canon_32 : decode cX7_canon 32 = .ok (.iload_n 1, 1) := by decide +kernel
theorem dX7_canon_33 : decode cX7_canon 33 = .ok (.istore_n 2, 1) := by decide +kernel
theorem dX7_canon_34 : decode cX7_canon 34 = .ok (.iload_n 2, 1) := by decide +kernel
theorem dX7_canon_35 : decode cX7_canon 35 = .ok (.ifCond .le 45, 3) := by decide +kernel
theorem dX7_canon_38 : decode cX7_canon 38 = .ok (.aload_n 0, 1) := by decide +kernel
theorem dX7_canon_39 : decode cX7_canon 39 = .ok (.getfield 20, 3) := by decide +kernel
theorem dX7_canon_42 : decode cX7_canon 42 = .ok (.aload_n 0, 1) := by decide +kernel
theorem dX7_canon_43 : decode cX7_canon 43 = .ok (.getfield 98, 3) := by decide +kernel
theorem dX7_canon_46 : decode cX7_canon 46 = .ok (.iload_n 2, 1) := by decide +kernel
theorem dX7_canon_47 : decode cX7_canon 47 = .ok (.iconst 1, 1) := by decide +kernel
theorem dX7_canon_48 : decode cX7_canon 48 = .ok (.isub, 1) := by decide +kernel
theorem dX7_canon_49 : decode cX7_canon 49 = .ok (.iaload, 1) := by decide +kernel
theorem dX7_canon_50 : decode cX7_canon 50 = .ok (.iaload, 1) := by decide +kernel
theorem dX7_canon_51 : decode cX7_canon 51 = .ok (.aload_n 0, 1) := by decide +kernel
theorem dX7_canon_52 : decode cX7_canon 52 = .ok (.getfield 20, 3) := by decide +kernel
theorem dX7_canon_55 : decode cX7_canon 55 = .ok (.iload_n 1, 1) := by decide +kernel
theorem dX7_canon_56 : decode cX7_canon 56 = .ok (.iaload, 1) := by decide +kernel
theorem dX7_canon_57 : decode cX7_canon 57 = .ok (.if_icmp .le 23, 3) := by decide +kernel
theorem dX7_canon_60 : decode cX7_canon 60 = .ok (.aload_n 0, 1) := by decide +kernel
theorem dX7_canon_61 : decode cX7_canon 61 = .ok (.getfield 98, 3) := by decide +kernel
theorem dX7_canon_64 : decode cX7_canon 64 = .ok (.iload_n 2, 1) := by decide +kernel
theorem dX7_canon_65 : decode cX7_canon 65 = .ok (.aload_n 0, 1) := by decide +kernel
theorem dX7_canon_66 : decode cX7_canon 66 = .ok (.getfield 98, 3) := by decide +kernel
theorem dX7_canon_69 : decode cX7_canon 69 = .ok (.iload_n 2, 1) := by decide +kernel
theorem dX7_canon_70 : decode cX7_canon 70 = .ok (.iconst 1, 1) := by decide +kernel
theorem dX7_canon_71 : decode cX7_canon 71 = .ok (.isub, 1) := by decide +kernel
theorem dX7_canon_72 : decode cX7_canon 72 = .ok (.iaload, 1) := by decide +kernel
theorem dX7_canon_73 : decode cX7_canon 73 = .ok (.iastore, 1) := by decide +kernel
theorem dX7_canon_74 : decode cX7_canon 74 = .ok (.iinc 2 (-1), 3) := by decide +kernel
theorem dX7_canon_77 : decode cX7_canon 77 = .ok (.goto (-43), 3) := by decide +kernel
theorem dX7_canon_80 : decode cX7_canon 80 = .ok (.aload_n 0, 1) := by decide +kernel
theorem dX7_canon_81 : decode cX7_canon 81 = .ok (.getfield 98, 3) := by decide +kernel
theorem dX7_canon_84 : decode cX7_canon 84 = .ok (.iload_n 2, 1) := by decide +kernel
theorem dX7_canon_85 : decode cX7_canon 85 = .ok (.iload_n 1, 1) := by decide +kernel
theorem dX7_canon_86 : decode cX7_canon 86 = .ok (.iastore, 1) := by decide +kernel
theorem dX7_canon_87 : decode cX7_canon 87 = .ok (.iinc 1 1, 3) := by decide +kernel
theorem dX7_canon_90 : decode cX7_canon 90 = .ok (.goto (-78), 3) := by decide +kernel
theorem dX7_canon_93 : decode cX7_canon 93 = .ok (.lconst 0, 1) := by decide +kernel
theorem dX7_canon_94 : decode cX7_canon 94 = .ok (.lstore_n 1, 1) := by decide +kernel
theorem dX7_canon_95 : decode cX7_canon 95 = .ok (.iconst 0, 1) := by decide +kernel
theorem dX7_canon_96 : decode cX7_canon 96 = .ok (.istore_n 3, 1) := by decide +kernel
theorem dX7_canon_97 : decode cX7_canon 97 = .ok (.iconst 0, 1) := by decide +kernel
theorem dX7_canon_98 : decode cX7_canon 98 = .ok (.istore 4, 2) := by decide +kernel
theorem dX7_canon_100 : decode cX7_canon 100 = .ok (.iload 4, 2) := by decide +kernel
theorem dX7_canon_102 : decode cX7_canon 102 = .ok (.aload_n 0, 1) := by decide +kernel
theorem dX7_canon_103 : decode cX7_canon 103 = .ok (.getfield 154, 3) := by decide +kernel
theorem dX7_canon_106 : decode cX7_canon 106 = .ok (.if_icmp .ge 55, 3) := by decide +kernel
theorem dX7_canon_109 : decode cX7_canon 109 = .ok (.aload_n 0, 1) := by decide +kernel
theorem dX7_canon_110 : decode cX7_canon 110 = .ok (.getfield 98, 3) := by decide +kernel
theorem dX7_canon_113 : decode cX7_canon 113 = .ok (.iload 4, 2) := by decide +kernel
theorem dX7_canon_115 : decode cX7_canon 115 = .ok (.iaload, 1) := by decide +kernel
theorem dX7_canon_116 : decode cX7_canon 116 = .ok (.istore 5, 2) := by decide +kernel
theorem dX7_canon_118 : decode cX7_canon 118 = .ok (.iload 4, 2) := by decide +kernel
theorem dX7_canon_120 : decode cX7_canon 120 = .ok (.ifCond .le 19, 3) := by decide +kernel
theorem dX7_canon_123 : decode cX7_canon 123 = .ok (.aload_n 0, 1) := by decide +kernel
theorem dX7_canon_124 : decode cX7_canon 124 = .ok (.lload_n 1, 1) := by decide +kernel
theorem dX7_canon_125 : decode cX7_canon 125 = .ok (.iload_n 3, 1) := by decide +kernel
theorem dX7_canon_126 : decode cX7_canon 126 = .ok (.invokevirtual 365, 3) := by decide +kernel
theorem dX7_canon_129 : decode cX7_canon 129 = .ok (.lstore_n 1, 1) := by decide +kernel
theorem dX7_canon_130 : decode cX7_canon 130 = .ok (.lload_n 1, 1) := by decide +kernel
theorem dX7_canon_131 : decode cX7_canon 131 = .ok (.lconst 0, 1) := by decide +kernel
theorem dX7_canon_132 : decode cX7_canon 132 = .ok (.lcmp, 1) := by decide +kernel
theorem dX7_canon_133 : decode cX7_canon 133 = .ok (.ifCond .ge 6, 3) := by decide +kernel
theorem dX7_canon_136 : decode cX7_canon 136 = .ok (.bipush (-5), 2) := by decide +kernel
theorem dX7_canon_138 : decode cX7_canon 138 = .ok (.ireturn, 1) := by decide +kernel
theorem dX7_canon_139 : decode cX7_canon 139 = .ok (.aload_n 0, 1) := by decide +kernel
theorem dX7_canon_140 : decode cX7_canon 140 = .ok (.getfield 20, 3) := by decide +kernel
theorem dX7_canon_143 : decode cX7_canon 143 = .ok (.iload 5, 2) := by decide +kernel
theorem dX7_canon_145 : decode cX7_canon 145 = .ok (.iaload, 1) := by decide +kernel
theorem dX7_canon_146 : decode cX7_canon 146 = .ok (.istore_n 3, 1) := by decide +kernel
theorem dX7_canon_147 : decode cX7_canon 147 = .ok (.aload_n 0, 1) := by decide +kernel
theorem dX7_canon_148 : decode cX7_canon 148 = .ok (.getfield 76, 3) := by decide +kernel
theorem dX7_canon_151 : decode cX7_canon 151 = .ok (.iload 5, 2) := by decide +kernel
theorem dX7_canon_153 : decode cX7_canon 153 = .ok (.lload_n 1, 1) := by decide +kernel
theorem dX7_canon_154 : decode cX7_canon 154 = .ok (.lastore, 1) := by decide +kernel
theorem dX7_canon_155 : decode cX7_canon 155 = .ok (.iinc 4 1, 3) := by decide +kernel
theorem dX7_canon_158 : decode cX7_canon 158 = .ok (.goto (-58), 3) := by decide +kernel
theorem dX7_canon_161 : decode cX7_canon 161 = .ok (.iconst 0, 1) := by decide +kernel
theorem dX7_canon_162 : decode cX7_canon 162 = .ok (.istore 4, 2) := by decide +kernel
theorem dX7_canon_164 : decode cX7_canon 164 = .ok (.iload 4, 2) := by decide +kernel
theorem dX7_canon_166 : decode cX7_canon 166 = .ok (.aload_n 0, 1) := by decide +kernel
theorem dX7_canon_167 : decode cX7_canon 167 = .ok (.getfield 154, 3) := by decide +kernel
theorem dX7_canon_170 : decode cX7_canon 170 = .ok (.if_icmp .ge 23, 3) := by decide +kernel
theorem dX7_canon_173 : decode cX7_canon 173 = .ok (.aload_n 0, 1) := by decide +kernel
theorem dX7_canon_174 : decode cX7_canon 174 = .ok (.getfield 16, 3) := by decide +kernel
theorem dX7_canon_177 : decode cX7_canon 177 = .ok (.iload 4, 2) := by decide +kernel
theorem dX7_canon_179 : decode cX7_canon 179 = .ok (.aload_n 0, 1) := by decide +kernel
theorem dX7_canon_180 : decode cX7_canon 180 = .ok (.getfield 76, 3) := by decide +kernel
theorem dX7_canon_183 : decode cX7_canon 183 = .ok (.iload 4, 2) := by decide +kernel
theorem dX7_canon_185 : decode cX7_canon 185 = .ok (.laload, 1) := by decide +kernel
theorem dX7_canon_186 : decode cX7_canon 186 = .ok (.lastore, 1) := by decide +kernel
theorem dX7_canon_187 : decode cX7_canon 187 = .ok (.iinc 4 1, 3) := by decide +kernel
theorem dX7_canon_190 : decode cX7_canon 190 = .ok (.goto (-26), 3) := by decide +kernel
theorem dX7_canon_193 : decode cX7_canon 193 = .ok (.aload_n 0, 1) := by decide +kernel
theorem dX7_canon_194 : decode cX7_canon 194 = .ok (.invokevirtual 319, 3) := by decide +kernel
theorem dX7_canon_197 : decode cX7_canon 197 = .ok (.iconst 1, 1) := by decide +kernel
theorem dX7_canon_198 : decode cX7_canon 198 = .ok (.ireturn, 1) := by decide +kernel
theorem dX7_next_0 : decode cX7_next 0 = .ok (.iload_n 3, 1) := by decide +kernel
theorem dX7_next_1 : decode cX7_next 1 = .ok (.iconst 1, 1) := by decide +kernel
theorem dX7_next_2 : decode cX7_next 2 = .ok (.isub, 1) := by decide +kernel
theorem dX7_next_3 : decode cX7_next 3 = .ok (.istore 4, 2) := by decide +kernel
theorem dX7_next_5 : decode cX7_next 5 = .ok (.iload 4, 2) := by decide +kernel
theorem dX7_next_7 : decode cX7_next 7 = .ok (.ifCond .lt 24, 3) := by decide +kernel
theorem dX7_next_10 : decode cX7_next 10 = .ok (.lload_n 1, 1) := by decide +kernel
theorem dX7_next_11 : decode cX7_next 11 = .ok (.iload 4, 2) := by decide +kernel
theorem dX7_next_13 : decode cX7_next 13 = .ok (.invokestatic 169, 3) := by decide +kernel
theorem dX7_next_16 : decode cX7_next 16 = .ok (.aload_n 0, 1) := by decide +kernel
theorem dX7_next_17 : decode cX7_next 17 = .ok (.getfield 137, 3) := by decide +kernel
theorem dX7_next_20 : decode cX7_next 20 = .ok (.iconst 1, 1) := by decide +kernel
theorem dX7_next_21 : decode cX7_next 21 = .ok (.isub, 1) := by decide +kernel
theorem dX7_next_22 : decode cX7_next 22 = .ok (.if_icmp .ne 9, 3) := by decide +kernel
theorem dX7_next_25 : decode cX7_next 25 = .ok (.iinc 4 (-1), 3) := by decide +kernel
theorem dX7_next_28 : decode cX7_next 28 = .ok (.goto (-23), 3) := by decide +kernel
theorem dX7_next_31 : decode cX7_next 31 = .ok (.iload 4, 2) := by decide +kernel
theorem dX7_next_33 : decode cX7_next 33 = .ok (.ifCond .ge 9, 3) := by decide +kernel
theorem dX7_next_36 : decode cX7_next 36 = .ok (.ldc2_w 293, 3) := by decide +kernel
theorem dX7_next_39 : decode cX7_next 39 = .ok (.goto 22, 3) := by decide +kernel
theorem dX7_next_42 : decode cX7_next 42 = .ok (.lload_n 1, 1) := by decide +kernel
theorem dX7_next_43 : decode cX7_next 43 = .ok (.iload 4, 2) := by decide +kernel
theorem dX7_next_45 : decode cX7_next 45 = .ok (.invokestatic 349, 3) := by decide +kernel
theorem dX7_next_48 : decode cX7_next 48 = .ok (.iload 4, 2) := by decide +kernel
theorem dX7_next_50 : decode cX7_next 50 = .ok (.lload_n 1, 1) := by decide +kernel
theorem dX7_next_51 : decode cX7_next 51 = .ok (.iload 4, 2) := by decide +kernel
theorem dX7_next_53 : decode cX7_next 53 = .ok (.invokestatic 169, 3) := by decide +kernel
theorem dX7_next_56 : decode cX7_next 56 = .ok (.iconst 1, 1) := by decide +kernel
theorem dX7_next_57 : decode cX7_next 57 = .ok (.iadd, 1) := by decide +kernel
theorem dX7_next_58 : decode cX7_next 58 = .ok (.invokestatic 262, 3) := by decide +kernel
theorem dX7_next_61 : decode cX7_next 61 = .ok (.lreturn, 1) := by decide +kernel
theorem dX7_writeWord_0 : decode cX7_writeWord 0 = .ok (.iconst 0, 1) := by decide +kernel
theorem dX7_writeWord_1 : decode cX7_writeWord 1 = .ok (.istore_n 2, 1) := by decide +kernel
theorem dX7_writeWord_2 : decode cX7_writeWord 2 = .ok (.iload_n 2, 1) := by decide +kernel
theorem dX7_writeWord_3 : decode cX7_writeWord 3 = .ok (.aload_n 0, 1) := by decide +kernel
theorem dX7_writeWord_4 : decode cX7_writeWord 4 = .ok (.getfield 20, 3) := by decide +kernel
theorem dX7_writeWord_7 : decode cX7_writeWord 7 = .ok (.iload_n 1, 1) := by decide +kernel
theorem dX7_writeWord_8 : decode cX7_writeWord 8 = .ok (.iaload, 1) := by decide +kernel
theorem dX7_writeWord_9 : decode cX7_writeWord 9 = .ok (.if_icmp .ge 38, 3) := by decide +kernel
theorem dX7_writeWord_12 : decode cX7_writeWord 12 = .ok (.aload_n 0, 1) := by decide +kernel
theorem dX7_writeWord_13 : decode cX7_writeWord 13 = .ok (.getfield 101, 3) := by decide +kernel
theorem dX7_writeWord_16 : decode cX7_writeWord 16 = .ok (.aload_n 0, 1) := by decide +kernel
theorem dX7_writeWord_17 : decode cX7_writeWord 17 = .ok (.getfield 144, 3) := by decide +kernel
theorem dX7_writeWord_20 : decode cX7_writeWord 20 = .ok (.aload_n 0, 1) := by decide +kernel
theorem dX7_writeWord_21 : decode cX7_writeWord 21 = .ok (.getfield 16, 3) := by decide +kernel
theorem dX7_writeWord_24 : decode cX7_writeWord 24 = .ok (.iload_n 1, 1) := by decide +kernel
theorem dX7_writeWord_25 : decode cX7_writeWord 25 = .ok (.laload, 1) := by decide +kernel
theorem dX7_writeWord_26 : decode cX7_writeWord 26 = .ok (.iload_n 2, 1) := by decide +kernel
theorem dX7_writeWord_27 : decode cX7_writeWord 27 = .ok (.invokestatic 169, 3) := by decide +kernel
theorem dX7_writeWord_30 : decode cX7_writeWord 30 = .ok (.iastore, 1) := by decide +kernel
theorem dX7_writeWord_31 : decode cX7_writeWord 31 = .ok (.aload_n 0, 1) := by decide +kernel
theorem dX7_writeWord_32 : decode cX7_writeWord 32 = .ok (.dup, 1) := by decide +kernel
theorem dX7_writeWord_33 : decode cX7_writeWord 33 = .ok (.getfield 144, 3) := by decide +kernel
theorem dX7_writeWord_36 : decode cX7_writeWord 36 = .ok (.iconst 1, 1) := by decide +kernel
theorem dX7_writeWord_37 : decode cX7_writeWord 37 = .ok (.iadd, 1) := by decide +kernel
theorem dX7_writeWord_38 : decode cX7_writeWord 38 = .ok (.putfield 144, 3) := by decide +kernel
theorem dX7_writeWord_41 : decode cX7_writeWord 41 = .ok (.iinc 2 1, 3) := by decide +kernel
theorem dX7_writeWord_44 : decode cX7_writeWord 44 = .ok (.goto (-42), 3) := by decide +kernel
theorem dX7_writeWord_47 : decode cX7_writeWord 47 = .ok (.return_, 1) := by decide +kernel
theorem dX7_write_0 : decode cX7_write 0 = .ok (.aload_n 0, 1) := by decide +kernel
theorem dX7_write_1 : decode cX7_write 1 = .ok (.iload_n 1, 1) := by decide +kernel
theorem dX7_write_2 : decode cX7_write 2 = .ok (.invokevirtual 157, 3) := by decide +kernel
theorem dX7_write_5 : decode cX7_write 5 = .ok (.ifCond .ne 5, 3) := by decide +kernel
theorem dX7_write_8 : decode cX7_write 8 = .ok (.iconst (-1), 1) := by decide +kernel
theorem dX7_write_9 : decode cX7_write 9 = .ok (.ireturn, 1) := by decide +kernel
theorem dX7_write_10 : decode cX7_write 10 = .ok (.aload_n 0, 1) := by decide +kernel
theorem dX7_write_11 : decode cX7_write 11 = .ok (.getfield 140, 3) := by decide +kernel
theorem dX7_write_14 : decode cX7_write 14 = .ok (.ifCond .ne 6, 3) := by decide +kernel
theorem dX7_write_17 : decode cX7_write 17 = .ok (.bipush (-3), 2) := by decide +kernel
theorem dX7_write_19 : decode cX7_write 19 = .ok (.ireturn, 1) := by decide +kernel
theorem dX7_write_20 : decode cX7_write 20 = .ok (.aload_n 0, 1) := by decide +kernel
theorem dX7_write_21 : decode cX7_write 21 = .ok (.getfield 144, 3) := by decide +kernel
theorem dX7_write_24 : decode cX7_write 24 = .ok (.aload_n 0, 1) := by decide +kernel
theorem dX7_write_25 : decode cX7_write 25 = .ok (.getfield 20, 3) := by decide +kernel
theorem dX7_write_28 : decode cX7_write 28 = .ok (.iload_n 1, 1) := by decide +kernel
theorem dX7_write_29 : decode cX7_write 29 = .ok (.iaload, 1) := by decide +kernel
theorem dX7_write_30 : decode cX7_write 30 = .ok (.iadd, 1) := by decide +kernel
theorem dX7_write_31 : decode cX7_write 31 = .ok (.sipush 200, 3) := by decide +kernel
theorem dX7_write_34 : decode cX7_write 34 = .ok (.if_icmp .le 6, 3) := by decide +kernel
theorem dX7_write_37 : decode cX7_write 37 = .ok (.bipush (-4), 2) := by decide +kernel
theorem dX7_write_39 : decode cX7_write 39 = .ok (.ireturn, 1) := by decide +kernel
theorem dX7_write_40 : decode cX7_write 40 = .ok (.aload_n 0, 1) := by decide +kernel
theorem dX7_write_41 : decode cX7_write 41 = .ok (.iload_n 1, 1) := by decide +kernel
theorem dX7_write_42 : decode cX7_write 42 = .ok (.invokevirtual 368, 3) := by decide +kernel
theorem dX7_write_45 : decode cX7_write 45 = .ok (.aload_n 0, 1) := by decide +kernel
theorem dX7_write_46 : decode cX7_write 46 = .ok (.getfield 144, 3) := by decide +kernel
theorem dX7_write_49 : decode cX7_write 49 = .ok (.ireturn, 1) := by decide +kernel
theorem dX7_put_0 : decode cX7_put 0 = .ok (.aload_n 0, 1) := by decide +kernel
theorem dX7_put_1 : decode cX7_put 1 = .ok (.iload_n 1, 1) := by decide +kernel
theorem dX7_put_2 : decode cX7_put 2 = .ok (.invokevirtual 299, 3) := by decide +kernel
theorem dX7_put_5 : decode cX7_put 5 = .ok (.ifCond .ne 5, 3) := by decide +kernel
theorem dX7_put_8 : decode cX7_put 8 = .ok (.iconst (-1), 1) := by decide +kernel
theorem dX7_put_9 : decode cX7_put 9 = .ok (.ireturn, 1) := by decide +kernel
theorem dX7_put_10 : decode cX7_put 10 = .ok (.aload_n 0, 1) := by decide +kernel
theorem dX7_put_11 : decode cX7_put 11 = .ok (.getfield 144, 3) := by decide +kernel
theorem dX7_put_14 : decode cX7_put 14 = .ok (.sipush 200, 3) := by decide +kernel
theorem dX7_put_17 : decode cX7_put 17 = .ok (.if_icmp .ne 6, 3) := by decide +kernel
theorem dX7_put_20 : decode cX7_put 20 = .ok (.bipush (-4), 2) := by decide +kernel
theorem dX7_put_22 : decode cX7_put 22 = .ok (.ireturn, 1) := by decide +kernel
theorem dX7_put_23 : decode cX7_put 23 = .ok (.aload_n 0, 1) := by decide +kernel
theorem dX7_put_24 : decode cX7_put 24 = .ok (.getfield 101, 3) := by decide +kernel
theorem dX7_put_27 : decode cX7_put 27 = .ok (.aload_n 0, 1) := by decide +kernel
theorem dX7_put_28 : decode cX7_put 28 = .ok (.getfield 144, 3) := by decide +kernel
theorem dX7_put_31 : decode cX7_put 31 = .ok (.iload_n 1, 1) := by decide +kernel
theorem dX7_put_32 : decode cX7_put 32 = .ok (.iastore, 1) := by decide +kernel
theorem dX7_put_33 : decode cX7_put 33 = .ok (.aload_n 0, 1) := by decide +kernel
theorem dX7_put_34 : decode cX7_put 34 = .ok (.dup, 1) := by decide +kernel
theorem dX7_put_35 : decode cX7_put 35 = .ok (.getfield 144, 3) := by decide +kernel
theorem dX7_put_38 : decode cX7_put 38 = .ok (.iconst 1, 1) := by decide +kernel
theorem dX7_put_39 : decode cX7_put 39 = .ok (.iadd, 1) := by decide +kernel
theorem dX7_put_40 : decode cX7_put 40 = .ok (.putfield 144, 3) := by decide +kernel
theorem dX7_put_43 : decode cX7_put 43 = .ok (.aload_n 0, 1) := by decide +kernel
theorem dX7_put_44 : decode cX7_put 44 = .ok (.getfield 144, 3) := by decide +kernel
theorem dX7_put_47 : decode cX7_put 47 = .ok (.ireturn, 1) := by decide +kernel
theorem dX7_wipe_0 : decode cX7_wipe 0 = .ok (.aload_n 0, 1) := by decide +kernel
theorem dX7_wipe_1 : decode cX7_wipe 1 = .ok (.getfield 144, 3) := by decide +kernel
theorem dX7_wipe_4 : decode cX7_wipe 4 = .ok (.istore_n 1, 1) := by decide +kernel
theorem dX7_wipe_5 : decode cX7_wipe 5 = .ok (.aload_n 0, 1) := by decide +kernel
theorem dX7_wipe_6 : decode cX7_wipe 6 = .ok (.iconst 0, 1) := by decide +kernel
theorem dX7_wipe_7 : decode cX7_wipe 7 = .ok (.putfield 144, 3) := by decide +kernel
theorem dX7_wipe_10 : decode cX7_wipe 10 = .ok (.iload_n 1, 1) := by decide +kernel
theorem dX7_wipe_11 : decode cX7_wipe 11 = .ok (.ireturn, 1) := by decide +kernel
theorem dX7_line_0 : decode cX7_line 0 = .ok (.iload_n 1, 1) := by decide +kernel
theorem dX7_line_1 : decode cX7_line 1 = .ok (.i2l, 1) := by decide +kernel
theorem dX7_line_2 : decode cX7_line 2 = .ok (.lconst 0, 1) := by decide +kernel
theorem dX7_line_3 : decode cX7_line 3 = .ok (.aload_n 0, 1) := by decide +kernel
theorem dX7_line_4 : decode cX7_line 4 = .ok (.getfield 144, 3) := by decide +kernel
theorem dX7_line_7 : decode cX7_line 7 = .ok (.iconst 1, 1) := by decide +kernel
theorem dX7_line_8 : decode cX7_line 8 = .ok (.isub, 1) := by decide +kernel
theorem dX7_line_9 : decode cX7_line 9 = .ok (.i2l, 1) := by decide +kernel
theorem dX7_line_10 : decode cX7_line 10 = .ok (.invokestatic 133, 3) := by decide +kernel
theorem dX7_line_13 : decode cX7_line 13 = .ok (.ifCond .eq 12, 3) := by decide +kernel
theorem dX7_line_16 : decode cX7_line 16 = .ok (.aload_n 0, 1) := by decide +kernel
theorem dX7_line_17 : decode cX7_line 17 = .ok (.getfield 101, 3) := by decide +kernel
theorem dX7_line_20 : decode cX7_line 20 = .ok (.iload_n 1, 1) := by decide +kernel
theorem dX7_line_21 : decode cX7_line 21 = .ok (.iaload, 1) := by decide +kernel
theorem dX7_line_22 : decode cX7_line 22 = .ok (.goto 5, 3) := by decide +kernel
theorem dX7_line_25 : decode cX7_line 25 = .ok (.bipush (-6), 2) := by decide +kernel
theorem dX7_line_27 : decode cX7_line 27 = .ok (.ireturn, 1) := by decide +kernel
theorem dX7_wordAt_0 : decode cX7_wordAt 0 = .ok (.lconst 0, 1) := by decide +kernel
theorem dX7_wordAt_1 : decode cX7_wordAt 1 = .ok (.lstore_n 2, 1) := by decide +kernel
theorem dX7_wordAt_2 : decode cX7_wordAt 2 = .ok (.iconst 0, 1) := by decide +kernel
theorem dX7_wordAt_3 : decode cX7_wordAt 3 = .ok (.istore 4, 2) := by decide +kernel
theorem dX7_wordAt_5 : decode cX7_wordAt 5 = .ok (.iload_n 1, 1) := by decide +kernel
theorem dX7_wordAt_6 : decode cX7_wordAt 6 = .ok (.istore 5, 2) := by decide +kernel
theorem dX7_wordAt_8 : decode cX7_wordAt 8 = .ok (.iload 5, 2) := by decide +kernel
theorem dX7_wordAt_10 : decode cX7_wordAt 10 = .ok (.aload_n 0, 1) := by decide +kernel
theorem dX7_wordAt_11 : decode cX7_wordAt 11 = .ok (.getfield 144, 3) := by decide +kernel
theorem dX7_wordAt_14 : decode cX7_wordAt 14 = .ok (.if_icmp .ne 9, 3) := by decide +kernel
theorem dX7_wordAt_17 : decode cX7_wordAt 17 = .ok (.iload 5, 2) := by decide +kernel
theorem dX7_wordAt_19 : decode cX7_wordAt 19 = .ok (.ineg, 1) := by decide +kernel
theorem dX7_wordAt_20 : decode cX7_wordAt 20 = .ok (.iconst 1, 1) := by decide +kernel
theorem dX7_wordAt_21 : decode cX7_wordAt 21 = .ok (.isub, 1) := by decide +kernel
theorem dX7_wordAt_22 : decode cX7_wordAt 22 = .ok (.ireturn, 1) := by decide +kernel
theorem dX7_wordAt_23 : decode cX7_wordAt 23 = .ok (.iload 4, 2) := by decide +kernel
theorem dX7_wordAt_25 : decode cX7_wordAt 25 = .ok (.bipush 24, 2) := by decide +kernel
theorem dX7_wordAt_27 : decode cX7_wordAt 27 = .ok (.if_icmp .ne 7, 3) := by decide +kernel
theorem dX7_wordAt_30 : decode cX7_wordAt 30 = .ok (.lload_n 2, 1) := by decide +kernel
theorem dX7_wordAt_31 : decode cX7_wordAt 31 = .ok (.goto 16, 3) := by decide +kernel
theorem dX7_wordAt_34 : decode cX7_wordAt 34 = .ok (.lload_n 2, 1) := by decide +kernel
theorem dX7_wordAt_35 : decode cX7_wordAt 35 = .ok (.iload 4, 2) := by decide +kernel
theorem dX7_wordAt_37 : decode cX7_wordAt 37 = .ok (.aload_n 0, 1) := by decide +kernel
theorem dX7_wordAt_38 : decode cX7_wordAt 38 = .ok (.getfield 101, 3) := by decide +kernel
theorem dX7_wordAt_41 : decode cX7_wordAt 41 = .ok (.iload 5, 2) := by decide +kernel
theorem dX7_wordAt_43 : decode cX7_wordAt 43 = .ok (.iaload, 1) := by decide +kernel
theorem dX7_wordAt_44 : decode cX7_wordAt 44 = .ok (.invokestatic 262, 3) := by decide +kernel
theorem dX7_wordAt_47 : decode cX7_wordAt 47 = .ok (.lstore_n 2, 1) := by decide +kernel
theorem dX7_wordAt_48 : decode cX7_wordAt 48 = .ok (.iinc 4 1, 3) := by decide +kernel
theorem dX7_wordAt_51 : decode cX7_wordAt 51 = .ok (.iconst 0, 1) := by decide +kernel
theorem dX7_wordAt_52 : decode cX7_wordAt 52 = .ok (.istore 6, 2) := by decide +kernel
theorem dX7_wordAt_54 : decode cX7_wordAt 54 = .ok (.iconst 0, 1) := by decide +kernel
theorem dX7_wordAt_55 : decode cX7_wordAt 55 = .ok (.istore 7, 2) := by decide +kernel
theorem dX7_wordAt_57 : decode cX7_wordAt 57 = .ok (.iload 7, 2) := by decide +kernel
theorem dX7_wordAt_59 : decode cX7_wordAt 59 = .ok (.aload_n 0, 1) := by decide +kernel
theorem dX7_wordAt_60 : decode cX7_wordAt 60 = .ok (.getfield 154, 3) := by decide +kernel
theorem dX7_wordAt_63 : decode cX7_wordAt 63 = .ok (.if_icmp .ge 78, 3) := by decide +kernel
theorem dX7_wordAt_66 : decode cX7_wordAt 66 = .ok (.aload_n 0, 1) := by decide +kernel
theorem dX7_wordAt_67 : decode cX7_wordAt 67 = .ok (.getfield 20, 3) := by decide +kernel
theorem dX7_wordAt_70 : decode cX7_wordAt 70 = .ok (.iload 7, 2) := by decide +kernel
theorem dX7_wordAt_72 : decode cX7_wordAt 72 = .ok (.iaload, 1) := by decide +kernel
theorem dX7_wordAt_73 : decode cX7_wordAt 73 = .ok (.iload 4, 2) := by decide +kernel
theorem dX7_wordAt_75 : decode cX7_wordAt 75 = .ok (.if_icmp .ne 18, 3) := by decide +kernel
theorem dX7_wordAt_78 : decode cX7_wordAt 78 = .ok (.aload_n 0, 1) := by decide +kernel
theorem dX7_wordAt_79 : decode cX7_wordAt 79 = .ok (.getfield 16, 3) := by decide +kernel
theorem dX7_wordAt_82 : decode cX7_wordAt 82 = .ok (.iload 7, 2) := by decide +kernel
theorem dX7_wordAt_84 : decode cX7_wordAt 84 = .ok (.laload, 1) := by decide +kernel
theorem dX7_wordAt_85 : decode cX7_wordAt 85 = .ok (.lload_n 2, 1) := by decide +kernel
theorem dX7_wordAt_86 : decode cX7_wordAt 86 = .ok (.lcmp, 1) := by decide +kernel
theorem dX7_wordAt_87 : decode cX7_wordAt 87 = .ok (.ifCond .ne 6, 3) := by decide +kernel
theorem dX7_wordAt_90 : decode cX7_wordAt 90 = .ok (.iload 7, 2) := by decide +kernel
theorem dX7_wordAt_92 : decode cX7_wordAt 92 = .ok (.ireturn, 1) := by decide +kernel
theorem dX7_wordAt_93 : decode cX7_wordAt 93 = .ok (.iload 6, 2) := by decide +kernel
theorem dX7_wordAt_95 : decode cX7_wordAt 95 = .ok (.ifCond .ne 33, 3) := by decide +kernel
theorem dX7_wordAt_98 : decode cX7_wordAt 98 = .ok (.iload 4, 2) := by decide +kernel
theorem dX7_wordAt_100 : decode cX7_wordAt 100 = .ok (.bipush 24, 2) := by decide +kernel
theorem dX7_wordAt_102 : decode cX7_wordAt 102 = .ok (.if_icmp .gt 30, 3) := by decide +kernel
theorem dX7_wordAt_105 : decode cX7_wordAt 105 = .ok (.lload_n 2, 1) := by decide +kernel
theorem dX7_wordAt_106 : decode cX7_wordAt 106 = .ok (.iload 4, 2) := by decide +kernel
theorem dX7_wordAt_108 : decode cX7_wordAt 108 = .ok (.aload_n 0, 1) := by decide +kernel
theorem dX7_wordAt_109 : decode cX7_wordAt 109 = .ok (.getfield 16, 3) := by decide +kernel
theorem dX7_wordAt_112 : decode cX7_wordAt 112 = .ok (.iload 7, 2) := by decide +kernel
theorem dX7_wordAt_114 : decode cX7_wordAt 114 = .ok (.laload, 1) := by decide +kernel
theorem dX7_wordAt_115 : decode cX7_wordAt 115 = .ok (.aload_n 0, 1) := by decide +kernel
theorem dX7_wordAt_116 : decode cX7_wordAt 116 = .ok (.getfield 20, 3) := by decide +kernel
theorem dX7_wordAt_119 : decode cX7_wordAt 119 = .ok (.iload 7, 2) := by decide +kernel
theorem dX7_wordAt_121 : decode cX7_wordAt 121 = .ok (.iaload, 1) := by decide +kernel
theorem dX7_wordAt_122 : decode cX7_wordAt 122 = .ok (.invokestatic 326, 3) := by decide +kernel
theorem dX7_wordAt_125 : decode cX7_wordAt 125 = .ok (.ifCond .eq 7, 3) := by decide +kernel
theorem dX7_wordAt_128 : decode cX7_wordAt 128 = .ok (.iconst 1, 1) := by decide +kernel
theorem dX7_wordAt_129 : decode cX7_wordAt 129 = .ok (.goto 4, 3) := by decide +kernel
theorem dX7_wordAt_132 : decode cX7_wordAt 132 = .ok (.iconst 0, 1) := by decide +kernel
theorem dX7_wordAt_133 : decode cX7_wordAt 133 = .ok (.istore 6, 2) := by decide +kernel
theorem dX7_wordAt_135 : decode cX7_wordAt 135 = .ok (.iinc 7 1, 3) := by decide +kernel
theorem dX7_wordAt_138 : decode cX7_wordAt 138 = .ok (.goto (-81), 3) := by decide +kernel
theorem dX7_wordAt_141 : decode cX7_wordAt 141 = .ok (.iload 6, 2) := by decide +kernel
theorem dX7_wordAt_143 : decode cX7_wordAt 143 = .ok (.ifCond .ne 9, 3) := by decide +kernel
theorem dX7_wordAt_146 : decode cX7_wordAt 146 = .ok (.iload 5, 2) := by decide +kernel
theorem dX7_wordAt_148 : decode cX7_wordAt 148 = .ok (.ineg, 1) := by decide +kernel
theorem dX7_wordAt_149 : decode cX7_wordAt 149 = .ok (.iconst 1, 1) := by decide +kernel
theorem dX7_wordAt_150 : decode cX7_wordAt 150 = .ok (.isub, 1) := by decide +kernel
theorem dX7_wordAt_151 : decode cX7_wordAt 151 = .ok (.ireturn, 1) := by decide +kernel
theorem dX7_wordAt_152 : decode cX7_wordAt 152 = .ok (.iinc 5 1, 3) := by decide +kernel
theorem dX7_wordAt_155 : decode cX7_wordAt 155 = .ok (.goto (-147), 3) := by decide +kernel
theorem dX7_read_0 : decode cX7_read 0 = .ok (.aload_n 0, 1) := by decide +kernel
theorem dX7_read_1 : decode cX7_read 1 = .ok (.getfield 140, 3) := by decide +kernel
theorem dX7_read_4 : decode cX7_read 4 = .ok (.ifCond .ne 6, 3) := by decide +kernel
theorem dX7_read_7 : decode cX7_read 7 = .ok (.bipush (-3), 2) := by decide +kernel
theorem dX7_read_9 : decode cX7_read 9 = .ok (.ireturn, 1) := by decide +kernel
theorem dX7_read_10 : decode cX7_read 10 = .ok (.aload_n 0, 1) := by decide +kernel
theorem dX7_read_11 : decode cX7_read 11 = .ok (.invokevirtual 359, 3) := by decide +kernel
theorem dX7_read_14 : decode cX7_read 14 = .ok (.ifCond .ne 6, 3) := by decide +kernel
theorem dX7_read_17 : decode cX7_read 17 = .ok (.bipush (-5), 2) := by decide +kernel
theorem dX7_read_19 : decode cX7_read 19 = .ok (.ireturn, 1) := by decide +kernel
theorem dX7_read_20 : decode cX7_read 20 = .ok (.aload_n 0, 1) := by decide +kernel
theorem dX7_read_21 : decode cX7_read 21 = .ok (.iconst 0, 1) := by decide +kernel
theorem dX7_read_22 : decode cX7_read 22 = .ok (.putfield 371, 3) := by decide +kernel
theorem dX7_read_25 : decode cX7_read 25 = .ok (.iconst 0, 1) := by decide +kernel
theorem dX7_read_26 : decode cX7_read 26 = .ok (.istore_n 1, 1) := by decide +kernel
theorem dX7_read_27 : decode cX7_read 27 = .ok (.iload_n 1, 1) := by decide +kernel
theorem dX7_read_28 : decode cX7_read 28 = .ok (.aload_n 0, 1) := by decide +kernel
theorem dX7_read_29 : decode cX7_read 29 = .ok (.getfield 144, 3) := by decide +kernel
theorem dX7_read_32 : decode cX7_read 32 = .ok (.if_icmp .ge 53, 3) := by decide +kernel
theorem dX7_read_35 : decode cX7_read 35 = .ok (.aload_n 0, 1) := by decide +kernel
theorem dX7_read_36 : decode cX7_read 36 = .ok (.iload_n 1, 1) := by decide +kernel
theorem dX7_read_37 : decode cX7_read 37 = .ok (.invokevirtual 374, 3) := by decide +kernel
theorem dX7_read_40 : decode cX7_read 40 = .ok (.istore_n 2, 1) := by decide +kernel
theorem dX7_read_41 : decode cX7_read 41 = .ok (.iload_n 2, 1) := by decide +kernel
theorem dX7_read_42 : decode cX7_read 42 = .ok (.ifCond .ge 11, 3) := by decide +kernel
theorem dX7_read_45 : decode cX7_read 45 = .ok (.bipush (-100), 2) := by decide +kernel
theorem dX7_read_47 : decode cX7_read 47 = .ok (.iload_n 2, 1) := by decide +kernel
theorem dX7_read_48 : decode cX7_read 48 = .ok (.ineg, 1) := by decide +kernel
theorem dX7_read_49 : decode cX7_read 49 = .ok (.iconst 1, 1) := by decide +kernel
theorem dX7_read_50 : decode cX7_read 50 = .ok (.isub, 1) := by decide +kernel
theorem dX7_read_51 : decode cX7_read 51 = .ok (.isub, 1) := by decide +kernel
theorem dX7_read_52 : decode cX7_read 52 = .ok (.ireturn, 1) := by decide +kernel
theorem dX7_read_53 : decode cX7_read 53 = .ok (.aload_n 0, 1) := by decide +kernel
theorem dX7_read_54 : decode cX7_read 54 = .ok (.getfield 104, 3) := by decide +kernel
theorem dX7_read_57 : decode cX7_read 57 = .ok (.aload_n 0, 1) := by decide +kernel
theorem dX7_read_58 : decode cX7_read 58 = .ok (.getfield 371, 3) := by decide +kernel
theorem dX7_read_61 : decode cX7_read 61 = .ok (.iload_n 2, 1) := by decide +kernel
theorem dX7_read_62 : decode cX7_read 62 = .ok (.iastore, 1) := by decide +kernel
theorem dX7_read_63 : decode cX7_read 63 = .ok (.aload_n 0, 1) := by decide +kernel
theorem dX7_read_64 : decode cX7_read 64 = .ok (.dup, 1) := by decide +kernel
theorem dX7_read_65 : decode cX7_read 65 = .ok (.getfield 371, 3) := by decide +kernel
theorem dX7_read_68 : decode cX7_read 68 = .ok (.iconst 1, 1) := by decide +kernel
theorem dX7_read_69 : decode cX7_read 69 = .ok (.iadd, 1) := by decide +kernel
theorem dX7_read_70 : decode cX7_read 70 = .ok (.putfield 371, 3) := by decide +kernel
theorem dX7_read_73 : decode cX7_read 73 = .ok (.iload_n 1, 1) := by decide +kernel
theorem dX7_read_74 : decode cX7_read 74 = .ok (.aload_n 0, 1) := by decide +kernel
theorem dX7_read_75 : decode cX7_read 75 = .ok (.getfield 20, 3) := by decide +kernel
theorem dX7_read_78 : decode cX7_read 78 = .ok (.iload_n 2, 1) := by decide +kernel
theorem dX7_read_79 : decode cX7_read 79 = .ok (.iaload, 1) := by decide +kernel
theorem dX7_read_80 : decode cX7_read 80 = .ok (.iadd, 1) := by decide +kernel
theorem dX7_read_81 : decode cX7_read 81 = .ok (.istore_n 1, 1) := by decide +kernel
theorem dX7_read_82 : decode cX7_read 82 = .ok (.goto (-55), 3) := by decide +kernel
theorem dX7_read_85 : decode cX7_read 85 = .ok (.aload_n 0, 1) := by decide +kernel
theorem dX7_read_86 : decode cX7_read 86 = .ok (.getfield 371, 3) := by decide +kernel
theorem dX7_read_89 : decode cX7_read 89 = .ok (.ireturn, 1) := by decide +kernel
theorem dX7_item_0 : decode cX7_item 0 = .ok (.iload_n 1, 1) := by decide +kernel
theorem dX7_item_1 : decode cX7_item 1 = .ok (.i2l, 1) := by decide +kernel
theorem dX7_item_2 : decode cX7_item 2 = .ok (.lconst 0, 1) := by decide +kernel
theorem dX7_item_3 : decode cX7_item 3 = .ok (.aload_n 0, 1) := by decide +kernel
theorem dX7_item_4 : decode cX7_item 4 = .ok (.getfield 371, 3) := by decide +kernel
theorem dX7_item_7 : decode cX7_item 7 = .ok (.iconst 1, 1) := by decide +kernel
theorem dX7_item_8 : decode cX7_item 8 = .ok (.isub, 1) := by decide +kernel
theorem dX7_item_9 : decode cX7_item 9 = .ok (.i2l, 1) := by decide +kernel
theorem dX7_item_10 : decode cX7_item 10 = .ok (.invokestatic 133, 3) := by decide +kernel
theorem dX7_item_13 : decode cX7_item 13 = .ok (.ifCond .eq 12, 3) := by decide +kernel
theorem dX7_item_16 : decode cX7_item 16 = .ok (.aload_n 0, 1) := by decide +kernel
theorem dX7_item_17 : decode cX7_item 17 = .ok (.getfield 104, 3) := by decide +kernel
theorem dX7_item_20 : decode cX7_item 20 = .ok (.iload_n 1, 1) := by decide +kernel
theorem dX7_item_21 : decode cX7_item 21 = .ok (.iaload, 1) := by decide +kernel
theorem dX7_item_22 : decode cX7_item 22 = .ok (.goto 5, 3) := by decide +kernel
theorem dX7_item_25 : decode cX7_item 25 = .ok (.bipush (-6), 2) := by decide +kernel
theorem dX7_item_27 : decode cX7_item 27 = .ok (.ireturn, 1) := by decide +kernel
theorem dX7_grow_0 : decode cX7_grow 0 = .ok (.aload_n 0, 1) := by decide +kernel
theorem dX7_grow_1 : decode cX7_grow 1 = .ok (.invokevirtual 304, 3) := by decide +kernel
theorem dX7_grow_4 : decode cX7_grow 4 = .ok (.ifCond .ne 6, 3) := by decide +kernel
theorem dX7_grow_7 : decode cX7_grow 7 = .ok (.bipush (-3), 2) := by decide +kernel
theorem dX7_grow_9 : decode cX7_grow 9 = .ok (.ireturn, 1) := by decide +kernel
theorem dX7_grow_10 : decode cX7_grow 10 = .ok (.iconst 0, 1) := by decide +kernel
theorem dX7_grow_11 : decode cX7_grow 11 = .ok (.istore_n 1, 1) := by decide +kernel
theorem dX7_grow_12 : decode cX7_grow 12 = .ok (.iload_n 1, 1) := by decide +kernel
theorem dX7_grow_13 : decode cX7_grow 13 = .ok (.aload_n 0, 1) := by decide +kernel
theorem dX7_grow_14 : decode cX7_grow 14 = .ok (.getfield 154, 3) := by decide +kernel
theorem dX7_grow_17 : decode cX7_grow 17 = .ok (.if_icmp .ge 16, 3) := by decide +kernel
theorem dX7_grow_20 : decode cX7_grow 20 = .ok (.aload_n 0, 1) := by decide +kernel
theorem dX7_grow_21 : decode cX7_grow 21 = .ok (.getfield 23, 3) := by decide +kernel
theorem dX7_grow_24 : decode cX7_grow 24 = .ok (.iload_n 1, 1) := by decide +kernel
theorem dX7_grow_25 : decode cX7_grow 25 = .ok (.iconst 1, 1) := by decide +kernel
theorem dX7_grow_26 : decode cX7_grow 26 = .ok (.iastore, 1) := by decide +kernel
theorem dX7_grow_27 : decode cX7_grow 27 = .ok (.iinc 1 1, 3) := by decide +kernel
theorem dX7_grow_30 : decode cX7_grow 30 = .ok (.goto (-18), 3) := by decide +kernel
theorem dX7_grow_33 : decode cX7_grow 33 = .ok (.aload_n 0, 1) := by decide +kernel
theorem dX7_grow_34 : decode cX7_grow 34 = .ok (.aload_n 0, 1) := by decide +kernel
theorem dX7_grow_35 : decode cX7_grow 35 = .ok (.getfield 23, 3) := by decide +kernel
theorem dX7_grow_38 : decode cX7_grow 38 = .ok (.bipush 24, 2) := by decide +kernel
theorem dX7_grow_40 : decode cX7_grow 40 = .ok (.invokevirtual 307, 3) := by decide +kernel
theorem dX7_grow_43 : decode cX7_grow 43 = .ok (.istore_n 1, 1) := by decide +kernel
theorem dX7_grow_44 : decode cX7_grow 44 = .ok (.aload_n 0, 1) := by decide +kernel
theorem dX7_grow_45 : decode cX7_grow 45 = .ok (.invokevirtual 319, 3) := by decide +kernel
theorem dX7_grow_48 : decode cX7_grow 48 = .ok (.aload_n 0, 1) := by decide +kernel
theorem dX7_grow_49 : decode cX7_grow 49 = .ok (.iload_n 1, 1) := by decide +kernel
theorem dX7_grow_50 : decode cX7_grow 50 = .ok (.putfield 166, 3) := by decide +kernel
theorem dX7_grow_53 : decode cX7_grow 53 = .ok (.aload_n 0, 1) := by decide +kernel
theorem dX7_grow_54 : decode cX7_grow 54 = .ok (.iconst 0, 1) := by decide +kernel
theorem dX7_grow_55 : decode cX7_grow 55 = .ok (.putfield 144, 3) := by decide +kernel
theorem dX7_grow_58 : decode cX7_grow 58 = .ok (.aload_n 0, 1) := by decide +kernel
theorem dX7_grow_59 : decode cX7_grow 59 = .ok (.getfield 154, 3) := by decide +kernel
theorem dX7_grow_62 : decode cX7_grow 62 = .ok (.ireturn, 1) := by decide +kernel
theorem dX7_send_0 : decode cX7_send 0 = .ok (.aload_n 0, 1) := by decide +kernel
theorem dX7_send_1 : decode cX7_send 1 = .ok (.iload_n 1, 1) := by decide +kernel
theorem dX7_send_2 : decode cX7_send 2 = .ok (.invokevirtual 157, 3) := by decide +kernel
theorem dX7_send_5 : decode cX7_send 5 = .ok (.ifCond .ne 5, 3) := by decide +kernel
theorem dX7_send_8 : decode cX7_send 8 = .ok (.iconst (-1), 1) := by decide +kernel
theorem dX7_send_9 : decode cX7_send 9 = .ok (.ireturn, 1) := by decide +kernel
theorem dX7_send_10 : decode cX7_send 10 = .ok (.aload_n 0, 1) := by decide +kernel
theorem dX7_send_11 : decode cX7_send 11 = .ok (.getfield 140, 3) := by decide +kernel
theorem dX7_send_14 : decode cX7_send 14 = .ok (.ifCond .eq 10, 3) := by decide +kernel
theorem dX7_send_17 : decode cX7_send 17 = .ok (.aload_n 0, 1) := by decide +kernel
theorem dX7_send_18 : decode cX7_send 18 = .ok (.getfield 166, 3) := by decide +kernel
theorem dX7_send_21 : decode cX7_send 21 = .ok (.ifCond .ne 6, 3) := by decide +kernel
theorem dX7_send_24 : decode cX7_send 24 = .ok (.bipush (-3), 2) := by decide +kernel
theorem dX7_send_26 : decode cX7_send 26 = .ok (.ireturn, 1) := by decide +kernel
theorem dX7_send_27 : decode cX7_send 27 = .ok (.aload_n 0, 1) := by decide +kernel
theorem dX7_send_28 : decode cX7_send 28 = .ok (.getfield 144, 3) := by decide +kernel
theorem dX7_send_31 : decode cX7_send 31 = .ok (.aload_n 0, 1) := by decide +kernel
theorem dX7_send_32 : decode cX7_send 32 = .ok (.getfield 20, 3) := by decide +kernel
theorem dX7_send_35 : decode cX7_send 35 = .ok (.iload_n 1, 1) := by decide +kernel
theorem dX7_send_36 : decode cX7_send 36 = .ok (.iaload, 1) := by decide +kernel
theorem dX7_send_37 : decode cX7_send 37 = .ok (.iadd, 1) := by decide +kernel
theorem dX7_send_38 : decode cX7_send 38 = .ok (.sipush 200, 3) := by decide +kernel
theorem dX7_send_41 : decode cX7_send 41 = .ok (.if_icmp .le 6, 3) := by decide +kernel
theorem dX7_send_44 : decode cX7_send 44 = .ok (.bipush (-4), 2) := by decide +kernel
theorem dX7_send_46 : decode cX7_send 46 = .ok (.ireturn, 1) := by decide +kernel
theorem dX7_send_47 : decode cX7_send 47 = .ok (.aload_n 0, 1) := by decide +kernel
theorem dX7_send_48 : decode cX7_send 48 = .ok (.iload_n 1, 1) := by decide +kernel
theorem dX7_send_49 : decode cX7_send 49 = .ok (.invokevirtual 368, 3) := by decide +kernel
theorem dX7_send_52 : decode cX7_send 52 = .ok (.aload_n 0, 1) := by decide +kernel
theorem dX7_send_53 : decode cX7_send 53 = .ok (.getfield 23, 3) := by decide +kernel
theorem dX7_send_56 : decode cX7_send 56 = .ok (.iload_n 1, 1) := by decide +kernel
theorem dX7_send_57 : decode cX7_send 57 = .ok (.dup2, 1) := by decide +kernel
theorem dX7_send_58 : decode cX7_send 58 = .ok (.iaload, 1) := by decide +kernel
theorem dX7_send_59 : decode cX7_send 59 = .ok (.iconst 1, 1) := by decide +kernel
theorem dX7_send_60 : decode cX7_send 60 = .ok (.iadd, 1) := by decide +kernel
theorem dX7_send_61 : decode cX7_send 61 = .ok (.iastore, 1) := by decide +kernel
theorem dX7_send_62 : decode cX7_send 62 = .ok (.aload_n 0, 1) := by decide +kernel
theorem dX7_send_63 : decode cX7_send 63 = .ok (.aload_n 0, 1) := by decide +kernel
theorem dX7_send_64 : decode cX7_send 64 = .ok (.aload_n 0, 1) := by decide +kernel
theorem dX7_send_65 : decode cX7_send 65 = .ok (.getfield 23, 3) := by decide +kernel
theorem dX7_send_68 : decode cX7_send 68 = .ok (.bipush 24, 2) := by decide +kernel
theorem dX7_send_70 : decode cX7_send 70 = .ok (.invokevirtual 307, 3) := by decide +kernel
theorem dX7_send_73 : decode cX7_send 73 = .ok (.putfield 166, 3) := by decide +kernel
theorem dX7_send_76 : decode cX7_send 76 = .ok (.aload_n 0, 1) := by decide +kernel
theorem dX7_send_77 : decode cX7_send 77 = .ok (.getfield 144, 3) := by decide +kernel
theorem dX7_send_80 : decode cX7_send 80 = .ok (.ireturn, 1) := by decide +kernel
theorem dX7_hear_0 : decode cX7_hear 0 = .ok (.aload_n 0, 1) := by decide +kernel
theorem dX7_hear_1 : decode cX7_hear 1 = .ok (.invokevirtual 304, 3) := by decide +kernel
theorem dX7_hear_4 : decode cX7_hear 4 = .ok (.ifCond .ne 6, 3) := by decide +kernel
theorem dX7_hear_7 : decode cX7_hear 7 = .ok (.bipush (-3), 2) := by decide +kernel
theorem dX7_hear_9 : decode cX7_hear 9 = .ok (.ireturn, 1) := by decide +kernel
theorem dX7_hear_10 : decode cX7_hear 10 = .ok (.iconst 0, 1) := by decide +kernel
theorem dX7_hear_11 : decode cX7_hear 11 = .ok (.istore_n 1, 1) := by decide +kernel
theorem dX7_hear_12 : decode cX7_hear 12 = .ok (.iload_n 1, 1) := by decide +kernel
theorem dX7_hear_13 : decode cX7_hear 13 = .ok (.aload_n 0, 1) := by decide +kernel
theorem dX7_hear_14 : decode cX7_hear 14 = .ok (.getfield 154, 3) := by decide +kernel
theorem dX7_hear_17 : decode cX7_hear 17 = .ok (.if_icmp .ge 40, 3) := by decide +kernel
theorem dX7_hear_20 : decode cX7_hear 20 = .ok (.aload_n 0, 1) := by decide +kernel
theorem dX7_hear_21 : decode cX7_hear 21 = .ok (.getfield 76, 3) := by decide +kernel
theorem dX7_hear_24 : decode cX7_hear 24 = .ok (.iload_n 1, 1) := by decide +kernel
theorem dX7_hear_25 : decode cX7_hear 25 = .ok (.aload_n 0, 1) := by decide +kernel
theorem dX7_hear_26 : decode cX7_hear 26 = .ok (.getfield 16, 3) := by decide +kernel
theorem dX7_hear_29 : decode cX7_hear 29 = .ok (.iload_n 1, 1) := by decide +kernel
theorem dX7_hear_30 : decode cX7_hear 30 = .ok (.laload, 1) := by decide +kernel
theorem dX7_hear_31 : decode cX7_hear 31 = .ok (.lastore, 1) := by decide +kernel
theorem dX7_hear_32 : decode cX7_hear 32 = .ok (.aload_n 0, 1) := by decide +kernel
theorem dX7_hear_33 : decode cX7_hear 33 = .ok (.getfield 79, 3) := by decide +kernel
theorem dX7_hear_36 : decode cX7_hear 36 = .ok (.iload_n 1, 1) := by decide +kernel
theorem dX7_hear_37 : decode cX7_hear 37 = .ok (.aload_n 0, 1) := by decide +kernel
theorem dX7_hear_38 : decode cX7_hear 38 = .ok (.getfield 20, 3) := by decide +kernel
theorem dX7_hear_41 : decode cX7_hear 41 = .ok (.iload_n 1, 1) := by decide +kernel
theorem dX7_hear_42 : decode cX7_hear 42 = .ok (.iaload, 1) := by decide +kernel
theorem dX7_hear_43 : decode cX7_hear 43 = .ok (.iastore, 1) := by decide +kernel
theorem dX7_hear_44 : decode cX7_hear 44 = .ok (.aload_n 0, 1) := by decide +kernel
theorem dX7_hear_45 : decode cX7_hear 45 = .ok (.getfield 55, 3) := by decide +kernel
theorem dX7_hear_48 : decode cX7_hear 48 = .ok (.iload_n 1, 1) := by decide +kernel
theorem dX7_hear_49 : decode cX7_hear 49 = .ok (.iconst 1, 1) := by decide +kernel
theorem dX7_hear_50 : decode cX7_hear 50 = .ok (.iastore, 1) := by decide +kernel
theorem dX7_hear_51 : decode cX7_hear 51 = .ok (.iinc 1 1, 3) := by decide +kernel
theorem dX7_hear_54 : decode cX7_hear 54 = .ok (.goto (-42), 3) := by decide +kernel
theorem dX7_hear_57 : decode cX7_hear 57 = .ok (.aload_n 0, 1) := by decide +kernel
theorem dX7_hear_58 : decode cX7_hear 58 = .ok (.iconst 0, 1) := by decide +kernel
theorem dX7_hear_59 : decode cX7_hear 59 = .ok (.putfield 371, 3) := by decide +kernel
theorem dX7_hear_62 : decode cX7_hear 62 = .ok (.iconst 0, 1) := by decide +kernel
theorem dX7_hear_63 : decode cX7_hear 63 = .ok (.istore_n 1, 1) := by decide +kernel
theorem dX7_hear_64 : decode cX7_hear 64 = .ok (.iconst (-1), 1) := by decide +kernel
theorem dX7_hear_65 : decode cX7_hear 65 = .ok (.istore_n 2, 1) := by decide +kernel
theorem dX7_hear_66 : decode cX7_hear 66 = .ok (.iload_n 1, 1) := by decide +kernel
theorem dX7_hear_67 : decode cX7_hear 67 = .ok (.aload_n 0, 1) := by decide +kernel
theorem dX7_hear_68 : decode cX7_hear 68 = .ok (.getfield 144, 3) := by decide +kernel
theorem dX7_hear_71 : decode cX7_hear 71 = .ok (.if_icmp .ge 92, 3) := by decide +kernel
theorem dX7_hear_74 : decode cX7_hear 74 = .ok (.iload_n 2, 1) := by decide +kernel
theorem dX7_hear_75 : decode cX7_hear 75 = .ok (.ifCond .ge 88, 3) := by decide +kernel
theorem dX7_hear_78 : decode cX7_hear 78 = .ok (.aload_n 0, 1) := by decide +kernel
theorem dX7_hear_79 : decode cX7_hear 79 = .ok (.aload_n 0, 1) := by decide +kernel
theorem dX7_hear_80 : decode cX7_hear 80 = .ok (.getfield 55, 3) := by decide +kernel
theorem dX7_hear_83 : decode cX7_hear 83 = .ok (.bipush 24, 2) := by decide +kernel
theorem dX7_hear_85 : decode cX7_hear 85 = .ok (.invokevirtual 307, 3) := by decide +kernel
theorem dX7_hear_88 : decode cX7_hear 88 = .ok (.istore_n 3, 1) := by decide +kernel
theorem dX7_hear_89 : decode cX7_hear 89 = .ok (.iload_n 3, 1) := by decide +kernel
theorem dX7_hear_90 : decode cX7_hear 90 = .ok (.ifCond .eq 11, 3) := by decide +kernel
theorem dX7_hear_93 : decode cX7_hear 93 = .ok (.aload_n 0, 1) := by decide +kernel
theorem dX7_hear_94 : decode cX7_hear 94 = .ok (.iload_n 1, 1) := by decide +kernel
theorem dX7_hear_95 : decode cX7_hear 95 = .ok (.invokevirtual 374, 3) := by decide +kernel
theorem dX7_hear_98 : decode cX7_hear 98 = .ok (.goto 4, 3) := by decide +kernel
theorem dX7_hear_101 : decode cX7_hear 101 = .ok (.iconst (-1), 1) := by decide +kernel
theorem dX7_hear_102 : decode cX7_hear 102 = .ok (.istore 4, 2) := by decide +kernel
theorem dX7_hear_104 : decode cX7_hear 104 = .ok (.iload 4, 2) := by decide +kernel
theorem dX7_hear_106 : decode cX7_hear 106 = .ok (.ifCond .ge 12, 3) := by decide +kernel
theorem dX7_hear_109 : decode cX7_hear 109 = .ok (.iload 4, 2) := by decide +kernel
theorem dX7_hear_111 : decode cX7_hear 111 = .ok (.ineg, 1) := by decide +kernel
theorem dX7_hear_112 : decode cX7_hear 112 = .ok (.iconst 1, 1) := by decide +kernel
theorem dX7_hear_113 : decode cX7_hear 113 = .ok (.isub, 1) := by decide +kernel
theorem dX7_hear_114 : decode cX7_hear 114 = .ok (.istore_n 2, 1) := by decide +kernel
theorem dX7_hear_115 : decode cX7_hear 115 = .ok (.goto 45, 3) := by decide +kernel
theorem dX7_hear_118 : decode cX7_hear 118 = .ok (.aload_n 0, 1) := by decide +kernel
theorem dX7_hear_119 : decode cX7_hear 119 = .ok (.getfield 104, 3) := by decide +kernel
theorem dX7_hear_122 : decode cX7_hear 122 = .ok (.aload_n 0, 1) := by decide +kernel
theorem dX7_hear_123 : decode cX7_hear 123 = .ok (.getfield 371, 3) := by decide +kernel
theorem dX7_hear_126 : decode cX7_hear 126 = .ok (.iload 4, 2) := by decide +kernel
theorem dX7_hear_128 : decode cX7_hear 128 = .ok (.iastore, 1) := by decide +kernel
theorem dX7_hear_129 : decode cX7_hear 129 = .ok (.aload_n 0, 1) := by decide +kernel
theorem dX7_hear_130 : decode cX7_hear 130 = .ok (.dup, 1) := by decide +kernel
theorem dX7_hear_131 : decode cX7_hear 131 = .ok (.getfield 371, 3) := by decide +kernel
theorem dX7_hear_134 : decode cX7_hear 134 = .ok (.iconst 1, 1) := by decide +kernel
theorem dX7_hear_135 : decode cX7_hear 135 = .ok (.iadd, 1) := by decide +kernel
theorem dX7_hear_136 : decode cX7_hear 136 = .ok (.putfield 371, 3) := by decide +kernel
theorem dX7_hear_139 : decode cX7_hear 139 = .ok (.aload_n 0, 1) := by decide +kernel
theorem dX7_hear_140 : decode cX7_hear 140 = .ok (.getfield 55, 3) := by decide +kernel
theorem dX7_hear_143 : decode cX7_hear 143 = .ok (.iload 4, 2) := by decide +kernel
theorem dX7_hear_145 : decode cX7_hear 145 = .ok (.dup2, 1) := by decide +kernel
theorem dX7_hear_146 : decode cX7_hear 146 = .ok (.iaload, 1) := by decide +kernel
theorem dX7_hear_147 : decode cX7_hear 147 = .ok (.iconst 1, 1) := by decide +kernel
theorem dX7_hear_148 : decode cX7_hear 148 = .ok (.iadd, 1) := by decide +kernel
theorem dX7_hear_149 : decode cX7_hear 149 = .ok (.iastore, 1) := by decide +kernel
theorem dX7_hear_150 : decode cX7_hear 150 = .ok (.iload_n 1, 1) := by decide +kernel
theorem dX7_hear_151 : decode cX7_hear 151 = .ok (.aload_n 0, 1) := by decide +kernel
theorem dX7_hear_152 : decode cX7_hear 152 = .ok (.getfield 20, 3) := by decide +kernel
theorem dX7_hear_155 : decode cX7_hear 155 = .ok (.iload 4, 2) := by decide +kernel
theorem dX7_hear_157 : decode cX7_hear 157 = .ok (.iaload, 1) := by decide +kernel
theorem dX7_hear_158 : decode cX7_hear 158 = .ok (.iadd, 1) := by decide +kernel
theorem dX7_hear_159 : decode cX7_hear 159 = .ok (.istore_n 1, 1) := by decide +kernel
theorem dX7_hear_160 : decode cX7_hear 160 = .ok (.goto (-94), 3) := by decide +kernel
theorem dX7_hear_163 : decode cX7_hear 163 = .ok (.iconst 0, 1) := by decide +kernel
theorem dX7_hear_164 : decode cX7_hear 164 = .ok (.istore_n 3, 1) := by decide +kernel
theorem dX7_hear_165 : decode cX7_hear 165 = .ok (.iload_n 3, 1) := by decide +kernel
theorem dX7_hear_166 : decode cX7_hear 166 = .ok (.aload_n 0, 1) := by decide +kernel
theorem dX7_hear_167 : decode cX7_hear 167 = .ok (.getfield 154, 3) := by decide +kernel
theorem dX7_hear_170 : decode cX7_hear 170 = .ok (.if_icmp .ge 33, 3) := by decide +kernel
theorem dX7_hear_173 : decode cX7_hear 173 = .ok (.aload_n 0, 1) := by decide +kernel
theorem dX7_hear_174 : decode cX7_hear 174 = .ok (.getfield 16, 3) := by decide +kernel
theorem dX7_hear_177 : decode cX7_hear 177 = .ok (.iload_n 3, 1) := by decide +kernel
theorem dX7_hear_178 : decode cX7_hear 178 = .ok (.aload_n 0, 1) := by decide +kernel
theorem dX7_hear_179 : decode cX7_hear 179 = .ok (.getfield 76, 3) := by decide +kernel
theorem dX7_hear_182 : decode cX7_hear 182 = .ok (.iload_n 3, 1) := by decide +kernel
theorem dX7_hear_183 : decode cX7_hear 183 = .ok (.laload, 1) := by decide +kernel
theorem dX7_hear_184 : decode cX7_hear 184 = .ok (.lastore, 1) := by decide +kernel
theorem dX7_hear_185 : decode cX7_hear 185 = .ok (.aload_n 0, 1) := by decide +kernel
theorem dX7_hear_186 : decode cX7_hear 186 = .ok (.getfield 20, 3) := by decide +kernel
theorem dX7_hear_189 : decode cX7_hear 189 = .ok (.iload_n 3, 1) := by decide +kernel
theorem dX7_hear_190 : decode cX7_hear 190 = .ok (.aload_n 0, 1) := by decide +kernel
theorem dX7_hear_191 : decode cX7_hear 191 = .ok (.getfield 79, 3) := by decide +kernel
theorem dX7_hear_194 : decode cX7_hear 194 = .ok (.iload_n 3, 1) := by decide +kernel
theorem dX7_hear_195 : decode cX7_hear 195 = .ok (.iaload, 1) := by decide +kernel
theorem dX7_hear_196 : decode cX7_hear 196 = .ok (.iastore, 1) := by decide +kernel
theorem dX7_hear_197 : decode cX7_hear 197 = .ok (.iinc 3 1, 3) := by decide +kernel
theorem dX7_hear_200 : decode cX7_hear 200 = .ok (.goto (-35), 3) := by decide +kernel
theorem dX7_hear_203 : decode cX7_hear 203 = .ok (.iload_n 2, 1) := by decide +kernel
theorem dX7_hear_204 : decode cX7_hear 204 = .ok (.ifCond .ge 10, 3) := by decide +kernel
theorem dX7_hear_207 : decode cX7_hear 207 = .ok (.aload_n 0, 1) := by decide +kernel
theorem dX7_hear_208 : decode cX7_hear 208 = .ok (.getfield 371, 3) := by decide +kernel
theorem dX7_hear_211 : decode cX7_hear 211 = .ok (.goto 7, 3) := by decide +kernel
theorem dX7_hear_214 : decode cX7_hear 214 = .ok (.bipush (-100), 2) := by decide +kernel
theorem dX7_hear_216 : decode cX7_hear 216 = .ok (.iload_n 2, 1) := by decide +kernel
theorem dX7_hear_217 : decode cX7_hear 217 = .ok (.isub, 1) := by decide +kernel
theorem dX7_hear_218 : decode cX7_hear 218 = .ok (.ireturn, 1) := by decide +kernel
theorem dX7_grown_0 : decode cX7_grown 0 = .ok (.aload_n 0, 1) := by decide +kernel
theorem dX7_grown_1 : decode cX7_grown 1 = .ok (.iload_n 1, 1) := by decide +kernel
theorem dX7_grown_2 : decode cX7_grown 2 = .ok (.invokevirtual 157, 3) := by decide +kernel
theorem dX7_grown_5 : decode cX7_grown 5 = .ok (.ifCond .ne 5, 3) := by decide +kernel
theorem dX7_grown_8 : decode cX7_grown 8 = .ok (.iconst (-1), 1) := by decide +kernel
theorem dX7_grown_9 : decode cX7_grown 9 = .ok (.ireturn, 1) := by decide +kernel
theorem dX7_grown_10 : decode cX7_grown 10 = .ok (.aload_n 0, 1) := by decide +kernel
theorem dX7_grown_11 : decode cX7_grown 11 = .ok (.getfield 140, 3) := by decide +kernel
theorem dX7_grown_14 : decode cX7_grown 14 = .ok (.ifCond .eq 19, 3) := by decide +kernel
theorem dX7_grown_17 : decode cX7_grown 17 = .ok (.aload_n 0, 1) := by decide +kernel
theorem dX7_grown_18 : decode cX7_grown 18 = .ok (.getfield 166, 3) := by decide +kernel
theorem dX7_grown_21 : decode cX7_grown 21 = .ok (.ifCond .eq 12, 3) := by decide +kernel
theorem dX7_grown_24 : decode cX7_grown 24 = .ok (.aload_n 0, 1) := by decide +kernel
theorem dX7_grown_25 : decode cX7_grown 25 = .ok (.getfield 23, 3) := by decide +kernel
theorem dX7_grown_28 : decode cX7_grown 28 = .ok (.iload_n 1, 1) := by decide +kernel
theorem dX7_grown_29 : decode cX7_grown 29 = .ok (.iaload, 1) := by decide +kernel
theorem dX7_grown_30 : decode cX7_grown 30 = .ok (.goto 5, 3) := by decide +kernel
theorem dX7_grown_33 : decode cX7_grown 33 = .ok (.bipush (-3), 2) := by decide +kernel
theorem dX7_grown_35 : decode cX7_grown 35 = .ok (.ireturn, 1) := by decide +kernel
theorem dX7_makes_0 : decode cX7_makes 0 = .ok (.iconst 0, 1) := by decide +kernel
theorem dX7_makes_1 : decode cX7_makes 1 = .ok (.istore_n 3, 1) := by decide +kernel
theorem dX7_makes_2 : decode cX7_makes 2 = .ok (.iload_n 3, 1) := by decide +kernel
theorem dX7_makes_3 : decode cX7_makes 3 = .ok (.bipush 9, 2) := by decide +kernel
theorem dX7_makes_5 : decode cX7_makes 5 = .ok (.if_icmp .ge 16, 3) := by decide +kernel
theorem dX7_makes_8 : decode cX7_makes 8 = .ok (.aload_n 0, 1) := by decide +kernel
theorem dX7_makes_9 : decode cX7_makes 9 = .ok (.getfield 116, 3) := by decide +kernel
theorem dX7_makes_12 : decode cX7_makes 12 = .ok (.iload_n 3, 1) := by decide +kernel
theorem dX7_makes_13 : decode cX7_makes 13 = .ok (.lconst 0, 1) := by decide +kernel
theorem dX7_makes_14 : decode cX7_makes 14 = .ok (.lastore, 1) := by decide +kernel
theorem dX7_makes_15 : decode cX7_makes 15 = .ok (.iinc 3 1, 3) := by decide +kernel
theorem dX7_makes_18 : decode cX7_makes 18 = .ok (.goto (-16), 3) := by decide +kernel
theorem dX7_makes_21 : decode cX7_makes 21 = .ok (.iconst 0, 1) := by decide +kernel
theorem dX7_makes_22 : decode cX7_makes 22 = .ok (.istore_n 3, 1) := by decide +kernel
theorem dX7_makes_23 : decode cX7_makes 23 = .ok (.iload_n 3, 1) := by decide +kernel
theorem dX7_makes_24 : decode cX7_makes 24 = .ok (.aload_n 0, 1) := by decide +kernel
theorem dX7_makes_25 : decode cX7_makes 25 = .ok (.getfield 346, 3) := by decide +kernel
theorem dX7_makes_28 : decode cX7_makes 28 = .ok (.if_icmp .ge 82, 3) := by decide +kernel
theorem dX7_makes_31 : decode cX7_makes 31 = .ok (.aload_n 0, 1) := by decide +kernel
theorem dX7_makes_32 : decode cX7_makes 32 = .ok (.getfield 107, 3) := by decide +kernel
theorem dX7_makes_35 : decode cX7_makes 35 = .ok (.bipush 9, 2) := by decide +kernel
theorem dX7_makes_37 : decode cX7_makes 37 = .ok (.iload_n 1, 1) := by decide +kernel
theorem dX7_makes_38 : decode cX7_makes 38 = .ok (.imul, 1) := by decide +kernel
theorem dX7_makes_39 : decode cX7_makes 39 = .ok (.iload_n 3, 1) := by decide +kernel
theorem dX7_makes_40 : decode cX7_makes 40 = .ok (.bipush 64, 2) := by decide +kernel
theorem dX7_makes_42 : decode cX7_makes 42 = .ok (.idiv, 1) := by decide +kernel
theorem dX7_makes_43 : decode cX7_makes 43 = .ok (.iadd, 1) := by decide +kernel
theorem dX7_makes_44 : decode cX7_makes 44 = .ok (.laload, 1) := by decide +kernel
theorem dX7_makes_45 : decode cX7_makes 45 = .ok (.iload_n 3, 1) := by decide +kernel
theorem dX7_makes_46 : decode cX7_makes 46 = .ok (.bipush 64, 2) := by decide +kernel
theorem dX7_makes_48 : decode cX7_makes 48 = .ok (.irem, 1) := by decide +kernel
theorem dX7_makes_49 : decode cX7_makes 49 = .ok (.lshr, 1) := by decide +kernel
theorem dX7_makes_50 : decode cX7_makes 50 = .ok (.lconst 1, 1) := by decide +kernel
theorem dX7_makes_51 : decode cX7_makes 51 = .ok (.land, 1) := by decide +kernel
theorem dX7_makes_52 : decode cX7_makes 52 = .ok (.lconst 1, 1) := by decide +kernel
theorem dX7_makes_53 : decode cX7_makes 53 = .ok (.lcmp, 1) := by decide +kernel
theorem dX7_makes_54 : decode cX7_makes 54 = .ok (.ifCond .ne 50, 3) := by decide +kernel
theorem dX7_makes_57 : decode cX7_makes 57 = .ok (.aload_n 0, 1) := by decide +kernel
theorem dX7_makes_58 : decode cX7_makes 58 = .ok (.getfield 95, 3) := by decide +kernel
theorem dX7_makes_61 : decode cX7_makes 61 = .ok (.iconst 4, 1) := by decide +kernel
theorem dX7_makes_62 : decode cX7_makes 62 = .ok (.iload_n 3, 1) := by decide +kernel
theorem dX7_makes_63 : decode cX7_makes 63 = .ok (.imul, 1) := by decide +kernel
theorem dX7_makes_64 : decode cX7_makes 64 = .ok (.iload_n 2, 1) := by decide +kernel
theorem dX7_makes_65 : decode cX7_makes 65 = .ok (.iadd, 1) := by decide +kernel
theorem dX7_makes_66 : decode cX7_makes 66 = .ok (.iaload, 1) := by decide +kernel
theorem dX7_makes_67 : decode cX7_makes 67 = .ok (.istore 4, 2) := by decide +kernel
theorem dX7_makes_69 : decode cX7_makes 69 = .ok (.iload 4, 2) := by decide +kernel
theorem dX7_makes_71 : decode cX7_makes 71 = .ok (.ifCond .ge 5, 3) := by decide +kernel
theorem dX7_makes_74 : decode cX7_makes 74 = .ok (.iconst 0, 1) := by decide +kernel
theorem dX7_makes_75 : decode cX7_makes 75 = .ok (.ireturn, 1) := by decide +kernel
theorem dX7_makes_76 : decode cX7_makes 76 = .ok (.aload_n 0, 1) := by decide +kernel
theorem dX7_makes_77 : decode cX7_makes 77 = .ok (.getfield 116, 3) := by decide +kernel
theorem dX7_makes_80 : decode cX7_makes 80 = .ok (.iload 4, 2) := by decide +kernel
theorem dX7_makes_82 : decode cX7_makes 82 = .ok (.bipush 64, 2) := by decide +kernel
theorem dX7_makes_84 : decode cX7_makes 84 = .ok (.idiv, 1) := by decide +kernel
theorem dX7_makes_85 : decode cX7_makes 85 = .ok (.aload_n 0, 1) := by decide +kernel
theorem dX7_makes_86 : decode cX7_makes 86 = .ok (.getfield 116, 3) := by decide +kernel
theorem dX7_makes_89 : decode cX7_makes 89 = .ok (.iload 4, 2) := by decide +kernel
theorem dX7_makes_91 : decode cX7_makes 91 = .ok (.bipush 64, 2) := by decide +kernel
theorem dX7_makes_93 : decode cX7_makes 93 = .ok (.idiv, 1) := by decide +kernel
theorem dX7_makes_94 : decode cX7_makes 94 = .ok (.laload, 1) := by decide +kernel
theorem dX7_makes_95 : decode cX7_makes 95 = .ok (.lconst 1, 1) := by decide +kernel
theorem dX7_makes_96 : decode cX7_makes 96 = .ok (.iload 4, 2) := by decide +kernel
theorem dX7_makes_98 : decode cX7_makes 98 = .ok (.bipush 64, 2) := by decide +kernel
theorem dX7_makes_100 : decode cX7_makes 100 = .ok (.irem, 1) := by decide +kernel
theorem dX7_makes_101 : decode cX7_makes 101 = .ok (.lshl, 1) := by decide +kernel
theorem dX7_makes_102 : decode cX7_makes 102 = .ok (.lor, 1) := by decide +kernel
theorem dX7_makes_103 : decode cX7_makes 103 = .ok (.lastore, 1) := by decide +kernel
theorem dX7_makes_104 : decode cX7_makes 104 = .ok (.iinc 3 1, 3) := by decide +kernel
theorem dX7_makes_107 : decode cX7_makes 107 = .ok (.goto (-84), 3) := by decide +kernel
theorem dX7_makes_110 : decode cX7_makes 110 = .ok (.iconst 1, 1) := by decide +kernel
theorem dX7_makes_111 : decode cX7_makes 111 = .ok (.ireturn, 1) := by decide +kernel
theorem dX7_isSet_0 : decode cX7_isSet 0 = .ok (.iconst 0, 1) := by decide +kernel
theorem dX7_isSet_1 : decode cX7_isSet 1 = .ok (.istore_n 1, 1) := by decide +kernel
theorem dX7_isSet_2 : decode cX7_isSet 2 = .ok (.iconst 0, 1) := by decide +kernel
theorem dX7_isSet_3 : decode cX7_isSet 3 = .ok (.istore_n 2, 1) := by decide +kernel
theorem dX7_isSet_4 : decode cX7_isSet 4 = .ok (.iload_n 2, 1) := by decide +kernel
theorem dX7_isSet_5 : decode cX7_isSet 5 = .ok (.aload_n 0, 1) := by decide +kernel
theorem dX7_isSet_6 : decode cX7_isSet 6 = .ok (.getfield 377, 3) := by decide +kernel
theorem dX7_isSet_9 : decode cX7_isSet 9 = .ok (.if_icmp .ge 60, 3) := by decide +kernel
theorem dX7_isSet_12 : decode cX7_isSet 12 = .ok (.iload_n 1, 1) := by decide +kernel
theorem dX7_isSet_13 : decode cX7_isSet 13 = .ok (.ifCond .ne 56, 3) := by decide +kernel
theorem dX7_isSet_16 : decode cX7_isSet 16 = .ok (.iconst 1, 1) := by decide +kernel
theorem dX7_isSet_17 : decode cX7_isSet 17 = .ok (.istore_n 1, 1) := by decide +kernel
theorem dX7_isSet_18 : decode cX7_isSet 18 = .ok (.iconst 0, 1) := by decide +kernel
theorem dX7_isSet_19 : decode cX7_isSet 19 = .ok (.istore_n 3, 1) := by decide +kernel
theorem dX7_isSet_20 : decode cX7_isSet 20 = .ok (.iload_n 3, 1) := by decide +kernel
theorem dX7_isSet_21 : decode cX7_isSet 21 = .ok (.bipush 9, 2) := by decide +kernel
theorem dX7_isSet_23 : decode cX7_isSet 23 = .ok (.if_icmp .ge 40, 3) := by decide +kernel
theorem dX7_isSet_26 : decode cX7_isSet 26 = .ok (.iload_n 1, 1) := by decide +kernel
theorem dX7_isSet_27 : decode cX7_isSet 27 = .ok (.ifCond .eq 36, 3) := by decide +kernel
theorem dX7_isSet_30 : decode cX7_isSet 30 = .ok (.aload_n 0, 1) := by decide +kernel
theorem dX7_isSet_31 : decode cX7_isSet 31 = .ok (.getfield 107, 3) := by decide +kernel
theorem dX7_isSet_34 : decode cX7_isSet 34 = .ok (.bipush 9, 2) := by decide +kernel
theorem dX7_isSet_36 : decode cX7_isSet 36 = .ok (.iload_n 2, 1) := by decide +kernel
theorem dX7_isSet_37 : decode cX7_isSet 37 = .ok (.imul, 1) := by decide +kernel
theorem dX7_isSet_38 : decode cX7_isSet 38 = .ok (.iload_n 3, 1) := by decide +kernel
theorem dX7_isSet_39 : decode cX7_isSet 39 = .ok (.iadd, 1) := by decide +kernel
theorem dX7_isSet_40 : decode cX7_isSet 40 = .ok (.laload, 1) := by decide +kernel
theorem dX7_isSet_41 : decode cX7_isSet 41 = .ok (.aload_n 0, 1) := by decide +kernel
theorem dX7_isSet_42 : decode cX7_isSet 42 = .ok (.getfield 116, 3) := by decide +kernel
theorem dX7_isSet_45 : decode cX7_isSet 45 = .ok (.iload_n 3, 1) := by decide +kernel
theorem dX7_isSet_46 : decode cX7_isSet 46 = .ok (.laload, 1) := by decide +kernel
theorem dX7_isSet_47 : decode cX7_isSet 47 = .ok (.lcmp, 1) := by decide +kernel
theorem dX7_isSet_48 : decode cX7_isSet 48 = .ok (.ifCond .ne 7, 3) := by decide +kernel
theorem dX7_isSet_51 : decode cX7_isSet 51 = .ok (.iconst 1, 1) := by decide +kernel
theorem dX7_isSet_52 : decode cX7_isSet 52 = .ok (.goto 4, 3) := by decide +kernel
theorem dX7_isSet_55 : decode cX7_isSet 55 = .ok (.iconst 0, 1) := by decide +kernel
theorem dX7_isSet_56 : decode cX7_isSet 56 = .ok (.istore_n 1, 1) := by decide +kernel
theorem dX7_isSet_57 : decode cX7_isSet 57 = .ok (.iinc 3 1, 3) := by decide +kernel
theorem dX7_isSet_60 : decode cX7_isSet 60 = .ok (.goto (-40), 3) := by decide +kernel
theorem dX7_isSet_63 : decode cX7_isSet 63 = .ok (.iinc 2 1, 3) := by decide +kernel
theorem dX7_isSet_66 : decode cX7_isSet 66 = .ok (.goto (-62), 3) := by decide +kernel
theorem dX7_isSet_69 : decode cX7_isSet 69 = .ok (.iload_n 1, 1) := by decide +kernel
theorem dX7_isSet_70 : decode cX7_isSet 70 = .ok (.ireturn, 1) := by decide +kernel
theorem dX7_isHome_0 : decode cX7_isHome 0 = .ok (.aload_n 0, 1) := by decide +kernel
theorem dX7_isHome_1 : decode cX7_isHome 1 = .ok (.getfield 107, 3) := by decide +kernel
theorem dX7_isHome_4 : decode cX7_isHome 4 = .ok (.bipush 9, 2) := by decide +kernel
theorem dX7_isHome_6 : decode cX7_isHome 6 = .ok (.iload_n 1, 1) := by decide +kernel
theorem dX7_isHome_7 : decode cX7_isHome 7 = .ok (.imul, 1) := by decide +kernel
theorem dX7_isHome_8 : decode cX7_isHome 8 = .ok (.laload, 1) := by decide +kernel
theorem dX7_isHome_9 : decode cX7_isHome 9 = .ok (.lconst 1, 1) := by decide +kernel
theorem dX7_isHome_10 : decode cX7_isHome 10 = .ok (.lcmp, 1) := by decide +kernel
theorem dX7_isHome_11 : decode cX7_isHome 11 = .ok (.ifCond .ne 7, 3) := by decide +kernel
theorem dX7_isHome_14 : decode cX7_isHome 14 = .ok (.iconst 1, 1) := by decide +kernel
theorem dX7_isHome_15 : decode cX7_isHome 15 = .ok (.goto 4, 3) := by decide +kernel
theorem dX7_isHome_18 : decode cX7_isHome 18 = .ok (.iconst 0, 1) := by decide +kernel
theorem dX7_isHome_19 : decode cX7_isHome 19 = .ok (.istore_n 2, 1) := by decide +kernel
theorem dX7_isHome_20 : decode cX7_isHome 20 = .ok (.iconst 1, 1) := by decide +kernel
theorem dX7_isHome_21 : decode cX7_isHome 21 = .ok (.istore_n 3, 1) := by decide +kernel
theorem dX7_isHome_22 : decode cX7_isHome 22 = .ok (.iload_n 3, 1) := by decide +kernel
theorem dX7_isHome_23 : decode cX7_isHome 23 = .ok (.bipush 9, 2) := by decide +kernel
theorem dX7_isHome_25 : decode cX7_isHome 25 = .ok (.if_icmp .ge 35, 3) := by decide +kernel
theorem dX7_isHome_28 : decode cX7_isHome 28 = .ok (.iload_n 2, 1) := by decide +kernel
theorem dX7_isHome_29 : decode cX7_isHome 29 = .ok (.ifCond .eq 23, 3) := by decide +kernel
theorem dX7_isHome_32 : decode cX7_isHome 32 = .ok (.aload_n 0, 1) := by decide +kernel
theorem dX7_isHome_33 : decode cX7_isHome 33 = .ok (.getfield 107, 3) := by decide +kernel
theorem dX7_isHome_36 : decode cX7_isHome 36 = .ok (.bipush 9, 2) := by decide +kernel
theorem dX7_isHome_38 : decode cX7_isHome 38 = .ok (.iload_n 1, 1) := by decide +kernel
theorem dX7_isHome_39 : decode cX7_isHome 39 = .ok (.imul, 1) := by decide +kernel
theorem dX7_isHome_40 : decode cX7_isHome 40 = .ok (.iload_n 3, 1) := by decide +kernel
theorem dX7_isHome_41 : decode cX7_isHome 41 = .ok (.iadd, 1) := by decide +kernel
theorem dX7_isHome_42 : decode cX7_isHome 42 = .ok (.laload, 1) := by decide +kernel
theorem dX7_isHome_43 : decode cX7_isHome 43 = .ok (.lconst 0, 1) := by decide +kernel
theorem dX7_isHome_44 : decode cX7_isHome 44 = .ok (.lcmp, 1) := by decide +kernel
theorem dX7_isHome_45 : decode cX7_isHome 45 = .ok (.ifCond .ne 7, 3) := by decide +kernel
theorem dX7_isHome_48 : decode cX7_isHome 48 = .ok (.iconst 1, 1) := by decide +kernel
theorem dX7_isHome_49 : decode cX7_isHome 49 = .ok (.goto 4, 3) := by decide +kernel
theorem dX7_isHome_52 : decode cX7_isHome 52 = .ok (.iconst 0, 1) := by decide +kernel
theorem dX7_isHome_53 : decode cX7_isHome 53 = .ok (.istore_n 2, 1) := by decide +kernel
theorem dX7_isHome_54 : decode cX7_isHome 54 = .ok (.iinc 3 1, 3) := by decide +kernel
theorem dX7_isHome_57 : decode cX7_isHome 57 = .ok (.goto (-35), 3) := by decide +kernel
theorem dX7_isHome_60 : decode cX7_isHome 60 = .ok (.iload_n 2, 1) := by decide +kernel
theorem dX7_isHome_61 : decode cX7_isHome 61 = .ok (.ireturn, 1) := by decide +kernel
theorem dX7_addSet_0 : decode cX7_addSet 0 = .ok (.iconst 0, 1) := by decide +kernel
theorem dX7_addSet_1 : decode cX7_addSet 1 = .ok (.istore_n 3, 1) := by decide +kernel
theorem dX7_addSet_2 : decode cX7_addSet 2 = .ok (.iload_n 3, 1) := by decide +kernel
theorem dX7_addSet_3 : decode cX7_addSet 3 = .ok (.bipush 9, 2) := by decide +kernel
theorem dX7_addSet_5 : decode cX7_addSet 5 = .ok (.if_icmp .ge 29, 3) := by decide +kernel
theorem dX7_addSet_8 : decode cX7_addSet 8 = .ok (.aload_n 0, 1) := by decide +kernel
theorem dX7_addSet_9 : decode cX7_addSet 9 = .ok (.getfield 107, 3) := by decide +kernel
theorem dX7_addSet_12 : decode cX7_addSet 12 = .ok (.bipush 9, 2) := by decide +kernel
theorem dX7_addSet_14 : decode cX7_addSet 14 = .ok (.aload_n 0, 1) := by decide +kernel
theorem dX7_addSet_15 : decode cX7_addSet 15 = .ok (.getfield 377, 3) := by decide +kernel
theorem dX7_addSet_18 : decode cX7_addSet 18 = .ok (.imul, 1) := by decide +kernel
theorem dX7_addSet_19 : decode cX7_addSet 19 = .ok (.iload_n 3, 1) := by decide +kernel
theorem dX7_addSet_20 : decode cX7_addSet 20 = .ok (.iadd, 1) := by decide +kernel
theorem dX7_addSet_21 : decode cX7_addSet 21 = .ok (.aload_n 0, 1) := by decide +kernel
theorem dX7_addSet_22 : decode cX7_addSet 22 = .ok (.getfield 116, 3) := by decide +kernel
theorem dX7_addSet_25 : decode cX7_addSet 25 = .ok (.iload_n 3, 1) := by decide +kernel
theorem dX7_addSet_26 : decode cX7_addSet 26 = .ok (.laload, 1) := by decide +kernel
theorem dX7_addSet_27 : decode cX7_addSet 27 = .ok (.lastore, 1) := by decide +kernel
theorem dX7_addSet_28 : decode cX7_addSet 28 = .ok (.iinc 3 1, 3) := by decide +kernel
theorem dX7_addSet_31 : decode cX7_addSet 31 = .ok (.goto (-29), 3) := by decide +kernel
theorem dX7_addSet_34 : decode cX7_addSet 34 = .ok (.aload_n 0, 1) := by decide +kernel
theorem dX7_addSet_35 : decode cX7_addSet 35 = .ok (.getfield 110, 3) := by decide +kernel
theorem dX7_addSet_38 : decode cX7_addSet 38 = .ok (.aload_n 0, 1) := by decide +kernel
theorem dX7_addSet_39 : decode cX7_addSet 39 = .ok (.getfield 377, 3) := by decide +kernel
theorem dX7_addSet_42 : decode cX7_addSet 42 = .ok (.iload_n 1, 1) := by decide +kernel
theorem dX7_addSet_43 : decode cX7_addSet 43 = .ok (.iastore, 1) := by decide +kernel
theorem dX7_addSet_44 : decode cX7_addSet 44 = .ok (.aload_n 0, 1) := by decide +kernel
theorem dX7_addSet_45 : decode cX7_addSet 45 = .ok (.getfield 113, 3) := by decide +kernel
theorem dX7_addSet_48 : decode cX7_addSet 48 = .ok (.aload_n 0, 1) := by decide +kernel
theorem dX7_addSet_49 : decode cX7_addSet 49 = .ok (.getfield 377, 3) := by decide +kernel
theorem dX7_addSet_52 : decode cX7_addSet 52 = .ok (.iload_n 2, 1) := by decide +kernel
theorem dX7_addSet_53 : decode cX7_addSet 53 = .ok (.iastore, 1) := by decide +kernel
theorem dX7_addSet_54 : decode cX7_addSet 54 = .ok (.aload_n 0, 1) := by decide +kernel
theorem dX7_addSet_55 : decode cX7_addSet 55 = .ok (.dup, 1) := by decide +kernel
theorem dX7_addSet_56 : decode cX7_addSet 56 = .ok (.getfield 377, 3) := by decide +kernel
theorem dX7_addSet_59 : decode cX7_addSet 59 = .ok (.iconst 1, 1) := by decide +kernel
theorem dX7_addSet_60 : decode cX7_addSet 60 = .ok (.iadd, 1) := by decide +kernel
theorem dX7_addSet_61 : decode cX7_addSet 61 = .ok (.putfield 377, 3) := by decide +kernel
theorem dX7_addSet_64 : decode cX7_addSet 64 = .ok (.return_, 1) := by decide +kernel
theorem dX7_stepTo_0 : decode cX7_stepTo 0 = .ok (.iconst 0, 1) := by decide +kernel
theorem dX7_stepTo_1 : decode cX7_stepTo 1 = .ok (.istore_n 2, 1) := by decide +kernel
theorem dX7_stepTo_2 : decode cX7_stepTo 2 = .ok (.iload_n 1, 1) := by decide +kernel
theorem dX7_stepTo_3 : decode cX7_stepTo 3 = .ok (.istore_n 3, 1) := by decide +kernel
theorem dX7_stepTo_4 : decode cX7_stepTo 4 = .ok (.iload_n 3, 1) := by decide +kernel
theorem dX7_stepTo_5 : decode cX7_stepTo 5 = .ok (.ifCond .le 16, 3) := by decide +kernel
theorem dX7_stepTo_8 : decode cX7_stepTo 8 = .ok (.iinc 2 1, 3) := by decide +kernel
theorem dX7_stepTo_11 : decode cX7_stepTo 11 = .ok (.aload_n 0, 1) := by decide +kernel
theorem dX7_stepTo_12 : decode cX7_stepTo 12 = .ok (.getfield 110, 3) := by decide +kernel
theorem dX7_stepTo_15 : decode cX7_stepTo 15 = .ok (.iload_n 3, 1) := by decide +kernel
theorem dX7_stepTo_16 : decode cX7_stepTo 16 = .ok (.iaload, 1) := by decide +kernel
theorem dX7_stepTo_17 : decode cX7_stepTo 17 = .ok (.istore_n 3, 1) := by decide +kernel
theorem dX7_stepTo_18 : decode cX7_stepTo 18 = .ok (.goto (-14), 3) := by decide +kernel
theorem dX7_stepTo_21 : decode cX7_stepTo 21 = .ok (.aload_n 0, 1) := by decide +kernel
theorem dX7_stepTo_22 : decode cX7_stepTo 22 = .ok (.iload_n 2, 1) := by decide +kernel
theorem dX7_stepTo_23 : decode cX7_stepTo 23 = .ok (.putfield 380, 3) := by decide +kernel
theorem dX7_stepTo_26 : decode cX7_stepTo 26 = .ok (.iload_n 1, 1) := by decide +kernel
theorem dX7_stepTo_27 : decode cX7_stepTo 27 = .ok (.istore_n 3, 1) := by decide +kernel
theorem dX7_stepTo_28 : decode cX7_stepTo 28 = .ok (.iload_n 3, 1) := by decide +kernel
theorem dX7_stepTo_29 : decode cX7_stepTo 29 = .ok (.ifCond .le 28, 3) := by decide +kernel
theorem dX7_stepTo_32 : decode cX7_stepTo 32 = .ok (.iinc 2 (-1), 3) := by decide +kernel
theorem dX7_stepTo_35 : decode cX7_stepTo 35 = .ok (.aload_n 0, 1) := by decide +kernel
theorem dX7_stepTo_36 : decode cX7_stepTo 36 = .ok (.getfield 119, 3) := by decide +kernel
theorem dX7_stepTo_39 : decode cX7_stepTo 39 = .ok (.iload_n 2, 1) := by decide +kernel
theorem dX7_stepTo_40 : decode cX7_stepTo 40 = .ok (.aload_n 0, 1) := by decide +kernel
theorem dX7_stepTo_41 : decode cX7_stepTo 41 = .ok (.getfield 113, 3) := by decide +kernel
theorem dX7_stepTo_44 : decode cX7_stepTo 44 = .ok (.iload_n 3, 1) := by decide +kernel
theorem dX7_stepTo_45 : decode cX7_stepTo 45 = .ok (.iaload, 1) := by decide +kernel
theorem dX7_stepTo_46 : decode cX7_stepTo 46 = .ok (.iastore, 1) := by decide +kernel
theorem dX7_stepTo_47 : decode cX7_stepTo 47 = .ok (.aload_n 0, 1) := by decide +kernel
theorem dX7_stepTo_48 : decode cX7_stepTo 48 = .ok (.getfield 110, 3) := by decide +kernel
theorem dX7_stepTo_51 : decode cX7_stepTo 51 = .ok (.iload_n 3, 1) := by decide +kernel
theorem dX7_stepTo_52 : decode cX7_stepTo 52 = .ok (.iaload, 1) := by decide +kernel
theorem dX7_stepTo_53 : decode cX7_stepTo 53 = .ok (.istore_n 3, 1) := by decide +kernel
theorem dX7_stepTo_54 : decode cX7_stepTo 54 = .ok (.goto (-26), 3) := by decide +kernel
theorem dX7_stepTo_57 : decode cX7_stepTo 57 = .ok (.aload_n 0, 1) := by decide +kernel
theorem dX7_stepTo_58 : decode cX7_stepTo 58 = .ok (.getfield 380, 3) := by decide +kernel
theorem dX7_stepTo_61 : decode cX7_stepTo 61 = .ok (.ireturn, 1) := by decide +kernel
theorem dX7_step_0 : decode cX7_step 0 = .ok (.aload_n 0, 1) := by decide +kernel
theorem dX7_step_1 : decode cX7_step 1 = .ok (.getfield 140, 3) := by decide +kernel
theorem dX7_step_4 : decode cX7_step 4 = .ok (.ifCond .ne 6, 3) := by decide +kernel
theorem dX7_step_7 : decode cX7_step 7 = .ok (.bipush (-3), 2) := by decide +kernel
theorem dX7_step_9 : decode cX7_step 9 = .ok (.ireturn, 1) := by decide +kernel
theorem dX7_step_10 : decode cX7_step 10 = .ok (.aload_n 0, 1) := by decide +kernel
theorem dX7_step_11 : decode cX7_step 11 = .ok (.invokevirtual 359, 3) := by decide +kernel
theorem dX7_step_14 : decode cX7_step 14 = .ok (.ifCond .ne 6, 3) := by decide +kernel
theorem dX7_step_17 : decode cX7_step 17 = .ok (.bipush (-5), 2) := by decide +kernel
theorem dX7_step_19 : decode cX7_step 19 = .ok (.ireturn, 1) := by decide +kernel
theorem dX7_step_20 : decode cX7_step 20 = .ok (.aload_n 0, 1) := by decide +kernel
theorem dX7_step_21 : decode cX7_step 21 = .ok (.invokevirtual 362, 3) := by decide +kernel
theorem dX7_step_24 : decode cX7_step 24 = .ok (.aload_n 0, 1) := by decide +kernel
theorem dX7_step_25 : decode cX7_step 25 = .ok (.iconst 0, 1) := by decide +kernel
theorem dX7_step_26 : decode cX7_step 26 = .ok (.putfield 380, 3) := by decide +kernel
theorem dX7_step_29 : decode cX7_step 29 = .ok (.aload_n 0, 1) := by decide +kernel
theorem dX7_step_30 : decode cX7_step 30 = .ok (.iconst 0, 1) := by decide +kernel
theorem dX7_step_31 : decode cX7_step 31 = .ok (.putfield 377, 3) := by decide +kernel
theorem dX7_step_34 : decode cX7_step 34 = .ok (.iconst 0, 1) := by decide +kernel
theorem dX7_step_35 : decode cX7_step 35 = .ok (.istore_n 1, 1) := by decide +kernel
theorem dX7_step_36 : decode cX7_step 36 = .ok (.iload_n 1, 1) := by decide +kernel
theorem dX7_step_37 : decode cX7_step 37 = .ok (.bipush 9, 2) := by decide +kernel
theorem dX7_step_39 : decode cX7_step 39 = .ok (.if_icmp .ge 16, 3) := by decide +kernel
theorem dX7_step_42 : decode cX7_step 42 = .ok (.aload_n 0, 1) := by decide +kernel
theorem dX7_step_43 : decode cX7_step 43 = .ok (.getfield 116, 3) := by decide +kernel
theorem dX7_step_46 : decode cX7_step 46 = .ok (.iload_n 1, 1) := by decide +kernel
theorem dX7_step_47 : decode cX7_step 47 = .ok (.lconst 0, 1) := by decide +kernel
theorem dX7_step_48 : decode cX7_step 48 = .ok (.lastore, 1) := by decide +kernel
theorem dX7_step_49 : decode cX7_step 49 = .ok (.iinc 1 1, 3) := by decide +kernel
theorem dX7_step_52 : decode cX7_step 52 = .ok (.goto (-16), 3) := by decide +kernel
theorem dX7_step_55 : decode cX7_step 55 = .ok (.iconst 0, 1) := by decide +kernel
theorem dX7_step_56 : decode cX7_step 56 = .ok (.istore_n 1, 1) := by decide +kernel
theorem dX7_step_57 : decode cX7_step 57 = .ok (.iload_n 1, 1) := by decide +kernel
theorem dX7_step_58 : decode cX7_step 58 = .ok (.aload_n 0, 1) := by decide +kernel
theorem dX7_step_59 : decode cX7_step 59 = .ok (.getfield 346, 3) := by decide +kernel
theorem dX7_step_62 : decode cX7_step 62 = .ok (.if_icmp .ge 34, 3) := by decide +kernel
theorem dX7_step_65 : decode cX7_step 65 = .ok (.aload_n 0, 1) := by decide +kernel
theorem dX7_step_66 : decode cX7_step 66 = .ok (.getfield 116, 3) := by decide +kernel
theorem dX7_step_69 : decode cX7_step 69 = .ok (.iload_n 1, 1) := by decide +kernel
theorem dX7_step_70 : decode cX7_step 70 = .ok (.bipush 64, 2) := by decide +kernel
theorem dX7_step_72 : decode cX7_step 72 = .ok (.idiv, 1) := by decide +kernel
theorem dX7_step_73 : decode cX7_step 73 = .ok (.aload_n 0, 1) := by decide +kernel
theorem dX7_step_74 : decode cX7_step 74 = .ok (.getfield 116, 3) := by decide +kernel
theorem dX7_step_77 : decode cX7_step 77 = .ok (.iload_n 1, 1) := by decide +kernel
theorem dX7_step_78 : decode cX7_step 78 = .ok (.bipush 64, 2) := by decide +kernel
theorem dX7_step_80 : decode cX7_step 80 = .ok (.idiv, 1) := by decide +kernel
theorem dX7_step_81 : decode cX7_step 81 = .ok (.laload, 1) := by decide +kernel
theorem dX7_step_82 : decode cX7_step 82 = .ok (.lconst 1, 1) := by decide +kernel
theorem dX7_step_83 : decode cX7_step 83 = .ok (.iload_n 1, 1) := by decide +kernel
theorem dX7_step_84 : decode cX7_step 84 = .ok (.bipush 64, 2) := by decide +kernel
theorem dX7_step_86 : decode cX7_step 86 = .ok (.irem, 1) := by decide +kernel
theorem dX7_step_87 : decode cX7_step 87 = .ok (.lshl, 1) := by decide +kernel
theorem dX7_step_88 : decode cX7_step 88 = .ok (.lor, 1) := by decide +kernel
theorem dX7_step_89 : decode cX7_step 89 = .ok (.lastore, 1) := by decide +kernel
theorem dX7_step_90 : decode cX7_step 90 = .ok (.iinc 1 1, 3) := by decide +kernel
theorem dX7_step_93 : decode cX7_step 93 = .ok (.goto (-36), 3) := by decide +kernel
theorem dX7_step_96 : decode cX7_step 96 = .ok (.aload_n 0, 1) := by decide +kernel
theorem dX7_step_97 : decode cX7_step 97 = .ok (.iconst 0, 1) := by decide +kernel
theorem dX7_step_98 : decode cX7_step 98 = .ok (.iconst 0, 1) := by decide +kernel
theorem dX7_step_99 : decode cX7_step 99 = .ok (.invokevirtual 383, 3) := by decide +kernel
theorem dX7_step_102 : decode cX7_step 102 = .ok (.aload_n 0, 1) := by decide +kernel
theorem dX7_step_103 : decode cX7_step 103 = .ok (.iconst 0, 1) := by decide +kernel
theorem dX7_step_104 : decode cX7_step 104 = .ok (.invokevirtual 386, 3) := by decide +kernel
theorem dX7_step_107 : decode cX7_step 107 = .ok (.ifCond .eq 5, 3) := by decide +kernel
theorem dX7_step_110 : decode cX7_step 110 = .ok (.iconst 0, 1) := by decide +kernel
theorem dX7_step_111 : decode cX7_step 111 = .ok (.ireturn, 1) := by decide +kernel
theorem dX7_step_112 : decode cX7_step 112 = .ok (.iconst 0, 1) := by decide +kernel
theorem dX7_step_113 : decode cX7_step 113 = .ok (.istore_n 1, 1) := by decide +kernel
theorem dX7_step_114 : decode cX7_step 114 = .ok (.iload_n 1, 1) := by decide +kernel
theorem dX7_step_115 : decode cX7_step 115 = .ok (.aload_n 0, 1) := by decide +kernel
theorem dX7_step_116 : decode cX7_step 116 = .ok (.getfield 377, 3) := by decide +kernel
theorem dX7_step_119 : decode cX7_step 119 = .ok (.if_icmp .ge 84, 3) := by decide +kernel
theorem dX7_step_122 : decode cX7_step 122 = .ok (.iconst 0, 1) := by decide +kernel
theorem dX7_step_123 : decode cX7_step 123 = .ok (.istore_n 2, 1) := by decide +kernel
theorem dX7_step_124 : decode cX7_step 124 = .ok (.iload_n 2, 1) := by decide +kernel
theorem dX7_step_125 : decode cX7_step 125 = .ok (.aload_n 0, 1) := by decide +kernel
theorem dX7_step_126 : decode cX7_step 126 = .ok (.getfield 137, 3) := by decide +kernel
theorem dX7_step_129 : decode cX7_step 129 = .ok (.if_icmp .ge 68, 3) := by decide +kernel
theorem dX7_step_132 : decode cX7_step 132 = .ok (.aload_n 0, 1) := by decide +kernel
theorem dX7_step_133 : decode cX7_step 133 = .ok (.iload_n 1, 1) := by decide +kernel
theorem dX7_step_134 : decode cX7_step 134 = .ok (.iload_n 2, 1) := by decide +kernel
theorem dX7_step_135 : decode cX7_step 135 = .ok (.invokevirtual 389, 3) := by decide +kernel
theorem dX7_step_138 : decode cX7_step 138 = .ok (.ifCond .eq 53, 3) := by decide +kernel
theorem dX7_step_141 : decode cX7_step 141 = .ok (.aload_n 0, 1) := by decide +kernel
theorem dX7_step_142 : decode cX7_step 142 = .ok (.invokevirtual 393, 3) := by decide +kernel
theorem dX7_step_145 : decode cX7_step 145 = .ok (.ifCond .ne 46, 3) := by decide +kernel
theorem dX7_step_148 : decode cX7_step 148 = .ok (.aload_n 0, 1) := by decide +kernel
theorem dX7_step_149 : decode cX7_step 149 = .ok (.getfield 377, 3) := by decide +kernel
theorem dX7_step_152 : decode cX7_step 152 = .ok (.sipush 2000, 3) := by decide +kernel
theorem dX7_step_155 : decode cX7_step 155 = .ok (.if_icmp .ne 6, 3) := by decide +kernel
theorem dX7_step_158 : decode cX7_step 158 = .ok (.bipush (-7), 2) := by decide +kernel
theorem dX7_step_160 : decode cX7_step 160 = .ok (.ireturn, 1) := by decide +kernel
theorem dX7_step_161 : decode cX7_step 161 = .ok (.aload_n 0, 1) := by decide +kernel
theorem dX7_step_162 : decode cX7_step 162 = .ok (.iload_n 1, 1) := by decide +kernel
theorem dX7_step_163 : decode cX7_step 163 = .ok (.iload_n 2, 1) := by decide +kernel
theorem dX7_step_164 : decode cX7_step 164 = .ok (.invokevirtual 383, 3) := by decide +kernel
theorem dX7_step_167 : decode cX7_step 167 = .ok (.aload_n 0, 1) := by decide +kernel
theorem dX7_step_168 : decode cX7_step 168 = .ok (.aload_n 0, 1) := by decide +kernel
theorem dX7_step_169 : decode cX7_step 169 = .ok (.getfield 377, 3) := by decide +kernel
theorem dX7_step_172 : decode cX7_step 172 = .ok (.iconst 1, 1) := by decide +kernel
theorem dX7_step_173 : decode cX7_step 173 = .ok (.isub, 1) := by decide +kernel
theorem dX7_step_174 : decode cX7_step 174 = .ok (.invokevirtual 386, 3) := by decide +kernel
theorem dX7_step_177 : decode cX7_step 177 = .ok (.ifCond .eq 14, 3) := by decide +kernel
theorem dX7_step_180 : decode cX7_step 180 = .ok (.aload_n 0, 1) := by decide +kernel
theorem dX7_step_181 : decode cX7_step 181 = .ok (.aload_n 0, 1) := by decide +kernel
theorem dX7_step_182 : decode cX7_step 182 = .ok (.getfield 377, 3) := by decide +kernel
theorem dX7_step_185 : decode cX7_step 185 = .ok (.iconst 1, 1) := by decide +kernel
theorem dX7_step_186 : decode cX7_step 186 = .ok (.isub, 1) := by decide +kernel
theorem dX7_step_187 : decode cX7_step 187 = .ok (.invokevirtual 396, 3) := by decide +kernel
theorem dX7_step_190 : decode cX7_step 190 = .ok (.ireturn, 1) := by decide +kernel
theorem dX7_step_191 : decode cX7_step 191 = .ok (.iinc 2 1, 3) := by decide +kernel
theorem dX7_step_194 : decode cX7_step 194 = .ok (.goto (-70), 3) := by decide +kernel
theorem dX7_step_197 : decode cX7_step 197 = .ok (.iinc 1 1, 3) := by decide +kernel
theorem dX7_step_200 : decode cX7_step 200 = .ok (.goto (-86), 3) := by decide +kernel
theorem dX7_step_203 : decode cX7_step 203 = .ok (.bipush (-6), 2) := by decide +kernel
theorem dX7_step_205 : decode cX7_step 205 = .ok (.ireturn, 1) := by decide +kernel
theorem dX7_stepSign_0 : decode cX7_stepSign 0 = .ok (.iload_n 1, 1) := by decide +kernel
theorem dX7_stepSign_1 : decode cX7_stepSign 1 = .ok (.i2l, 1) := by decide +kernel
theorem dX7_stepSign_2 : decode cX7_stepSign 2 = .ok (.lconst 0, 1) := by decide +kernel
theorem dX7_stepSign_3 : decode cX7_stepSign 3 = .ok (.aload_n 0, 1) := by decide +kernel
theorem dX7_stepSign_4 : decode cX7_stepSign 4 = .ok (.getfield 380, 3) := by decide +kernel
theorem dX7_stepSign_7 : decode cX7_stepSign 7 = .ok (.iconst 1, 1) := by decide +kernel
theorem dX7_stepSign_8 : decode cX7_stepSign 8 = .ok (.isub, 1) := by decide +kernel
theorem dX7_stepSign_9 : decode cX7_stepSign 9 = .ok (.i2l, 1) := by decide +kernel
theorem dX7_stepSign_10 : decode cX7_stepSign 10 = .ok (.invokestatic 133, 3) := by decide +kernel
theorem dX7_stepSign_13 : decode cX7_stepSign 13 = .ok (.ifCond .eq 12, 3) := by decide +kernel
theorem dX7_stepSign_16 : decode cX7_stepSign 16 = .ok (.aload_n 0, 1) := by decide +kernel
theorem dX7_stepSign_17 : decode cX7_stepSign 17 = .ok (.getfield 119, 3) := by decide +kernel
theorem dX7_stepSign_20 : decode cX7_stepSign 20 = .ok (.iload_n 1, 1) := by decide +kernel
theorem dX7_stepSign_21 : decode cX7_stepSign 21 = .ok (.iaload, 1) := by decide +kernel
theorem dX7_stepSign_22 : decode cX7_stepSign 22 = .ok (.goto 5, 3) := by decide +kernel
theorem dX7_stepSign_25 : decode cX7_stepSign 25 = .ok (.bipush (-6), 2) := by decide +kernel
theorem dX7_stepSign_27 : decode cX7_stepSign 27 = .ok (.ireturn, 1) := by decide +kernel
theorem dX7_keep_0 : decode cX7_keep 0 = .ok (.iload_n 1, 1) := by decide +kernel
theorem dX7_keep_1 : decode cX7_keep 1 = .ok (.i2l, 1) := by decide +kernel
theorem dX7_keep_2 : decode cX7_keep 2 = .ok (.lconst 0, 1) := by decide +kernel
theorem dX7_keep_3 : decode cX7_keep 3 = .ok (.ldc2_w 399, 3) := by decide +kernel
theorem dX7_keep_6 : decode cX7_keep 6 = .ok (.invokestatic 133, 3) := by decide +kernel
theorem dX7_keep_9 : decode cX7_keep 9 = .ok (.ifCond .ne 5, 3) := by decide +kernel
theorem dX7_keep_12 : decode cX7_keep 12 = .ok (.iconst (-1), 1) := by decide +kernel
theorem dX7_keep_13 : decode cX7_keep 13 = .ok (.ireturn, 1) := by decide +kernel
theorem dX7_keep_14 : decode cX7_keep 14 = .ok (.aload_n 0, 1) := by decide +kernel
theorem dX7_keep_15 : decode cX7_keep 15 = .ok (.getfield 140, 3) := by decide +kernel
theorem dX7_keep_18 : decode cX7_keep 18 = .ok (.ifCond .ne 6, 3) := by decide +kernel
theorem dX7_keep_21 : decode cX7_keep 21 = .ok (.bipush (-3), 2) := by decide +kernel
theorem dX7_keep_23 : decode cX7_keep 23 = .ok (.ireturn, 1) := by decide +kernel
theorem dX7_keep_24 : decode cX7_keep 24 = .ok (.iconst 0, 1) := by decide +kernel
theorem dX7_keep_25 : decode cX7_keep 25 = .ok (.istore_n 2, 1) := by decide +kernel
theorem dX7_keep_26 : decode cX7_keep 26 = .ok (.iload_n 2, 1) := by decide +kernel
theorem dX7_keep_27 : decode cX7_keep 27 = .ok (.aload_n 0, 1) := by decide +kernel
theorem dX7_keep_28 : decode cX7_keep 28 = .ok (.getfield 154, 3) := by decide +kernel
theorem dX7_keep_31 : decode cX7_keep 31 = .ok (.if_icmp .ge 43, 3) := by decide +kernel
theorem dX7_keep_34 : decode cX7_keep 34 = .ok (.aload_n 0, 1) := by decide +kernel
theorem dX7_keep_35 : decode cX7_keep 35 = .ok (.getfield 122, 3) := by decide +kernel
theorem dX7_keep_38 : decode cX7_keep 38 = .ok (.bipush 24, 2) := by decide +kernel
theorem dX7_keep_40 : decode cX7_keep 40 = .ok (.iload_n 1, 1) := by decide +kernel
theorem dX7_keep_41 : decode cX7_keep 41 = .ok (.imul, 1) := by decide +kernel
theorem dX7_keep_42 : decode cX7_keep 42 = .ok (.iload_n 2, 1) := by decide +kernel
theorem dX7_keep_43 : decode cX7_keep 43 = .ok (.iadd, 1) := by decide +kernel
theorem dX7_keep_44 : decode cX7_keep 44 = .ok (.aload_n 0, 1) := by decide +kernel
theorem dX7_keep_45 : decode cX7_keep 45 = .ok (.getfield 16, 3) := by decide +kernel
theorem dX7_keep_48 : decode cX7_keep 48 = .ok (.iload_n 2, 1) := by decide +kernel
theorem dX7_keep_49 : decode cX7_keep 49 = .ok (.laload, 1) := by decide +kernel
theorem dX7_keep_50 : decode cX7_keep 50 = .ok (.lastore, 1) := by decide +kernel
theorem dX7_keep_51 : decode cX7_keep 51 = .ok (.aload_n 0, 1) := by decide +kernel
theorem dX7_keep_52 : decode cX7_keep 52 = .ok (.getfield 125, 3) := by decide +kernel
theorem dX7_keep_55 : decode cX7_keep 55 = .ok (.bipush 24, 2) := by decide +kernel
theorem dX7_keep_57 : decode cX7_keep 57 = .ok (.iload_n 1, 1) := by decide +kernel
theorem dX7_keep_58 : decode cX7_keep 58 = .ok (.imul, 1) := by decide +kernel
theorem dX7_keep_59 : decode cX7_keep 59 = .ok (.iload_n 2, 1) := by decide +kernel
theorem dX7_keep_60 : decode cX7_keep 60 = .ok (.iadd, 1) := by decide +kernel
theorem dX7_keep_61 : decode cX7_keep 61 = .ok (.aload_n 0, 1) := by decide +kernel
theorem dX7_keep_62 : decode cX7_keep 62 = .ok (.getfield 20, 3) := by decide +kernel
theorem dX7_keep_65 : decode cX7_keep 65 = .ok (.iload_n 2, 1) := by decide +kernel
theorem dX7_keep_66 : decode cX7_keep 66 = .ok (.iaload, 1) := by decide +kernel
theorem dX7_keep_67 : decode cX7_keep 67 = .ok (.iastore, 1) := by decide +kernel
theorem dX7_keep_68 : decode cX7_keep 68 = .ok (.iinc 2 1, 3) := by decide +kernel
theorem dX7_keep_71 : decode cX7_keep 71 = .ok (.goto (-45), 3) := by decide +kernel
theorem dX7_keep_74 : decode cX7_keep 74 = .ok (.aload_n 0, 1) := by decide +kernel
theorem dX7_keep_75 : decode cX7_keep 75 = .ok (.getfield 128, 3) := by decide +kernel
theorem dX7_keep_78 : decode cX7_keep 78 = .ok (.iload_n 1, 1) := by decide +kernel
theorem dX7_keep_79 : decode cX7_keep 79 = .ok (.aload_n 0, 1) := by decide +kernel
theorem dX7_keep_80 : decode cX7_keep 80 = .ok (.getfield 154, 3) := by decide +kernel
theorem dX7_keep_83 : decode cX7_keep 83 = .ok (.iastore, 1) := by decide +kernel
theorem dX7_keep_84 : decode cX7_keep 84 = .ok (.iconst 1, 1) := by decide +kernel
theorem dX7_keep_85 : decode cX7_keep 85 = .ok (.ireturn, 1) := by decide +kernel
theorem dX7_back_0 : decode cX7_back 0 = .ok (.iload_n 1, 1) := by decide +kernel
theorem dX7_back_1 : decode cX7_back 1 = .ok (.i2l, 1) := by decide +kernel
theorem dX7_back_2 : decode cX7_back 2 = .ok (.lconst 0, 1) := by decide +kernel
theorem dX7_back_3 : decode cX7_back 3 = .ok (.ldc2_w 399, 3) := by decide +kernel
theorem dX7_back_6 : decode cX7_back 6 = .ok (.invokestatic 133, 3) := by decide +kernel
theorem dX7_back_9 : decode cX7_back 9 = .ok (.ifCond .eq 12, 3) := by decide +kernel
theorem dX7_back_12 : decode cX7_back 12 = .ok (.aload_n 0, 1) := by decide +kernel
theorem dX7_back_13 : decode cX7_back 13 = .ok (.getfield 128, 3) := by decide +kernel
theorem dX7_back_16 : decode cX7_back 16 = .ok (.iload_n 1, 1) := by decide +kernel
theorem dX7_back_17 : decode cX7_back 17 = .ok (.iaload, 1) := by decide +kernel
theorem dX7_back_18 : decode cX7_back 18 = .ok (.ifCond .ne 5, 3) := by decide +kernel
theorem dX7_back_21 : decode cX7_back 21 = .ok (.iconst (-1), 1) := by decide +kernel
theorem dX7_back_22 : decode cX7_back 22 = .ok (.ireturn, 1) := by decide +kernel
theorem dX7_back_23 : decode cX7_back 23 = .ok (.aload_n 0, 1) := by decide +kernel
theorem dX7_back_24 : decode cX7_back 24 = .ok (.getfield 128, 3) := by decide +kernel
theorem dX7_back_27 : decode cX7_back 27 = .ok (.iload_n 1, 1) := by decide +kernel
theorem dX7_back_28 : decode cX7_back 28 = .ok (.iaload, 1) := by decide +kernel
theorem dX7_back_29 : decode cX7_back 29 = .ok (.aload_n 0, 1) := by decide +kernel
theorem dX7_back_30 : decode cX7_back 30 = .ok (.getfield 154, 3) := by decide +kernel
theorem dX7_back_33 : decode cX7_back 33 = .ok (.if_icmp .eq 6, 3) := by decide +kernel
theorem dX7_back_36 : decode cX7_back 36 = .ok (.bipush (-3), 2) := by decide +kernel
theorem dX7_back_38 : decode cX7_back 38 = .ok (.ireturn, 1) := by decide +kernel
theorem dX7_back_39 : decode cX7_back 39 = .ok (.iconst 0, 1) := by decide +kernel
theorem dX7_back_40 : decode cX7_back 40 = .ok (.istore_n 2, 1) := by decide +kernel
theorem dX7_back_41 : decode cX7_back 41 = .ok (.iload_n 2, 1) := by decide +kernel
theorem dX7_back_42 : decode cX7_back 42 = .ok (.aload_n 0, 1) := by decide +kernel
theorem dX7_back_43 : decode cX7_back 43 = .ok (.getfield 154, 3) := by decide +kernel
theorem dX7_back_46 : decode cX7_back 46 = .ok (.if_icmp .ge 43, 3) := by decide +kernel
theorem dX7_back_49 : decode cX7_back 49 = .ok (.aload_n 0, 1) := by decide +kernel
theorem dX7_back_50 : decode cX7_back 50 = .ok (.getfield 16, 3) := by decide +kernel
theorem dX7_back_53 : decode cX7_back 53 = .ok (.iload_n 2, 1) := by decide +kernel
theorem dX7_back_54 : decode cX7_back 54 = .ok (.aload_n 0, 1) := by decide +kernel
theorem dX7_back_55 : decode cX7_back 55 = .ok (.getfield 122, 3) := by decide +kernel
theorem dX7_back_58 : decode cX7_back 58 = .ok (.bipush 24, 2) := by decide +kernel
theorem dX7_back_60 : decode cX7_back 60 = .ok (.iload_n 1, 1) := by decide +kernel
theorem dX7_back_61 : decode cX7_back 61 = .ok (.imul, 1) := by decide +kernel
theorem dX7_back_62 : decode cX7_back 62 = .ok (.iload_n 2, 1) := by decide +kernel
theorem dX7_back_63 : decode cX7_back 63 = .ok (.iadd, 1) := by decide +kernel
theorem dX7_back_64 : decode cX7_back 64 = .ok (.laload, 1) := by decide +kernel
theorem dX7_back_65 : decode cX7_back 65 = .ok (.lastore, 1) := by decide +kernel
theorem dX7_back_66 : decode cX7_back 66 = .ok (.aload_n 0, 1) := by decide +kernel
theorem dX7_back_67 : decode cX7_back 67 = .ok (.getfield 20, 3) := by decide +kernel
theorem dX7_back_70 : decode cX7_back 70 = .ok (.iload_n 2, 1) := by decide +kernel
theorem dX7_back_71 : decode cX7_back 71 = .ok (.aload_n 0, 1) := by decide +kernel
theorem dX7_back_72 : decode cX7_back 72 = .ok (.getfield 125, 3) := by decide +kernel
theorem dX7_back_75 : decode cX7_back 75 = .ok (.bipush 24, 2) := by decide +kernel
theorem dX7_back_77 : decode cX7_back 77 = .ok (.iload_n 1, 1) := by decide +kernel
theorem dX7_back_78 : decode cX7_back 78 = .ok (.imul, 1) := by decide +kernel
theorem dX7_back_79 : decode cX7_back 79 = .ok (.iload_n 2, 1) := by decide +kernel
theorem dX7_back_80 : decode cX7_back 80 = .ok (.iadd, 1) := by decide +kernel
theorem dX7_back_81 : decode cX7_back 81 = .ok (.iaload, 1) := by decide +kernel
theorem dX7_back_82 : decode cX7_back 82 = .ok (.iastore, 1) := by decide +kernel
theorem dX7_back_83 : decode cX7_back 83 = .ok (.iinc 2 1, 3) := by decide +kernel
theorem dX7_back_86 : decode cX7_back 86 = .ok (.goto (-45), 3) := by decide +kernel
theorem dX7_back_89 : decode cX7_back 89 = .ok (.aload_n 0, 1) := by decide +kernel
theorem dX7_back_90 : decode cX7_back 90 = .ok (.invokevirtual 319, 3) := by decide +kernel
theorem dX7_back_93 : decode cX7_back 93 = .ok (.iconst 1, 1) := by decide +kernel
theorem dX7_back_94 : decode cX7_back 94 = .ok (.ireturn, 1) := by decide +kernel
theorem dX7_differs_0 : decode cX7_differs 0 = .ok (.iload_n 1, 1) := by decide +kernel
theorem dX7_differs_1 : decode cX7_differs 1 = .ok (.i2l, 1) := by decide +kernel
theorem dX7_differs_2 : decode cX7_differs 2 = .ok (.lconst 0, 1) := by decide +kernel
theorem dX7_differs_3 : decode cX7_differs 3 = .ok (.ldc2_w 399, 3) := by decide +kernel
theorem dX7_differs_6 : decode cX7_differs 6 = .ok (.invokestatic 133, 3) := by decide +kernel
theorem dX7_differs_9 : decode cX7_differs 9 = .ok (.ifCond .eq 12, 3) := by decide +kernel
theorem dX7_differs_12 : decode cX7_differs 12 = .ok (.aload_n 0, 1) := by decide +kernel
theorem dX7_differs_13 : decode cX7_differs 13 = .ok (.getfield 128, 3) := by decide +kernel
theorem dX7_differs_16 : decode cX7_differs 16 = .ok (.iload_n 1, 1) := by decide +kernel
theorem dX7_differs_17 : decode cX7_differs 17 = .ok (.iaload, 1) := by decide +kernel
theorem dX7_differs_18 : decode cX7_differs 18 = .ok (.ifCond .ne 5, 3) := by decide +kernel
theorem dX7_differs_21 : decode cX7_differs 21 = .ok (.iconst (-1), 1) := by decide +kernel
theorem dX7_differs_22 : decode cX7_differs 22 = .ok (.ireturn, 1) := by decide +kernel
theorem dX7_differs_23 : decode cX7_differs 23 = .ok (.aload_n 0, 1) := by decide +kernel
theorem dX7_differs_24 : decode cX7_differs 24 = .ok (.getfield 140, 3) := by decide +kernel
theorem dX7_differs_27 : decode cX7_differs 27 = .ok (.ifCond .ne 6, 3) := by decide +kernel
theorem dX7_differs_30 : decode cX7_differs 30 = .ok (.bipush (-3), 2) := by decide +kernel
theorem dX7_differs_32 : decode cX7_differs 32 = .ok (.ireturn, 1) := by decide +kernel
theorem dX7_differs_33 : decode cX7_differs 33 = .ok (.iconst 0, 1) := by decide +kernel
theorem dX7_differs_34 : decode cX7_differs 34 = .ok (.istore_n 2, 1) := by decide +kernel
theorem dX7_differs_35 : decode cX7_differs 35 = .ok (.iload_n 2, 1) := by decide +kernel
theorem dX7_differs_36 : decode cX7_differs 36 = .ok (.aload_n 0, 1) := by decide +kernel
theorem dX7_differs_37 : decode cX7_differs 37 = .ok (.getfield 154, 3) := by decide +kernel
theorem dX7_differs_40 : decode cX7_differs 40 = .ok (.if_icmp .ge 62, 3) := by decide +kernel
theorem dX7_differs_43 : decode cX7_differs 43 = .ok (.iload_n 2, 1) := by decide +kernel
theorem dX7_differs_44 : decode cX7_differs 44 = .ok (.aload_n 0, 1) := by decide +kernel
theorem dX7_differs_45 : decode cX7_differs 45 = .ok (.getfield 128, 3) := by decide +kernel
theorem dX7_differs_48 : decode cX7_differs 48 = .ok (.iload_n 1, 1) := by decide +kernel
theorem dX7_differs_49 : decode cX7_differs 49 = .ok (.iaload, 1) := by decide +kernel
theorem dX7_differs_50 : decode cX7_differs 50 = .ok (.if_icmp .ge 52, 3) := by decide +kernel
theorem dX7_differs_53 : decode cX7_differs 53 = .ok (.aload_n 0, 1) := by decide +kernel
theorem dX7_differs_54 : decode cX7_differs 54 = .ok (.getfield 16, 3) := by decide +kernel
theorem dX7_differs_57 : decode cX7_differs 57 = .ok (.iload_n 2, 1) := by decide +kernel
theorem dX7_differs_58 : decode cX7_differs 58 = .ok (.laload, 1) := by decide +kernel
theorem dX7_differs_59 : decode cX7_differs 59 = .ok (.aload_n 0, 1) := by decide +kernel
theorem dX7_differs_60 : decode cX7_differs 60 = .ok (.getfield 122, 3) := by decide +kernel
theorem dX7_differs_63 : decode cX7_differs 63 = .ok (.bipush 24, 2) := by decide +kernel
theorem dX7_differs_65 : decode cX7_differs 65 = .ok (.iload_n 1, 1) := by decide +kernel
theorem dX7_differs_66 : decode cX7_differs 66 = .ok (.imul, 1) := by decide +kernel
theorem dX7_differs_67 : decode cX7_differs 67 = .ok (.iload_n 2, 1) := by decide +kernel
theorem dX7_differs_68 : decode cX7_differs 68 = .ok (.iadd, 1) := by decide +kernel
theorem dX7_differs_69 : decode cX7_differs 69 = .ok (.laload, 1) := by decide +kernel
theorem dX7_differs_70 : decode cX7_differs 70 = .ok (.lcmp, 1) := by decide +kernel
theorem dX7_differs_71 : decode cX7_differs 71 = .ok (.ifCond .ne 23, 3) := by decide +kernel
theorem dX7_differs_74 : decode cX7_differs 74 = .ok (.aload_n 0, 1) := by decide +kernel
theorem dX7_differs_75 : decode cX7_differs 75 = .ok (.getfield 20, 3) := by decide +kernel
theorem dX7_differs_78 : decode cX7_differs 78 = .ok (.iload_n 2, 1) := by decide +kernel
theorem dX7_differs_79 : decode cX7_differs 79 = .ok (.iaload, 1) := by decide +kernel
theorem dX7_differs_80 : decode cX7_differs 80 = .ok (.aload_n 0, 1) := by decide +kernel
theorem dX7_differs_81 : decode cX7_differs 81 = .ok (.getfield 125, 3) := by decide +kernel
theorem dX7_differs_84 : decode cX7_differs 84 = .ok (.bipush 24, 2) := by decide +kernel
theorem dX7_differs_86 : decode cX7_differs 86 = .ok (.iload_n 1, 1) := by decide +kernel
theorem dX7_differs_87 : decode cX7_differs 87 = .ok (.imul, 1) := by decide +kernel
theorem dX7_differs_88 : decode cX7_differs 88 = .ok (.iload_n 2, 1) := by decide +kernel
theorem dX7_differs_89 : decode cX7_differs 89 = .ok (.iadd, 1) := by decide +kernel
theorem dX7_differs_90 : decode cX7_differs 90 = .ok (.iaload, 1) := by decide +kernel
theorem dX7_differs_91 : decode cX7_differs 91 = .ok (.if_icmp .eq 5, 3) := by decide +kernel
theorem dX7_differs_94 : decode cX7_differs 94 = .ok (.iload_n 2, 1) := by decide +kernel
theorem dX7_differs_95 : decode cX7_differs 95 = .ok (.ireturn, 1) := by decide +kernel
theorem dX7_differs_96 : decode cX7_differs 96 = .ok (.iinc 2 1, 3) := by decide +kernel
theorem dX7_differs_99 : decode cX7_differs 99 = .ok (.goto (-64), 3) := by decide +kernel
theorem dX7_differs_102 : decode cX7_differs 102 = .ok (.bipush (-6), 2) := by decide +kernel
theorem dX7_differs_104 : decode cX7_differs 104 = .ok (.ireturn, 1) := by decide +kernel
theorem dX7_told_0 : decode cX7_told 0 = .ok (.iload_n 1, 1) := by decide +kernel
theorem dX7_told_1 : decode cX7_told 1 = .ok (.tableswitch 136 0 6 #[43, 48, 53, 58, 71, 96, 101], 43) := by decide +kernel
theorem dX7_told_44 : decode cX7_told 44 = .ok (.aload_n 0, 1) := by decide +kernel
theorem dX7_told_45 : decode cX7_told 45 = .ok (.getfield 137, 3) := by decide +kernel
theorem dX7_told_48 : decode cX7_told 48 = .ok (.ireturn, 1) := by decide +kernel
theorem dX7_told_49 : decode cX7_told 49 = .ok (.aload_n 0, 1) := by decide +kernel
theorem dX7_told_50 : decode cX7_told 50 = .ok (.getfield 154, 3) := by decide +kernel
theorem dX7_told_53 : decode cX7_told 53 = .ok (.ireturn, 1) := by decide +kernel
theorem dX7_told_54 : decode cX7_told 54 = .ok (.aload_n 0, 1) := by decide +kernel
theorem dX7_told_55 : decode cX7_told 55 = .ok (.getfield 144, 3) := by decide +kernel
theorem dX7_told_58 : decode cX7_told 58 = .ok (.ireturn, 1) := by decide +kernel
theorem dX7_told_59 : decode cX7_told 59 = .ok (.aload_n 0, 1) := by decide +kernel
theorem dX7_told_60 : decode cX7_told 60 = .ok (.getfield 140, 3) := by decide +kernel
theorem dX7_told_63 : decode cX7_told 63 = .ok (.ifCond .eq 7, 3) := by decide +kernel
theorem dX7_told_66 : decode cX7_told 66 = .ok (.iconst 1, 1) := by decide +kernel
theorem dX7_told_67 : decode cX7_told 67 = .ok (.goto 4, 3) := by decide +kernel
theorem dX7_told_70 : decode cX7_told 70 = .ok (.iconst 0, 1) := by decide +kernel
theorem dX7_told_71 : decode cX7_told 71 = .ok (.ireturn, 1) := by decide +kernel
theorem dX7_told_72 : decode cX7_told 72 = .ok (.aload_n 0, 1) := by decide +kernel
theorem dX7_told_73 : decode cX7_told 73 = .ok (.getfield 140, 3) := by decide +kernel
theorem dX7_told_76 : decode cX7_told 76 = .ok (.ifCond .eq 10, 3) := by decide +kernel
theorem dX7_told_79 : decode cX7_told 79 = .ok (.aload_n 0, 1) := by decide +kernel
theorem dX7_told_80 : decode cX7_told 80 = .ok (.invokevirtual 359, 3) := by decide +kernel
theorem dX7_told_83 : decode cX7_told 83 = .ok (.ifCond .ne 5, 3) := by decide +kernel
theorem dX7_told_86 : decode cX7_told 86 = .ok (.iconst 0, 1) := by decide +kernel
theorem dX7_told_87 : decode cX7_told 87 = .ok (.ireturn, 1) := by decide +kernel
theorem dX7_told_88 : decode cX7_told 88 = .ok (.aload_n 0, 1) := by decide +kernel
theorem dX7_told_89 : decode cX7_told 89 = .ok (.invokevirtual 362, 3) := by decide +kernel
theorem dX7_told_92 : decode cX7_told 92 = .ok (.aload_n 0, 1) := by decide +kernel
theorem dX7_told_93 : decode cX7_told 93 = .ok (.getfield 346, 3) := by decide +kernel
theorem dX7_told_96 : decode cX7_told 96 = .ok (.ireturn, 1) := by decide +kernel
theorem dX7_told_97 : decode cX7_told 97 = .ok (.aload_n 0, 1) := by decide +kernel
theorem dX7_told_98 : decode cX7_told 98 = .ok (.getfield 377, 3) := by decide +kernel
theorem dX7_told_101 : decode cX7_told 101 = .ok (.ireturn, 1) := by decide +kernel
theorem dX7_told_102 : decode cX7_told 102 = .ok (.iconst 0, 1) := by decide +kernel
theorem dX7_told_103 : decode cX7_told 103 = .ok (.istore_n 2, 1) := by decide +kernel
theorem dX7_told_104 : decode cX7_told 104 = .ok (.iconst 0, 1) := by decide +kernel
theorem dX7_told_105 : decode cX7_told 105 = .ok (.istore_n 3, 1) := by decide +kernel
theorem dX7_told_106 : decode cX7_told 106 = .ok (.iload_n 3, 1) := by decide +kernel
theorem dX7_told_107 : decode cX7_told 107 = .ok (.bipush 8, 2) := by decide +kernel
theorem dX7_told_109 : decode cX7_told 109 = .ok (.if_icmp .ge 26, 3) := by decide +kernel
theorem dX7_told_112 : decode cX7_told 112 = .ok (.iload_n 2, 1) := by decide +kernel
theorem dX7_told_113 : decode cX7_told 113 = .ok (.aload_n 0, 1) := by decide +kernel
theorem dX7_told_114 : decode cX7_told 114 = .ok (.getfield 128, 3) := by decide +kernel
theorem dX7_told_117 : decode cX7_told 117 = .ok (.iload_n 3, 1) := by decide +kernel
theorem dX7_told_118 : decode cX7_told 118 = .ok (.iaload, 1) := by decide +kernel
theorem dX7_told_119 : decode cX7_told 119 = .ok (.ifCond .le 7, 3) := by decide +kernel
theorem dX7_told_122 : decode cX7_told 122 = .ok (.iconst 1, 1) := by decide +kernel
theorem dX7_told_123 : decode cX7_told 123 = .ok (.goto 4, 3) := by decide +kernel
theorem dX7_told_126 : decode cX7_told 126 = .ok (.iconst 0, 1) := by decide +kernel
theorem dX7_told_127 : decode cX7_told 127 = .ok (.iadd, 1) := by decide +kernel
theorem dX7_told_128 : decode cX7_told 128 = .ok (.istore_n 2, 1) := by decide +kernel
theorem dX7_told_129 : decode cX7_told 129 = .ok (.iinc 3 1, 3) := by decide +kernel
theorem dX7_told_132 : decode cX7_told 132 = .ok (.goto (-26), 3) := by decide +kernel
theorem dX7_told_135 : decode cX7_told 135 = .ok (.iload_n 2, 1) := by decide +kernel
theorem dX7_told_136 : decode cX7_told 136 = .ok (.ireturn, 1) := by decide +kernel
theorem dX7_told_137 : decode cX7_told 137 = .ok (.bipush (-2), 2) := by decide +kernel
theorem dX7_told_139 : decode cX7_told 139 = .ok (.ireturn, 1) := by decide +kernel
theorem dX7_price_0 : decode cX7_price 0 = .ok (.aload_n 0, 1) := by decide +kernel
theorem dX7_price_1 : decode cX7_price 1 = .ok (.iload_n 1, 1) := by decide +kernel
theorem dX7_price_2 : decode cX7_price 2 = .ok (.invokevirtual 299, 3) := by decide +kernel
theorem dX7_price_5 : decode cX7_price 5 = .ok (.ifCond .eq 12, 3) := by decide +kernel
theorem dX7_price_8 : decode cX7_price 8 = .ok (.aload_n 0, 1) := by decide +kernel
theorem dX7_price_9 : decode cX7_price 9 = .ok (.getfield 7, 3) := by decide +kernel
theorem dX7_price_12 : decode cX7_price 12 = .ok (.iload_n 1, 1) := by decide +kernel
theorem dX7_price_13 : decode cX7_price 13 = .ok (.iaload, 1) := by decide +kernel
theorem dX7_price_14 : decode cX7_price 14 = .ok (.goto 4, 3) := by decide +kernel
theorem dX7_price_17 : decode cX7_price 17 = .ok (.iconst (-1), 1) := by decide +kernel
theorem dX7_price_18 : decode cX7_price 18 = .ok (.ireturn, 1) := by decide +kernel
theorem dX7_rank_0 : decode cX7_rank 0 = .ok (.iload_n 1, 1) := by decide +kernel
theorem dX7_rank_1 : decode cX7_rank 1 = .ok (.i2l, 1) := by decide +kernel
theorem dX7_rank_2 : decode cX7_rank 2 = .ok (.lconst 0, 1) := by decide +kernel
theorem dX7_rank_3 : decode cX7_rank 3 = .ok (.aload_n 0, 1) := by decide +kernel
theorem dX7_rank_4 : decode cX7_rank 4 = .ok (.getfield 154, 3) := by decide +kernel
theorem dX7_rank_7 : decode cX7_rank 7 = .ok (.iconst 1, 1) := by decide +kernel
theorem dX7_rank_8 : decode cX7_rank 8 = .ok (.isub, 1) := by decide +kernel
theorem dX7_rank_9 : decode cX7_rank 9 = .ok (.i2l, 1) := by decide +kernel
theorem dX7_rank_10 : decode cX7_rank 10 = .ok (.invokestatic 133, 3) := by decide +kernel
theorem dX7_rank_13 : decode cX7_rank 13 = .ok (.ifCond .ne 5, 3) := by decide +kernel
theorem dX7_rank_16 : decode cX7_rank 16 = .ok (.iconst (-1), 1) := by decide +kernel
theorem dX7_rank_17 : decode cX7_rank 17 = .ok (.ireturn, 1) := by decide +kernel
theorem dX7_rank_18 : decode cX7_rank 18 = .ok (.aload_n 0, 1) := by decide +kernel
theorem dX7_rank_19 : decode cX7_rank 19 = .ok (.aload_n 0, 1) := by decide +kernel
theorem dX7_rank_20 : decode cX7_rank 20 = .ok (.getfield 13, 3) := by decide +kernel
theorem dX7_rank_23 : decode cX7_rank 23 = .ok (.invokevirtual 217, 3) := by decide +kernel
theorem dX7_rank_26 : decode cX7_rank 26 = .ok (.aload_n 0, 1) := by decide +kernel
theorem dX7_rank_27 : decode cX7_rank 27 = .ok (.getfield 26, 3) := by decide +kernel
theorem dX7_rank_30 : decode cX7_rank 30 = .ok (.iload_n 1, 1) := by decide +kernel
theorem dX7_rank_31 : decode cX7_rank 31 = .ok (.iaload, 1) := by decide +kernel
theorem dX7_rank_32 : decode cX7_rank 32 = .ok (.ireturn, 1) := by decide +kernel
theorem dJxe99ae_isNaN_b9ae7_0 : decode cJxe99ae_isNaN_b9ae7 0 = .ok (.dload_n 0, 1) := by decide +kernel
theorem dJxe99ae_isNaN_b9ae7_1 : decode cJxe99ae_isNaN_b9ae7 1 = .ok (.dload_n 0, 1) := by decide +kernel
theorem dJxe99ae_isNaN_b9ae7_2 : decode cJxe99ae_isNaN_b9ae7 2 = .ok (.dcmp .l, 1) := by decide +kernel
theorem dJxe99ae_isNaN_b9ae7_3 : decode cJxe99ae_isNaN_b9ae7 3 = .ok (.ifCond .eq 7, 3) := by decide +kernel
theorem dJxe99ae_isNaN_b9ae7_6 : decode cJxe99ae_isNaN_b9ae7 6 = .ok (.iconst 1, 1) := by decide +kernel
theorem dJxe99ae_isNaN_b9ae7_7 : decode cJxe99ae_isNaN_b9ae7 7 = .ok (.goto 4, 3) := by decide +kernel
theorem dJxe99ae_isNaN_b9ae7_10 : decode cJxe99ae_isNaN_b9ae7 10 = .ok (.iconst 0, 1) := by decide +kernel
theorem dJxe99ae_isNaN_b9ae7_11 : decode cJxe99ae_isNaN_b9ae7 11 = .ok (.ireturn, 1) := by decide +kernel
theorem dJxe99ae_doubleToLongBits_ccdee_0 : decode cJxe99ae_doubleToLongBits_ccdee 0 = .ok (.dload_n 0, 1) := by decide +kernel
theorem dJxe99ae_doubleToLongBits_ccdee_1 : decode cJxe99ae_doubleToLongBits_ccdee 1 = .ok (.invokestatic 122, 3) := by decide +kernel
theorem dJxe99ae_doubleToLongBits_ccdee_4 : decode cJxe99ae_doubleToLongBits_ccdee 4 = .ok (.ifCond .ne 8, 3) := by decide +kernel
theorem dJxe99ae_doubleToLongBits_ccdee_7 : decode cJxe99ae_doubleToLongBits_ccdee 7 = .ok (.dload_n 0, 1) := by decide +kernel
theorem dJxe99ae_doubleToLongBits_ccdee_8 : decode cJxe99ae_doubleToLongBits_ccdee 8 = .ok (.invokestatic 134, 3) := by decide +kernel
theorem dJxe99ae_doubleToLongBits_ccdee_11 : decode cJxe99ae_doubleToLongBits_ccdee 11 = .ok (.lreturn, 1) := by decide +kernel
theorem dJxe99ae_doubleToLongBits_ccdee_12 : decode cJxe99ae_doubleToLongBits_ccdee 12 = .ok (.ldc2_w 137, 3) := by decide +kernel
theorem dJxe99ae_doubleToLongBits_ccdee_15 : decode cJxe99ae_doubleToLongBits_ccdee 15 = .ok (.lreturn, 1) := by decide +kernel
theorem dJ6_numberOfLeadingZeros_0f7a4_0 : decode cJ6_numberOfLeadingZeros_0f7a4 0 = .ok (.iload_n 0, 1) := by decide +kernel
theorem dJ6_numberOfLeadingZeros_0f7a4_1 : decode cJ6_numberOfLeadingZeros_0f7a4 1 = .ok (.ifCond .gt 14, 3) := by decide +kernel
theorem dJ6_numberOfLeadingZeros_0f7a4_4 : decode cJ6_numberOfLeadingZeros_0f7a4 4 = .ok (.iload_n 0, 1) := by decide +kernel
theorem dJ6_numberOfLeadingZeros_0f7a4_5 : decode cJ6_numberOfLeadingZeros_0f7a4 5 = .ok (.ifCond .ne 8, 3) := by decide +kernel
theorem dJ6_numberOfLeadingZeros_0f7a4_8 : decode cJ6_numberOfLeadingZeros_0f7a4 8 = .ok (.bipush 32, 2) := by decide +kernel
theorem dJ6_numberOfLeadingZeros_0f7a4_10 : decode cJ6_numberOfLeadingZeros_0f7a4 10 = .ok (.goto 4, 3) := by decide +kernel
theorem dJ6_numberOfLeadingZeros_0f7a4_13 : decode cJ6_numberOfLeadingZeros_0f7a4 13 = .ok (.iconst 0, 1) := by decide +kernel
theorem dJ6_numberOfLeadingZeros_0f7a4_14 : decode cJ6_numberOfLeadingZeros_0f7a4 14 = .ok (.ireturn, 1) := by decide +kernel
theorem dJ6_numberOfLeadingZeros_0f7a4_15 : decode cJ6_numberOfLeadingZeros_0f7a4 15 = .ok (.bipush 31, 2) := by decide +kernel
theorem dJ6_numberOfLeadingZeros_0f7a4_17 : decode cJ6_numberOfLeadingZeros_0f7a4 17 = .ok (.istore_n 1, 1) := by decide +kernel
theorem dJ6_numberOfLeadingZeros_0f7a4_18 : decode cJ6_numberOfLeadingZeros_0f7a4 18 = .ok (.iload_n 0, 1) := by decide +kernel
theorem dJ6_numberOfLeadingZeros_0f7a4_19 : decode cJ6_numberOfLeadingZeros_0f7a4 19 = .ok (.ldc_w 264, 3) := by decide +kernel
theorem dJ6_numberOfLeadingZeros_0f7a4_22 : decode cJ6_numberOfLeadingZeros_0f7a4 22 = .ok (.if_icmp .lt 11, 3) := by decide +kernel
theorem dJ6_numberOfLeadingZeros_0f7a4_25 : decode cJ6_numberOfLeadingZeros_0f7a4 25 = .ok (.iinc 1 (-16), 3) := by decide +kernel
theorem dJ6_numberOfLeadingZeros_0f7a4_28 : decode cJ6_numberOfLeadingZeros_0f7a4 28 = .ok (.iload_n 0, 1) := by decide +kernel
theorem dJ6_numberOfLeadingZeros_0f7a4_29 : decode cJ6_numberOfLeadingZeros_0f7a4 29 = .ok (.bipush 16, 2) := by decide +kernel
theorem dJ6_numberOfLeadingZeros_0f7a4_31 : decode cJ6_numberOfLeadingZeros_0f7a4 31 = .ok (.iushr, 1) := by decide +kernel
theorem dJ6_numberOfLeadingZeros_0f7a4_32 : decode cJ6_numberOfLeadingZeros_0f7a4 32 = .ok (.istore_n 0, 1) := by decide +kernel
theorem dJ6_numberOfLeadingZeros_0f7a4_33 : decode cJ6_numberOfLeadingZeros_0f7a4 33 = .ok (.iload_n 0, 1) := by decide +kernel
theorem dJ6_numberOfLeadingZeros_0f7a4_34 : decode cJ6_numberOfLeadingZeros_0f7a4 34 = .ok (.sipush 256, 3) := by decide +kernel
theorem dJ6_numberOfLeadingZeros_0f7a4_37 : decode cJ6_numberOfLeadingZeros_0f7a4 37 = .ok (.if_icmp .lt 11, 3) := by decide +kernel
theorem dJ6_numberOfLeadingZeros_0f7a4_40 : decode cJ6_numberOfLeadingZeros_0f7a4 40 = .ok (.iinc 1 (-8), 3) := by decide +kernel
theorem dJ6_numberOfLeadingZeros_0f7a4_43 : decode cJ6_numberOfLeadingZeros_0f7a4 43 = .ok (.iload_n 0, 1) := by decide +kernel
theorem dJ6_numberOfLeadingZeros_0f7a4_44 : decode cJ6_numberOfLeadingZeros_0f7a4 44 = .ok (.bipush 8, 2) := by decide +kernel
theorem dJ6_numberOfLeadingZeros_0f7a4_46 : decode cJ6_numberOfLeadingZeros_0f7a4 46 = .ok (.iushr, 1) := by decide +kernel
theorem dJ6_numberOfLeadingZeros_0f7a4_47 : decode cJ6_numberOfLeadingZeros_0f7a4 47 = .ok (.istore_n 0, 1) := by decide +kernel
theorem dJ6_numberOfLeadingZeros_0f7a4_48 : decode cJ6_numberOfLeadingZeros_0f7a4 48 = .ok (.iload_n 0, 1) := by decide +kernel
theorem dJ6_numberOfLeadingZeros_0f7a4_49 : decode cJ6_numberOfLeadingZeros_0f7a4 49 = .ok (.bipush 16, 2) := by decide +kernel
theorem dJ6_numberOfLeadingZeros_0f7a4_51 : decode cJ6_numberOfLeadingZeros_0f7a4 51 = .ok (.if_icmp .lt 10, 3) := by decide +kernel
