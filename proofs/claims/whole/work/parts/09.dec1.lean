theorem dX0_init_0 : decode cX0_init 0 = .ok (.aload_n 0, 1) := by decide +kernel
theorem dX0_init_1 : decode cX0_init 1 = .ok (.invokespecial 3, 3) := by decide +kernel
theorem dX0_init_4 : decode cX0_init 4 = .ok (.aload_n 0, 1) := by decide +kernel
theorem dX0_init_5 : decode cX0_init 5 = .ok (.bipush 24, 2) := by decide +kernel
theorem dX0_init_7 : decode cX0_init 7 = .ok (.newarray .long, 2) := by decide +kernel
theorem dX0_init_9 : decode cX0_init 9 = .ok (.putfield 9, 3) := by decide +kernel
theorem dX0_init_12 : decode cX0_init 12 = .ok (.aload_n 0, 1) := by decide +kernel
theorem dX0_init_13 : decode cX0_init 13 = .ok (.bipush 24, 2) := by decide +kernel
theorem dX0_init_15 : decode cX0_init 15 = .ok (.newarray .int, 2) := by decide +kernel
theorem dX0_init_17 : decode cX0_init 17 = .ok (.putfield 15, 3) := by decide +kernel
theorem dX0_init_20 : decode cX0_init 20 = .ok (.return_, 1) := by decide +kernel
theorem dX0_begin_0 : decode cX0_begin 0 = .ok (.aload_n 0, 1) := by decide +kernel
theorem dX0_begin_1 : decode cX0_begin 1 = .ok (.iload_n 1, 1) := by decide +kernel
theorem dX0_begin_2 : decode cX0_begin 2 = .ok (.putfield 19, 3) := by decide +kernel
theorem dX0_begin_5 : decode cX0_begin 5 = .ok (.aload_n 0, 1) := by decide +kernel
theorem dX0_begin_6 : decode cX0_begin 6 = .ok (.getfield 9, 3) := by decide +kernel
theorem dX0_begin_9 : decode cX0_begin 9 = .ok (.lconst 0, 1) := by decide +kernel
theorem dX0_begin_10 : decode cX0_begin 10 = .ok (.invokestatic 23, 3) := by decide +kernel
theorem dX0_begin_13 : decode cX0_begin 13 = .ok (.aload_n 0, 1) := by decide +kernel
theorem dX0_begin_14 : decode cX0_begin 14 = .ok (.getfield 15, 3) := by decide +kernel
theorem dX0_begin_17 : decode cX0_begin 17 = .ok (.iconst 0, 1) := by decide +kernel
theorem dX0_begin_18 : decode cX0_begin 18 = .ok (.invokestatic 29, 3) := by decide +kernel
theorem dX0_begin_21 : decode cX0_begin 21 = .ok (.return_, 1) := by decide +kernel
theorem dX0_take_0 : decode cX0_take 0 = .ok (.aload_n 0, 1) := by decide +kernel
theorem dX0_take_1 : decode cX0_take 1 = .ok (.aload_n 1, 1) := by decide +kernel
theorem dX0_take_2 : decode cX0_take 2 = .ok (.getfield 19, 3) := by decide +kernel
theorem dX0_take_5 : decode cX0_take 5 = .ok (.putfield 19, 3) := by decide +kernel
theorem dX0_take_8 : decode cX0_take 8 = .ok (.aload_n 1, 1) := by decide +kernel
theorem dX0_take_9 : decode cX0_take 9 = .ok (.getfield 9, 3) := by decide +kernel
theorem dX0_take_12 : decode cX0_take 12 = .ok (.iconst 0, 1) := by decide +kernel
theorem dX0_take_13 : decode cX0_take 13 = .ok (.aload_n 0, 1) := by decide +kernel
theorem dX0_take_14 : decode cX0_take 14 = .ok (.getfield 9, 3) := by decide +kernel
theorem dX0_take_17 : decode cX0_take 17 = .ok (.iconst 0, 1) := by decide +kernel
theorem dX0_take_18 : decode cX0_take 18 = .ok (.bipush 24, 2) := by decide +kernel
theorem dX0_take_20 : decode cX0_take 20 = .ok (.invokestatic 32, 3) := by decide +kernel
theorem dX0_take_23 : decode cX0_take 23 = .ok (.aload_n 1, 1) := by decide +kernel
theorem dX0_take_24 : decode cX0_take 24 = .ok (.getfield 15, 3) := by decide +kernel
theorem dX0_take_27 : decode cX0_take 27 = .ok (.iconst 0, 1) := by decide +kernel
theorem dX0_take_28 : decode cX0_take 28 = .ok (.aload_n 0, 1) := by decide +kernel
theorem dX0_take_29 : decode cX0_take 29 = .ok (.getfield 15, 3) := by decide +kernel
theorem dX0_take_32 : decode cX0_take 32 = .ok (.iconst 0, 1) := by decide +kernel
theorem dX0_take_33 : decode cX0_take 33 = .ok (.bipush 24, 2) := by decide +kernel
theorem dX0_take_35 : decode cX0_take 35 = .ok (.invokestatic 32, 3) := by decide +kernel
theorem dX0_take_38 : decode cX0_take 38 = .ok (.return_, 1) := by decide +kernel
theorem dX0_giveWord_0 : decode cX0_giveWord 0 = .ok (.aload_n 0, 1) := by decide +kernel
theorem dX0_giveWord_1 : decode cX0_giveWord 1 = .ok (.getfield 9, 3) := by decide +kernel
theorem dX0_giveWord_4 : decode cX0_giveWord 4 = .ok (.iload_n 1, 1) := by decide +kernel
theorem dX0_giveWord_5 : decode cX0_giveWord 5 = .ok (.lload_n 2, 1) := by decide +kernel
theorem dX0_giveWord_6 : decode cX0_giveWord 6 = .ok (.lastore, 1) := by decide +kernel
theorem dX0_giveWord_7 : decode cX0_giveWord 7 = .ok (.aload_n 0, 1) := by decide +kernel
theorem dX0_giveWord_8 : decode cX0_giveWord 8 = .ok (.getfield 15, 3) := by decide +kernel
theorem dX0_giveWord_11 : decode cX0_giveWord 11 = .ok (.iload_n 1, 1) := by decide +kernel
theorem dX0_giveWord_12 : decode cX0_giveWord 12 = .ok (.iload 4, 2) := by decide +kernel
theorem dX0_giveWord_14 : decode cX0_giveWord 14 = .ok (.iastore, 1) := by decide +kernel
theorem dX0_giveWord_15 : decode cX0_giveWord 15 = .ok (.return_, 1) := by decide +kernel
theorem dX0_clash_0 : decode cX0_clash 0 = .ok (.aload_n 0, 1) := by decide +kernel
theorem dX0_clash_1 : decode cX0_clash 1 = .ok (.getfield 9, 3) := by decide +kernel
theorem dX0_clash_4 : decode cX0_clash 4 = .ok (.iload_n 1, 1) := by decide +kernel
theorem dX0_clash_5 : decode cX0_clash 5 = .ok (.laload, 1) := by decide +kernel
theorem dX0_clash_6 : decode cX0_clash 6 = .ok (.aload_n 0, 1) := by decide +kernel
theorem dX0_clash_7 : decode cX0_clash 7 = .ok (.getfield 9, 3) := by decide +kernel
theorem dX0_clash_10 : decode cX0_clash 10 = .ok (.iload_n 2, 1) := by decide +kernel
theorem dX0_clash_11 : decode cX0_clash 11 = .ok (.laload, 1) := by decide +kernel
theorem dX0_clash_12 : decode cX0_clash 12 = .ok (.invokestatic 38, 3) := by decide +kernel
theorem dX0_clash_15 : decode cX0_clash 15 = .ok (.aload_n 0, 1) := by decide +kernel
theorem dX0_clash_16 : decode cX0_clash 16 = .ok (.getfield 15, 3) := by decide +kernel
theorem dX0_clash_19 : decode cX0_clash 19 = .ok (.iload_n 1, 1) := by decide +kernel
theorem dX0_clash_20 : decode cX0_clash 20 = .ok (.iaload, 1) := by decide +kernel
theorem dX0_clash_21 : decode cX0_clash 21 = .ok (.aload_n 0, 1) := by decide +kernel
theorem dX0_clash_22 : decode cX0_clash 22 = .ok (.getfield 15, 3) := by decide +kernel
theorem dX0_clash_25 : decode cX0_clash 25 = .ok (.iload_n 2, 1) := by decide +kernel
theorem dX0_clash_26 : decode cX0_clash 26 = .ok (.iaload, 1) := by decide +kernel
theorem dX0_clash_27 : decode cX0_clash 27 = .ok (.invokestatic 42, 3) := by decide +kernel
theorem dX0_clash_30 : decode cX0_clash 30 = .ok (.if_icmp .lt 7, 3) := by decide +kernel
theorem dX0_clash_33 : decode cX0_clash 33 = .ok (.iconst 1, 1) := by decide +kernel
theorem dX0_clash_34 : decode cX0_clash 34 = .ok (.goto 4, 3) := by decide +kernel
theorem dX0_clash_37 : decode cX0_clash 37 = .ok (.iconst 0, 1) := by decide +kernel
theorem dX0_clash_38 : decode cX0_clash 38 = .ok (.ireturn, 1) := by decide +kernel
theorem dX0_isFree_0 : decode cX0_isFree 0 = .ok (.iconst 0, 1) := by decide +kernel
theorem dX0_isFree_1 : decode cX0_isFree 1 = .ok (.istore_n 1, 1) := by decide +kernel
theorem dX0_isFree_2 : decode cX0_isFree 2 = .ok (.iload_n 1, 1) := by decide +kernel
theorem dX0_isFree_3 : decode cX0_isFree 3 = .ok (.aload_n 0, 1) := by decide +kernel
theorem dX0_isFree_4 : decode cX0_isFree 4 = .ok (.getfield 19, 3) := by decide +kernel
theorem dX0_isFree_7 : decode cX0_isFree 7 = .ok (.if_icmp .ge 49, 3) := by decide +kernel
theorem dX0_isFree_10 : decode cX0_isFree 10 = .ok (.aload_n 0, 1) := by decide +kernel
theorem dX0_isFree_11 : decode cX0_isFree 11 = .ok (.getfield 15, 3) := by decide +kernel
theorem dX0_isFree_14 : decode cX0_isFree 14 = .ok (.iload_n 1, 1) := by decide +kernel
theorem dX0_isFree_15 : decode cX0_isFree 15 = .ok (.iaload, 1) := by decide +kernel
theorem dX0_isFree_16 : decode cX0_isFree 16 = .ok (.ifCond .ne 5, 3) := by decide +kernel
theorem dX0_isFree_19 : decode cX0_isFree 19 = .ok (.iconst 0, 1) := by decide +kernel
theorem dX0_isFree_20 : decode cX0_isFree 20 = .ok (.ireturn, 1) := by decide +kernel
theorem dX0_isFree_21 : decode cX0_isFree 21 = .ok (.iload_n 1, 1) := by decide +kernel
theorem dX0_isFree_22 : decode cX0_isFree 22 = .ok (.iconst 1, 1) := by decide +kernel
theorem dX0_isFree_23 : decode cX0_isFree 23 = .ok (.iadd, 1) := by decide +kernel
theorem dX0_isFree_24 : decode cX0_isFree 24 = .ok (.istore_n 2, 1) := by decide +kernel
theorem dX0_isFree_25 : decode cX0_isFree 25 = .ok (.iload_n 2, 1) := by decide +kernel
theorem dX0_isFree_26 : decode cX0_isFree 26 = .ok (.aload_n 0, 1) := by decide +kernel
theorem dX0_isFree_27 : decode cX0_isFree 27 = .ok (.getfield 19, 3) := by decide +kernel
theorem dX0_isFree_30 : decode cX0_isFree 30 = .ok (.if_icmp .ge 20, 3) := by decide +kernel
theorem dX0_isFree_33 : decode cX0_isFree 33 = .ok (.aload_n 0, 1) := by decide +kernel
theorem dX0_isFree_34 : decode cX0_isFree 34 = .ok (.iload_n 1, 1) := by decide +kernel
theorem dX0_isFree_35 : decode cX0_isFree 35 = .ok (.iload_n 2, 1) := by decide +kernel
theorem dX0_isFree_36 : decode cX0_isFree 36 = .ok (.invokevirtual 48, 3) := by decide +kernel
theorem dX0_isFree_39 : decode cX0_isFree 39 = .ok (.ifCond .eq 5, 3) := by decide +kernel
theorem dX0_isFree_42 : decode cX0_isFree 42 = .ok (.iconst 0, 1) := by decide +kernel
theorem dX0_isFree_43 : decode cX0_isFree 43 = .ok (.ireturn, 1) := by decide +kernel
theorem dX0_isFree_44 : decode cX0_isFree 44 = .ok (.iinc 2 1, 3) := by decide +kernel
theorem dX0_isFree_47 : decode cX0_isFree 47 = .ok (.goto (-22), 3) := by decide +kernel
theorem dX0_isFree_50 : decode cX0_isFree 50 = .ok (.iinc 1 1, 3) := by decide +kernel
theorem dX0_isFree_53 : decode cX0_isFree 53 = .ok (.goto (-51), 3) := by decide +kernel
theorem dX0_isFree_56 : decode cX0_isFree 56 = .ok (.iconst 1, 1) := by decide +kernel
theorem dX0_isFree_57 : decode cX0_isFree 57 = .ok (.ireturn, 1) := by decide +kernel
theorem dX0_places_0 : decode cX0_places 0 = .ok (.iconst 0, 1) := by decide +kernel
theorem dX0_places_1 : decode cX0_places 1 = .ok (.istore_n 1, 1) := by decide +kernel
theorem dX0_places_2 : decode cX0_places 2 = .ok (.iconst 0, 1) := by decide +kernel
theorem dX0_places_3 : decode cX0_places 3 = .ok (.istore_n 2, 1) := by decide +kernel
theorem dX0_places_4 : decode cX0_places 4 = .ok (.iload_n 2, 1) := by decide +kernel
theorem dX0_places_5 : decode cX0_places 5 = .ok (.aload_n 0, 1) := by decide +kernel
theorem dX0_places_6 : decode cX0_places 6 = .ok (.getfield 19, 3) := by decide +kernel
theorem dX0_places_9 : decode cX0_places 9 = .ok (.if_icmp .ge 60, 3) := by decide +kernel
theorem dX0_places_12 : decode cX0_places 12 = .ok (.iconst (-1), 1) := by decide +kernel
theorem dX0_places_13 : decode cX0_places 13 = .ok (.istore_n 3, 1) := by decide +kernel
theorem dX0_places_14 : decode cX0_places 14 = .ok (.iconst 0, 1) := by decide +kernel
theorem dX0_places_15 : decode cX0_places 15 = .ok (.istore 4, 2) := by decide +kernel
theorem dX0_places_17 : decode cX0_places 17 = .ok (.iload 4, 2) := by decide +kernel
theorem dX0_places_19 : decode cX0_places 19 = .ok (.iload_n 2, 1) := by decide +kernel
theorem dX0_places_20 : decode cX0_places 20 = .ok (.if_icmp .ge 30, 3) := by decide +kernel
theorem dX0_places_23 : decode cX0_places 23 = .ok (.iload_n 3, 1) := by decide +kernel
theorem dX0_places_24 : decode cX0_places 24 = .ok (.aload_n 0, 1) := by decide +kernel
theorem dX0_places_25 : decode cX0_places 25 = .ok (.getfield 9, 3) := by decide +kernel
theorem dX0_places_28 : decode cX0_places 28 = .ok (.iload_n 2, 1) := by decide +kernel
theorem dX0_places_29 : decode cX0_places 29 = .ok (.laload, 1) := by decide +kernel
theorem dX0_places_30 : decode cX0_places 30 = .ok (.aload_n 0, 1) := by decide +kernel
theorem dX0_places_31 : decode cX0_places 31 = .ok (.getfield 9, 3) := by decide +kernel
theorem dX0_places_34 : decode cX0_places 34 = .ok (.iload 4, 2) := by decide +kernel
theorem dX0_places_36 : decode cX0_places 36 = .ok (.laload, 1) := by decide +kernel
theorem dX0_places_37 : decode cX0_places 37 = .ok (.invokestatic 38, 3) := by decide +kernel
theorem dX0_places_40 : decode cX0_places 40 = .ok (.invokestatic 52, 3) := by decide +kernel
theorem dX0_places_43 : decode cX0_places 43 = .ok (.istore_n 3, 1) := by decide +kernel
theorem dX0_places_44 : decode cX0_places 44 = .ok (.iinc 4 1, 3) := by decide +kernel
theorem dX0_places_47 : decode cX0_places 47 = .ok (.goto (-30), 3) := by decide +kernel
theorem dX0_places_50 : decode cX0_places 50 = .ok (.iload_n 1, 1) := by decide +kernel
theorem dX0_places_51 : decode cX0_places 51 = .ok (.aload_n 0, 1) := by decide +kernel
theorem dX0_places_52 : decode cX0_places 52 = .ok (.getfield 15, 3) := by decide +kernel
theorem dX0_places_55 : decode cX0_places 55 = .ok (.iload_n 2, 1) := by decide +kernel
theorem dX0_places_56 : decode cX0_places 56 = .ok (.iaload, 1) := by decide +kernel
theorem dX0_places_57 : decode cX0_places 57 = .ok (.iconst 1, 1) := by decide +kernel
theorem dX0_places_58 : decode cX0_places 58 = .ok (.isub, 1) := by decide +kernel
theorem dX0_places_59 : decode cX0_places 59 = .ok (.iload_n 3, 1) := by decide +kernel
theorem dX0_places_60 : decode cX0_places 60 = .ok (.isub, 1) := by decide +kernel
theorem dX0_places_61 : decode cX0_places 61 = .ok (.iadd, 1) := by decide +kernel
theorem dX0_places_62 : decode cX0_places 62 = .ok (.istore_n 1, 1) := by decide +kernel
theorem dX0_places_63 : decode cX0_places 63 = .ok (.iinc 2 1, 3) := by decide +kernel
theorem dX0_places_66 : decode cX0_places 66 = .ok (.goto (-62), 3) := by decide +kernel
theorem dX0_places_69 : decode cX0_places 69 = .ok (.iload_n 1, 1) := by decide +kernel
theorem dX0_places_70 : decode cX0_places 70 = .ok (.ireturn, 1) := by decide +kernel
theorem dX0_orderBySize_0 : decode cX0_orderBySize 0 = .ok (.iconst 0, 1) := by decide +kernel
theorem dX0_orderBySize_1 : decode cX0_orderBySize 1 = .ok (.istore_n 2, 1) := by decide +kernel
theorem dX0_orderBySize_2 : decode cX0_orderBySize 2 = .ok (.iload_n 2, 1) := by decide +kernel
theorem dX0_orderBySize_3 : decode cX0_orderBySize 3 = .ok (.aload_n 0, 1) := by decide +kernel
theorem dX0_orderBySize_4 : decode cX0_orderBySize 4 = .ok (.getfield 19, 3) := by decide +kernel
theorem dX0_orderBySize_7 : decode cX0_orderBySize 7 = .ok (.if_icmp .ge 52, 3) := by decide +kernel
theorem dX0_orderBySize_10 : decode cX0_orderBySize 10 = .ok (.iload_n 2, 1) := by decide +kernel
theorem dX0_orderBySize_11 : decode cX0_orderBySize 11 = .ok (.istore_n 3, 1) := by decide +kernel
theorem dX0_orderBySize_12 : decode cX0_orderBySize 12 = .ok (.iload_n 3, 1) := by decide +kernel
theorem dX0_orderBySize_13 : decode cX0_orderBySize 13 = .ok (.ifCond .le 36, 3) := by decide +kernel
theorem dX0_orderBySize_16 : decode cX0_orderBySize 16 = .ok (.aload_n 0, 1) := by decide +kernel
theorem dX0_orderBySize_17 : decode cX0_orderBySize 17 = .ok (.getfield 15, 3) := by decide +kernel
theorem dX0_orderBySize_20 : decode cX0_orderBySize 20 = .ok (.aload_n 1, 1) := by decide +kernel
theorem dX0_orderBySize_21 : decode cX0_orderBySize 21 = .ok (.iload_n 3, 1) := by decide +kernel
theorem dX0_orderBySize_22 : decode cX0_orderBySize 22 = .ok (.iconst 1, 1) := by decide +kernel
theorem dX0_orderBySize_23 : decode cX0_orderBySize 23 = .ok (.isub, 1) := by decide +kernel
theorem dX0_orderBySize_24 : decode cX0_orderBySize 24 = .ok (.iaload, 1) := by decide +kernel
theorem dX0_orderBySize_25 : decode cX0_orderBySize 25 = .ok (.iaload, 1) := by decide +kernel
theorem dX0_orderBySize_26 : decode cX0_orderBySize 26 = .ok (.aload_n 0, 1) := by decide +kernel
theorem dX0_orderBySize_27 : decode cX0_orderBySize 27 = .ok (.getfield 15, 3) := by decide +kernel
theorem dX0_orderBySize_30 : decode cX0_orderBySize 30 = .ok (.iload_n 2, 1) := by decide +kernel
theorem dX0_orderBySize_31 : decode cX0_orderBySize 31 = .ok (.iaload, 1) := by decide +kernel
theorem dX0_orderBySize_32 : decode cX0_orderBySize 32 = .ok (.if_icmp .le 17, 3) := by decide +kernel
theorem dX0_orderBySize_35 : decode cX0_orderBySize 35 = .ok (.aload_n 1, 1) := by decide +kernel
theorem dX0_orderBySize_36 : decode cX0_orderBySize 36 = .ok (.iload_n 3, 1) := by decide +kernel
theorem dX0_orderBySize_37 : decode cX0_orderBySize 37 = .ok (.aload_n 1, 1) := by decide +kernel
theorem dX0_orderBySize_38 : decode cX0_orderBySize 38 = .ok (.iload_n 3, 1) := by decide +kernel
theorem dX0_orderBySize_39 : decode cX0_orderBySize 39 = .ok (.iconst 1, 1) := by decide +kernel
theorem dX0_orderBySize_40 : decode cX0_orderBySize 40 = .ok (.isub, 1) := by decide +kernel
theorem dX0_orderBySize_41 : decode cX0_orderBySize 41 = .ok (.iaload, 1) := by decide +kernel
theorem dX0_orderBySize_42 : decode cX0_orderBySize 42 = .ok (.iastore, 1) := by decide +kernel
theorem dX0_orderBySize_43 : decode cX0_orderBySize 43 = .ok (.iinc 3 (-1), 3) := by decide +kernel
theorem dX0_orderBySize_46 : decode cX0_orderBySize 46 = .ok (.goto (-34), 3) := by decide +kernel
theorem dX0_orderBySize_49 : decode cX0_orderBySize 49 = .ok (.aload_n 1, 1) := by decide +kernel
theorem dX0_orderBySize_50 : decode cX0_orderBySize 50 = .ok (.iload_n 3, 1) := by decide +kernel
theorem dX0_orderBySize_51 : decode cX0_orderBySize 51 = .ok (.iload_n 2, 1) := by decide +kernel
theorem dX0_orderBySize_52 : decode cX0_orderBySize 52 = .ok (.iastore, 1) := by decide +kernel
theorem dX0_orderBySize_53 : decode cX0_orderBySize 53 = .ok (.iinc 2 1, 3) := by decide +kernel
theorem dX0_orderBySize_56 : decode cX0_orderBySize 56 = .ok (.goto (-54), 3) := by decide +kernel
theorem dX0_orderBySize_59 : decode cX0_orderBySize 59 = .ok (.return_, 1) := by decide +kernel
theorem dX1_init_0 : decode cX1_init 0 = .ok (.aload_n 0, 1) := by decide +kernel
theorem dX1_init_1 : decode cX1_init 1 = .ok (.invokespecial 5, 3) := by decide +kernel
theorem dX1_init_4 : decode cX1_init 4 = .ok (.aload_n 0, 1) := by decide +kernel
theorem dX1_init_5 : decode cX1_init 5 = .ok (.sipush 7200, 3) := by decide +kernel
theorem dX1_init_8 : decode cX1_init 8 = .ok (.newarray .long, 2) := by decide +kernel
theorem dX1_init_10 : decode cX1_init 10 = .ok (.putfield 11, 3) := by decide +kernel
theorem dX1_init_13 : decode cX1_init 13 = .ok (.aload_n 0, 1) := by decide +kernel
theorem dX1_init_14 : decode cX1_init 14 = .ok (.sipush 7200, 3) := by decide +kernel
theorem dX1_init_17 : decode cX1_init 17 = .ok (.newarray .int, 2) := by decide +kernel
theorem dX1_init_19 : decode cX1_init 19 = .ok (.putfield 15, 3) := by decide +kernel
theorem dX1_init_22 : decode cX1_init 22 = .ok (.aload_n 0, 1) := by decide +kernel
theorem dX1_init_23 : decode cX1_init 23 = .ok (.bipush 25, 2) := by decide +kernel
theorem dX1_init_25 : decode cX1_init 25 = .ok (.newarray .long, 2) := by decide +kernel
theorem dX1_init_27 : decode cX1_init 27 = .ok (.putfield 19, 3) := by decide +kernel
theorem dX1_init_30 : decode cX1_init 30 = .ok (.aload_n 0, 1) := by decide +kernel
theorem dX1_init_31 : decode cX1_init 31 = .ok (.bipush 24, 2) := by decide +kernel
theorem dX1_init_33 : decode cX1_init 33 = .ok (.newarray .int, 2) := by decide +kernel
theorem dX1_init_35 : decode cX1_init 35 = .ok (.putfield 22, 3) := by decide +kernel
theorem dX1_init_38 : decode cX1_init 38 = .ok (.aload_n 0, 1) := by decide +kernel
theorem dX1_init_39 : decode cX1_init 39 = .ok (.iconst 4, 1) := by decide +kernel
theorem dX1_init_40 : decode cX1_init 40 = .ok (.newarray .int, 2) := by decide +kernel
theorem dX1_init_42 : decode cX1_init 42 = .ok (.putfield 25, 3) := by decide +kernel
theorem dX1_init_45 : decode cX1_init 45 = .ok (.aload_n 0, 1) := by decide +kernel
theorem dX1_init_46 : decode cX1_init 46 = .ok (.iconst 4, 1) := by decide +kernel
theorem dX1_init_47 : decode cX1_init 47 = .ok (.newarray .int, 2) := by decide +kernel
theorem dX1_init_49 : decode cX1_init 49 = .ok (.putfield 28, 3) := by decide +kernel
theorem dX1_init_52 : decode cX1_init 52 = .ok (.aload_n 0, 1) := by decide +kernel
theorem dX1_init_53 : decode cX1_init 53 = .ok (.new 31, 3) := by decide +kernel
theorem dX1_init_56 : decode cX1_init 56 = .ok (.dup, 1) := by decide +kernel
theorem dX1_init_57 : decode cX1_init 57 = .ok (.invokespecial 33, 3) := by decide +kernel
theorem dX1_init_60 : decode cX1_init 60 = .ok (.putfield 34, 3) := by decide +kernel
theorem dX1_init_63 : decode cX1_init 63 = .ok (.return_, 1) := by decide +kernel
theorem dX1_prepare_0 : decode cX1_prepare 0 = .ok (.aload_n 0, 1) := by decide +kernel
theorem dX1_prepare_1 : decode cX1_prepare 1 = .ok (.iload_n 2, 1) := by decide +kernel
theorem dX1_prepare_2 : decode cX1_prepare 2 = .ok (.putfield 38, 3) := by decide +kernel
theorem dX1_prepare_5 : decode cX1_prepare 5 = .ok (.aload_n 0, 1) := by decide +kernel
theorem dX1_prepare_6 : decode cX1_prepare 6 = .ok (.iload_n 3, 1) := by decide +kernel
theorem dX1_prepare_7 : decode cX1_prepare 7 = .ok (.putfield 42, 3) := by decide +kernel
theorem dX1_prepare_10 : decode cX1_prepare 10 = .ok (.aload_n 0, 1) := by decide +kernel
theorem dX1_prepare_11 : decode cX1_prepare 11 = .ok (.iload 4, 2) := by decide +kernel
theorem dX1_prepare_13 : decode cX1_prepare 13 = .ok (.putfield 46, 3) := by decide +kernel
theorem dX1_prepare_16 : decode cX1_prepare 16 = .ok (.aload_n 0, 1) := by decide +kernel
theorem dX1_prepare_17 : decode cX1_prepare 17 = .ok (.getfield 28, 3) := by decide +kernel
theorem dX1_prepare_20 : decode cX1_prepare 20 = .ok (.iconst 0, 1) := by decide +kernel
theorem dX1_prepare_21 : decode cX1_prepare 21 = .ok (.invokestatic 49, 3) := by decide +kernel
theorem dX1_prepare_24 : decode cX1_prepare 24 = .ok (.iconst 0, 1) := by decide +kernel
theorem dX1_prepare_25 : decode cX1_prepare 25 = .ok (.istore 5, 2) := by decide +kernel
theorem dX1_prepare_27 : decode cX1_prepare 27 = .ok (.iload 5, 2) := by decide +kernel
theorem dX1_prepare_29 : decode cX1_prepare 29 = .ok (.aload_n 0, 1) := by decide +kernel
theorem dX1_prepare_30 : decode cX1_prepare 30 = .ok (.getfield 38, 3) := by decide +kernel
theorem dX1_prepare_33 : decode cX1_prepare 33 = .ok (.if_icmp .ge 51, 3) := by decide +kernel
theorem dX1_prepare_36 : decode cX1_prepare 36 = .ok (.aload_n 0, 1) := by decide +kernel
theorem dX1_prepare_37 : decode cX1_prepare 37 = .ok (.getfield 25, 3) := by decide +kernel
theorem dX1_prepare_40 : decode cX1_prepare 40 = .ok (.iload 5, 2) := by decide +kernel
theorem dX1_prepare_42 : decode cX1_prepare 42 = .ok (.aload_n 0, 1) := by decide +kernel
theorem dX1_prepare_43 : decode cX1_prepare 43 = .ok (.getfield 42, 3) := by decide +kernel
theorem dX1_prepare_46 : decode cX1_prepare 46 = .ok (.ifCond .eq 14, 3) := by decide +kernel
theorem dX1_prepare_49 : decode cX1_prepare 49 = .ok (.aload_n 1, 1) := by decide +kernel
theorem dX1_prepare_50 : decode cX1_prepare 50 = .ok (.iload 5, 2) := by decide +kernel
theorem dX1_prepare_52 : decode cX1_prepare 52 = .ok (.iaload, 1) := by decide +kernel
theorem dX1_prepare_53 : decode cX1_prepare 53 = .ok (.iconst 3, 1) := by decide +kernel
theorem dX1_prepare_54 : decode cX1_prepare 54 = .ok (.invokestatic 55, 3) := by decide +kernel
theorem dX1_prepare_57 : decode cX1_prepare 57 = .ok (.goto 4, 3) := by decide +kernel
theorem dX1_prepare_60 : decode cX1_prepare 60 = .ok (.iconst 1, 1) := by decide +kernel
theorem dX1_prepare_61 : decode cX1_prepare 61 = .ok (.iastore, 1) := by decide +kernel
theorem dX1_prepare_62 : decode cX1_prepare 62 = .ok (.aload_n 0, 1) := by decide +kernel
theorem dX1_prepare_63 : decode cX1_prepare 63 = .ok (.getfield 28, 3) := by decide +kernel
theorem dX1_prepare_66 : decode cX1_prepare 66 = .ok (.aload_n 0, 1) := by decide +kernel
theorem dX1_prepare_67 : decode cX1_prepare 67 = .ok (.getfield 25, 3) := by decide +kernel
theorem dX1_prepare_70 : decode cX1_prepare 70 = .ok (.iload 5, 2) := by decide +kernel
theorem dX1_prepare_72 : decode cX1_prepare 72 = .ok (.iaload, 1) := by decide +kernel
theorem dX1_prepare_73 : decode cX1_prepare 73 = .ok (.dup2, 1) := by decide +kernel
theorem dX1_prepare_74 : decode cX1_prepare 74 = .ok (.iaload, 1) := by decide +kernel
theorem dX1_prepare_75 : decode cX1_prepare 75 = .ok (.iconst 1, 1) := by decide +kernel
theorem dX1_prepare_76 : decode cX1_prepare 76 = .ok (.iadd, 1) := by decide +kernel
theorem dX1_prepare_77 : decode cX1_prepare 77 = .ok (.iastore, 1) := by decide +kernel
theorem dX1_prepare_78 : decode cX1_prepare 78 = .ok (.iinc 5 1, 3) := by decide +kernel
theorem dX1_prepare_81 : decode cX1_prepare 81 = .ok (.goto (-54), 3) := by decide +kernel
theorem dX1_prepare_84 : decode cX1_prepare 84 = .ok (.return_, 1) := by decide +kernel
theorem dX1_make_0 : decode cX1_make 0 = .ok (.aload_n 0, 1) := by decide +kernel
theorem dX1_make_1 : decode cX1_make 1 = .ok (.getfield 22, 3) := by decide +kernel
theorem dX1_make_4 : decode cX1_make 4 = .ok (.aload_n 2, 1) := by decide +kernel
theorem dX1_make_5 : decode cX1_make 5 = .ok (.iload_n 3, 1) := by decide +kernel
theorem dX1_make_6 : decode cX1_make 6 = .ok (.invokestatic 61, 3) := by decide +kernel
theorem dX1_make_9 : decode cX1_make 9 = .ok (.aload_n 0, 1) := by decide +kernel
theorem dX1_make_10 : decode cX1_make 10 = .ok (.aload_n 2, 1) := by decide +kernel
theorem dX1_make_11 : decode cX1_make 11 = .ok (.iload_n 3, 1) := by decide +kernel
theorem dX1_make_12 : decode cX1_make 12 = .ok (.invokevirtual 65, 3) := by decide +kernel
theorem dX1_make_15 : decode cX1_make 15 = .ok (.aload_n 0, 1) := by decide +kernel
theorem dX1_make_16 : decode cX1_make 16 = .ok (.dup, 1) := by decide +kernel
theorem dX1_make_17 : decode cX1_make 17 = .ok (.getfield 68, 3) := by decide +kernel
theorem dX1_make_20 : decode cX1_make 20 = .ok (.iconst 1, 1) := by decide +kernel
theorem dX1_make_21 : decode cX1_make 21 = .ok (.iadd, 1) := by decide +kernel
theorem dX1_make_22 : decode cX1_make 22 = .ok (.putfield 68, 3) := by decide +kernel
theorem dX1_make_25 : decode cX1_make 25 = .ok (.iload_n 3, 1) := by decide +kernel
theorem dX1_make_26 : decode cX1_make 26 = .ok (.aload_n 0, 1) := by decide +kernel
theorem dX1_make_27 : decode cX1_make 27 = .ok (.getfield 28, 3) := by decide +kernel
theorem dX1_make_30 : decode cX1_make 30 = .ok (.iconst 1, 1) := by decide +kernel
theorem dX1_make_31 : decode cX1_make 31 = .ok (.iaload, 1) := by decide +kernel
theorem dX1_make_32 : decode cX1_make 32 = .ok (.invokestatic 55, 3) := by decide +kernel
theorem dX1_make_35 : decode cX1_make 35 = .ok (.istore 4, 2) := by decide +kernel
theorem dX1_make_37 : decode cX1_make 37 = .ok (.iload_n 3, 1) := by decide +kernel
theorem dX1_make_38 : decode cX1_make 38 = .ok (.aload_n 0, 1) := by decide +kernel
theorem dX1_make_39 : decode cX1_make 39 = .ok (.getfield 28, 3) := by decide +kernel
theorem dX1_make_42 : decode cX1_make 42 = .ok (.iconst 2, 1) := by decide +kernel
theorem dX1_make_43 : decode cX1_make 43 = .ok (.iaload, 1) := by decide +kernel
theorem dX1_make_44 : decode cX1_make 44 = .ok (.invokestatic 55, 3) := by decide +kernel
theorem dX1_make_47 : decode cX1_make 47 = .ok (.istore 5, 2) := by decide +kernel
theorem dX1_make_49 : decode cX1_make 49 = .ok (.iload_n 3, 1) := by decide +kernel
theorem dX1_make_50 : decode cX1_make 50 = .ok (.aload_n 0, 1) := by decide +kernel
theorem dX1_make_51 : decode cX1_make 51 = .ok (.getfield 28, 3) := by decide +kernel
theorem dX1_make_54 : decode cX1_make 54 = .ok (.iconst 3, 1) := by decide +kernel
theorem dX1_make_55 : decode cX1_make 55 = .ok (.iaload, 1) := by decide +kernel
theorem dX1_make_56 : decode cX1_make 56 = .ok (.invokestatic 55, 3) := by decide +kernel
theorem dX1_make_59 : decode cX1_make 59 = .ok (.istore 6, 2) := by decide +kernel
theorem dX1_make_61 : decode cX1_make 61 = .ok (.aload_n 0, 1) := by decide +kernel
theorem dX1_make_62 : decode cX1_make 62 = .ok (.iconst 1, 1) := by decide +kernel
theorem dX1_make_63 : decode cX1_make 63 = .ok (.iload 4, 2) := by decide +kernel
theorem dX1_make_65 : decode cX1_make 65 = .ok (.iload 5, 2) := by decide +kernel
theorem dX1_make_67 : decode cX1_make 67 = .ok (.iload 6, 2) := by decide +kernel
theorem dX1_make_69 : decode cX1_make 69 = .ok (.iload_n 3, 1) := by decide +kernel
theorem dX1_make_70 : decode cX1_make 70 = .ok (.invokevirtual 71, 3) := by decide +kernel
theorem dX1_make_73 : decode cX1_make 73 = .ok (.ldc2_w 75, 3) := by decide +kernel
theorem dX1_make_76 : decode cX1_make 76 = .ok (.lcmp, 1) := by decide +kernel
theorem dX1_make_77 : decode cX1_make 77 = .ok (.ifCond .lt 5, 3) := by decide +kernel
theorem dX1_make_80 : decode cX1_make 80 = .ok (.iconst 0, 1) := by decide +kernel
theorem dX1_make_81 : decode cX1_make 81 = .ok (.ireturn, 1) := by decide +kernel
theorem dX1_make_82 : decode cX1_make 82 = .ok (.aload_n 1, 1) := by decide +kernel
theorem dX1_make_83 : decode cX1_make 83 = .ok (.iload_n 3, 1) := by decide +kernel
theorem dX1_make_84 : decode cX1_make 84 = .ok (.invokevirtual 77, 3) := by decide +kernel
theorem dX1_make_87 : decode cX1_make 87 = .ok (.aload_n 0, 1) := by decide +kernel
theorem dX1_make_88 : decode cX1_make 88 = .ok (.getfield 34, 3) := by decide +kernel
theorem dX1_make_91 : decode cX1_make 91 = .ok (.invokevirtual 83, 3) := by decide +kernel
theorem dX1_make_94 : decode cX1_make 94 = .ok (.aload_n 0, 1) := by decide +kernel
theorem dX1_make_95 : decode cX1_make 95 = .ok (.invokevirtual 86, 3) := by decide +kernel
theorem dX1_make_98 : decode cX1_make 98 = .ok (.iload_n 3, 1) := by decide +kernel
theorem dX1_make_99 : decode cX1_make 99 = .ok (.istore 7, 2) := by decide +kernel
theorem dX1_make_101 : decode cX1_make 101 = .ok (.iconst 1, 1) := by decide +kernel
theorem dX1_make_102 : decode cX1_make 102 = .ok (.istore 8, 2) := by decide +kernel
theorem dX1_make_104 : decode cX1_make 104 = .ok (.iload 8, 2) := by decide +kernel
theorem dX1_make_106 : decode cX1_make 106 = .ok (.bipush 40, 2) := by decide +kernel
theorem dX1_make_108 : decode cX1_make 108 = .ok (.if_icmp .ge 134, 3) := by decide +kernel
theorem dX1_make_111 : decode cX1_make 111 = .ok (.iload 7, 2) := by decide +kernel
theorem dX1_make_113 : decode cX1_make 113 = .ok (.ifCond .le 129, 3) := by decide +kernel
theorem dX1_make_116 : decode cX1_make 116 = .ok (.aload_n 0, 1) := by decide +kernel
theorem dX1_make_117 : decode cX1_make 117 = .ok (.iload 8, 2) := by decide +kernel
theorem dX1_make_119 : decode cX1_make 119 = .ok (.iload 4, 2) := by decide +kernel
theorem dX1_make_121 : decode cX1_make 121 = .ok (.iload 5, 2) := by decide +kernel
theorem dX1_make_123 : decode cX1_make 123 = .ok (.iload 6, 2) := by decide +kernel
theorem dX1_make_125 : decode cX1_make 125 = .ok (.iload 7, 2) := by decide +kernel
theorem dX1_make_127 : decode cX1_make 127 = .ok (.invokevirtual 89, 3) := by decide +kernel
theorem dX1_make_130 : decode cX1_make 130 = .ok (.istore 9, 2) := by decide +kernel
theorem dX1_make_132 : decode cX1_make 132 = .ok (.aload_n 0, 1) := by decide +kernel
theorem dX1_make_133 : decode cX1_make 133 = .ok (.aload_n 1, 1) := by decide +kernel
theorem dX1_make_134 : decode cX1_make 134 = .ok (.iload 9, 2) := by decide +kernel
theorem dX1_make_136 : decode cX1_make 136 = .ok (.iload_n 3, 1) := by decide +kernel
theorem dX1_make_137 : decode cX1_make 137 = .ok (.iload 7, 2) := by decide +kernel
theorem dX1_make_139 : decode cX1_make 139 = .ok (.isub, 1) := by decide +kernel
theorem dX1_make_140 : decode cX1_make 140 = .ok (.invokevirtual 93, 3) := by decide +kernel
theorem dX1_make_143 : decode cX1_make 143 = .ok (.iload 7, 2) := by decide +kernel
theorem dX1_make_145 : decode cX1_make 145 = .ok (.iload 9, 2) := by decide +kernel
theorem dX1_make_147 : decode cX1_make 147 = .ok (.isub, 1) := by decide +kernel
theorem dX1_make_148 : decode cX1_make 148 = .ok (.istore 7, 2) := by decide +kernel
theorem dX1_make_150 : decode cX1_make 150 = .ok (.iload 4, 2) := by decide +kernel
theorem dX1_make_152 : decode cX1_make 152 = .ok (.iload 9, 2) := by decide +kernel
theorem dX1_make_154 : decode cX1_make 154 = .ok (.isub, 1) := by decide +kernel
theorem dX1_make_155 : decode cX1_make 155 = .ok (.istore 10, 2) := by decide +kernel
theorem dX1_make_157 : decode cX1_make 157 = .ok (.iconst 0, 1) := by decide +kernel
theorem dX1_make_158 : decode cX1_make 158 = .ok (.istore 11, 2) := by decide +kernel
theorem dX1_make_160 : decode cX1_make 160 = .ok (.iload 11, 2) := by decide +kernel
theorem dX1_make_162 : decode cX1_make 162 = .ok (.iload 10, 2) := by decide +kernel
theorem dX1_make_164 : decode cX1_make 164 = .ok (.if_icmp .ge 18, 3) := by decide +kernel
theorem dX1_make_167 : decode cX1_make 167 = .ok (.iload 7, 2) := by decide +kernel
theorem dX1_make_169 : decode cX1_make 169 = .ok (.ifCond .le 13, 3) := by decide +kernel
theorem dX1_make_172 : decode cX1_make 172 = .ok (.aload_n 0, 1) := by decide +kernel
theorem dX1_make_173 : decode cX1_make 173 = .ok (.invokevirtual 86, 3) := by decide +kernel
theorem dX1_make_176 : decode cX1_make 176 = .ok (.iinc 11 1, 3) := by decide +kernel
theorem dX1_make_179 : decode cX1_make 179 = .ok (.goto (-19), 3) := by decide +kernel
theorem dX1_make_182 : decode cX1_make 182 = .ok (.iload 7, 2) := by decide +kernel
theorem dX1_make_184 : decode cX1_make 184 = .ok (.iload 5, 2) := by decide +kernel
theorem dX1_make_186 : decode cX1_make 186 = .ok (.aload_n 0, 1) := by decide +kernel
theorem dX1_make_187 : decode cX1_make 187 = .ok (.getfield 28, 3) := by decide +kernel
theorem dX1_make_190 : decode cX1_make 190 = .ok (.iconst 1, 1) := by decide +kernel
theorem dX1_make_191 : decode cX1_make 191 = .ok (.iaload, 1) := by decide +kernel
theorem dX1_make_192 : decode cX1_make 192 = .ok (.iload 10, 2) := by decide +kernel
theorem dX1_make_194 : decode cX1_make 194 = .ok (.imul, 1) := by decide +kernel
theorem dX1_make_195 : decode cX1_make 195 = .ok (.iadd, 1) := by decide +kernel
theorem dX1_make_196 : decode cX1_make 196 = .ok (.invokestatic 55, 3) := by decide +kernel
theorem dX1_make_199 : decode cX1_make 199 = .ok (.istore 4, 2) := by decide +kernel
theorem dX1_make_201 : decode cX1_make 201 = .ok (.iload 7, 2) := by decide +kernel
theorem dX1_make_203 : decode cX1_make 203 = .ok (.iload 6, 2) := by decide +kernel
theorem dX1_make_205 : decode cX1_make 205 = .ok (.aload_n 0, 1) := by decide +kernel
theorem dX1_make_206 : decode cX1_make 206 = .ok (.getfield 28, 3) := by decide +kernel
theorem dX1_make_209 : decode cX1_make 209 = .ok (.iconst 2, 1) := by decide +kernel
theorem dX1_make_210 : decode cX1_make 210 = .ok (.iaload, 1) := by decide +kernel
theorem dX1_make_211 : decode cX1_make 211 = .ok (.iload 10, 2) := by decide +kernel
theorem dX1_make_213 : decode cX1_make 213 = .ok (.imul, 1) := by decide +kernel
theorem dX1_make_214 : decode cX1_make 214 = .ok (.iadd, 1) := by decide +kernel
theorem dX1_make_215 : decode cX1_make 215 = .ok (.invokestatic 55, 3) := by decide +kernel
theorem dX1_make_218 : decode cX1_make 218 = .ok (.istore 5, 2) := by decide +kernel
theorem dX1_make_220 : decode cX1_make 220 = .ok (.iload 7, 2) := by decide +kernel
theorem dX1_make_222 : decode cX1_make 222 = .ok (.aload_n 0, 1) := by decide +kernel
theorem dX1_make_223 : decode cX1_make 223 = .ok (.getfield 28, 3) := by decide +kernel
theorem dX1_make_226 : decode cX1_make 226 = .ok (.iconst 3, 1) := by decide +kernel
theorem dX1_make_227 : decode cX1_make 227 = .ok (.iaload, 1) := by decide +kernel
theorem dX1_make_228 : decode cX1_make 228 = .ok (.iload 10, 2) := by decide +kernel
theorem dX1_make_230 : decode cX1_make 230 = .ok (.imul, 1) := by decide +kernel
theorem dX1_make_231 : decode cX1_make 231 = .ok (.invokestatic 55, 3) := by decide +kernel
theorem dX1_make_234 : decode cX1_make 234 = .ok (.istore 6, 2) := by decide +kernel
theorem dX1_make_236 : decode cX1_make 236 = .ok (.iinc 8 1, 3) := by decide +kernel
theorem dX1_make_239 : decode cX1_make 239 = .ok (.goto (-135), 3) := by decide +kernel
theorem dX1_make_242 : decode cX1_make 242 = .ok (.iconst 1, 1) := by decide +kernel
theorem dX1_make_243 : decode cX1_make 243 = .ok (.ireturn, 1) := by decide +kernel
theorem dX1_sumLastCounts_0 : decode cX1_sumLastCounts 0 = .ok (.aload_n 0, 1) := by decide +kernel
theorem dX1_sumLastCounts_1 : decode cX1_sumLastCounts 1 = .ok (.getfield 19, 3) := by decide +kernel
theorem dX1_sumLastCounts_4 : decode cX1_sumLastCounts 4 = .ok (.iconst 0, 1) := by decide +kernel
theorem dX1_sumLastCounts_5 : decode cX1_sumLastCounts 5 = .ok (.lconst 0, 1) := by decide +kernel
theorem dX1_sumLastCounts_6 : decode cX1_sumLastCounts 6 = .ok (.lastore, 1) := by decide +kernel
theorem dX1_sumLastCounts_7 : decode cX1_sumLastCounts 7 = .ok (.iconst 1, 1) := by decide +kernel
theorem dX1_sumLastCounts_8 : decode cX1_sumLastCounts 8 = .ok (.istore_n 3, 1) := by decide +kernel
theorem dX1_sumLastCounts_9 : decode cX1_sumLastCounts 9 = .ok (.iload_n 3, 1) := by decide +kernel
theorem dX1_sumLastCounts_10 : decode cX1_sumLastCounts 10 = .ok (.iload_n 2, 1) := by decide +kernel
theorem dX1_sumLastCounts_11 : decode cX1_sumLastCounts 11 = .ok (.if_icmp .gt 35, 3) := by decide +kernel
theorem dX1_sumLastCounts_14 : decode cX1_sumLastCounts 14 = .ok (.aload_n 0, 1) := by decide +kernel
theorem dX1_sumLastCounts_15 : decode cX1_sumLastCounts 15 = .ok (.getfield 19, 3) := by decide +kernel
theorem dX1_sumLastCounts_18 : decode cX1_sumLastCounts 18 = .ok (.iload_n 3, 1) := by decide +kernel
theorem dX1_sumLastCounts_19 : decode cX1_sumLastCounts 19 = .ok (.aload_n 0, 1) := by decide +kernel
theorem dX1_sumLastCounts_20 : decode cX1_sumLastCounts 20 = .ok (.getfield 19, 3) := by decide +kernel
theorem dX1_sumLastCounts_23 : decode cX1_sumLastCounts 23 = .ok (.iload_n 3, 1) := by decide +kernel
theorem dX1_sumLastCounts_24 : decode cX1_sumLastCounts 24 = .ok (.iconst 1, 1) := by decide +kernel
theorem dX1_sumLastCounts_25 : decode cX1_sumLastCounts 25 = .ok (.isub, 1) := by decide +kernel
theorem dX1_sumLastCounts_26 : decode cX1_sumLastCounts 26 = .ok (.laload, 1) := by decide +kernel
theorem dX1_sumLastCounts_27 : decode cX1_sumLastCounts 27 = .ok (.aload_n 1, 1) := by decide +kernel
theorem dX1_sumLastCounts_28 : decode cX1_sumLastCounts 28 = .ok (.aload_n 0, 1) := by decide +kernel
theorem dX1_sumLastCounts_29 : decode cX1_sumLastCounts 29 = .ok (.getfield 22, 3) := by decide +kernel
theorem dX1_sumLastCounts_32 : decode cX1_sumLastCounts 32 = .ok (.iload_n 2, 1) := by decide +kernel
theorem dX1_sumLastCounts_33 : decode cX1_sumLastCounts 33 = .ok (.iload_n 3, 1) := by decide +kernel
theorem dX1_sumLastCounts_34 : decode cX1_sumLastCounts 34 = .ok (.isub, 1) := by decide +kernel
theorem dX1_sumLastCounts_35 : decode cX1_sumLastCounts 35 = .ok (.iaload, 1) := by decide +kernel
theorem dX1_sumLastCounts_36 : decode cX1_sumLastCounts 36 = .ok (.iaload, 1) := by decide +kernel
theorem dX1_sumLastCounts_37 : decode cX1_sumLastCounts 37 = .ok (.i2l, 1) := by decide +kernel
theorem dX1_sumLastCounts_38 : decode cX1_sumLastCounts 38 = .ok (.ladd, 1) := by decide +kernel
theorem dX1_sumLastCounts_39 : decode cX1_sumLastCounts 39 = .ok (.lastore, 1) := by decide +kernel
theorem dX1_sumLastCounts_40 : decode cX1_sumLastCounts 40 = .ok (.iinc 3 1, 3) := by decide +kernel
theorem dX1_sumLastCounts_43 : decode cX1_sumLastCounts 43 = .ok (.goto (-34), 3) := by decide +kernel
theorem dX1_sumLastCounts_46 : decode cX1_sumLastCounts 46 = .ok (.return_, 1) := by decide +kernel
theorem dX1_giveWords_0 : decode cX1_giveWords 0 = .ok (.iconst 0, 1) := by decide +kernel
theorem dX1_giveWords_1 : decode cX1_giveWords 1 = .ok (.istore 4, 2) := by decide +kernel
theorem dX1_giveWords_3 : decode cX1_giveWords 3 = .ok (.iload 4, 2) := by decide +kernel
theorem dX1_giveWords_5 : decode cX1_giveWords 5 = .ok (.iload_n 2, 1) := by decide +kernel
theorem dX1_giveWords_6 : decode cX1_giveWords 6 = .ok (.if_icmp .ge 53, 3) := by decide +kernel
theorem dX1_giveWords_9 : decode cX1_giveWords 9 = .ok (.aload_n 0, 1) := by decide +kernel
theorem dX1_giveWords_10 : decode cX1_giveWords 10 = .ok (.getfield 34, 3) := by decide +kernel
theorem dX1_giveWords_13 : decode cX1_giveWords 13 = .ok (.invokevirtual 97, 3) := by decide +kernel
theorem dX1_giveWords_16 : decode cX1_giveWords 16 = .ok (.ifCond .eq 43, 3) := by decide +kernel
theorem dX1_giveWords_19 : decode cX1_giveWords 19 = .ok (.aload_n 1, 1) := by decide +kernel
theorem dX1_giveWords_20 : decode cX1_giveWords 20 = .ok (.aload_n 0, 1) := by decide +kernel
theorem dX1_giveWords_21 : decode cX1_giveWords 21 = .ok (.getfield 22, 3) := by decide +kernel
theorem dX1_giveWords_24 : decode cX1_giveWords 24 = .ok (.iload_n 3, 1) := by decide +kernel
theorem dX1_giveWords_25 : decode cX1_giveWords 25 = .ok (.iload 4, 2) := by decide +kernel
theorem dX1_giveWords_27 : decode cX1_giveWords 27 = .ok (.iadd, 1) := by decide +kernel
theorem dX1_giveWords_28 : decode cX1_giveWords 28 = .ok (.iaload, 1) := by decide +kernel
theorem dX1_giveWords_29 : decode cX1_giveWords 29 = .ok (.aload_n 0, 1) := by decide +kernel
theorem dX1_giveWords_30 : decode cX1_giveWords 30 = .ok (.getfield 34, 3) := by decide +kernel
theorem dX1_giveWords_33 : decode cX1_giveWords 33 = .ok (.invokevirtual 101, 3) := by decide +kernel
theorem dX1_giveWords_36 : decode cX1_giveWords 36 = .ok (.aload_n 0, 1) := by decide +kernel
theorem dX1_giveWords_37 : decode cX1_giveWords 37 = .ok (.getfield 34, 3) := by decide +kernel
theorem dX1_giveWords_40 : decode cX1_giveWords 40 = .ok (.invokevirtual 105, 3) := by decide +kernel
theorem dX1_giveWords_43 : decode cX1_giveWords 43 = .ok (.invokevirtual 109, 3) := by decide +kernel
theorem dX1_giveWords_46 : decode cX1_giveWords 46 = .ok (.aload_n 0, 1) := by decide +kernel
theorem dX1_giveWords_47 : decode cX1_giveWords 47 = .ok (.getfield 34, 3) := by decide +kernel
theorem dX1_giveWords_50 : decode cX1_giveWords 50 = .ok (.invokevirtual 113, 3) := by decide +kernel
theorem dX1_giveWords_53 : decode cX1_giveWords 53 = .ok (.iinc 4 1, 3) := by decide +kernel
theorem dX1_giveWords_56 : decode cX1_giveWords 56 = .ok (.goto (-53), 3) := by decide +kernel
theorem dX1_giveWords_59 : decode cX1_giveWords 59 = .ok (.return_, 1) := by decide +kernel
theorem dX1_continueFirst_0 : decode cX1_continueFirst 0 = .ok (.aload_n 0, 1) := by decide +kernel
theorem dX1_continueFirst_1 : decode cX1_continueFirst 1 = .ok (.getfield 34, 3) := by decide +kernel
theorem dX1_continueFirst_4 : decode cX1_continueFirst 4 = .ok (.invokevirtual 97, 3) := by decide +kernel
theorem dX1_continueFirst_7 : decode cX1_continueFirst 7 = .ok (.ifCond .ne 4, 3) := by decide +kernel
theorem dX1_continueFirst_10 : decode cX1_continueFirst 10 = .ok (.return_, 1) := by decide +kernel
theorem dX1_continueFirst_11 : decode cX1_continueFirst 11 = .ok (.aload_n 0, 1) := by decide +kernel
theorem dX1_continueFirst_12 : decode cX1_continueFirst 12 = .ok (.getfield 34, 3) := by decide +kernel
theorem dX1_continueFirst_15 : decode cX1_continueFirst 15 = .ok (.invokevirtual 101, 3) := by decide +kernel
theorem dX1_continueFirst_18 : decode cX1_continueFirst 18 = .ok (.lstore_n 1, 1) := by decide +kernel
theorem dX1_continueFirst_19 : decode cX1_continueFirst 19 = .ok (.aload_n 0, 1) := by decide +kernel
theorem dX1_continueFirst_20 : decode cX1_continueFirst 20 = .ok (.getfield 34, 3) := by decide +kernel
theorem dX1_continueFirst_23 : decode cX1_continueFirst 23 = .ok (.invokevirtual 105, 3) := by decide +kernel
theorem dX1_continueFirst_26 : decode cX1_continueFirst 26 = .ok (.istore_n 3, 1) := by decide +kernel
theorem dX1_continueFirst_27 : decode cX1_continueFirst 27 = .ok (.aload_n 0, 1) := by decide +kernel
theorem dX1_continueFirst_28 : decode cX1_continueFirst 28 = .ok (.getfield 34, 3) := by decide +kernel
theorem dX1_continueFirst_31 : decode cX1_continueFirst 31 = .ok (.invokevirtual 116, 3) := by decide +kernel
theorem dX1_continueFirst_34 : decode cX1_continueFirst 34 = .ok (.istore 4, 2) := by decide +kernel
theorem dX1_continueFirst_36 : decode cX1_continueFirst 36 = .ok (.aload_n 0, 1) := by decide +kernel
theorem dX1_continueFirst_37 : decode cX1_continueFirst 37 = .ok (.getfield 34, 3) := by decide +kernel
theorem dX1_continueFirst_40 : decode cX1_continueFirst 40 = .ok (.invokevirtual 113, 3) := by decide +kernel
theorem dX1_continueFirst_43 : decode cX1_continueFirst 43 = .ok (.iconst 0, 1) := by decide +kernel
theorem dX1_continueFirst_44 : decode cX1_continueFirst 44 = .ok (.istore 5, 2) := by decide +kernel
theorem dX1_continueFirst_46 : decode cX1_continueFirst 46 = .ok (.iload 5, 2) := by decide +kernel
theorem dX1_continueFirst_48 : decode cX1_continueFirst 48 = .ok (.aload_n 0, 1) := by decide +kernel
theorem dX1_continueFirst_49 : decode cX1_continueFirst 49 = .ok (.getfield 38, 3) := by decide +kernel
theorem dX1_continueFirst_52 : decode cX1_continueFirst 52 = .ok (.if_icmp .ge 36, 3) := by decide +kernel
theorem dX1_continueFirst_55 : decode cX1_continueFirst 55 = .ok (.aload_n 0, 1) := by decide +kernel
theorem dX1_continueFirst_56 : decode cX1_continueFirst 56 = .ok (.getfield 34, 3) := by decide +kernel
theorem dX1_continueFirst_59 : decode cX1_continueFirst 59 = .ok (.lload_n 1, 1) := by decide +kernel
theorem dX1_continueFirst_60 : decode cX1_continueFirst 60 = .ok (.iload_n 3, 1) := by decide +kernel
theorem dX1_continueFirst_61 : decode cX1_continueFirst 61 = .ok (.iload 5, 2) := by decide +kernel
theorem dX1_continueFirst_63 : decode cX1_continueFirst 63 = .ok (.invokestatic 119, 3) := by decide +kernel
theorem dX1_continueFirst_66 : decode cX1_continueFirst 66 = .ok (.iload_n 3, 1) := by decide +kernel
theorem dX1_continueFirst_67 : decode cX1_continueFirst 67 = .ok (.iconst 1, 1) := by decide +kernel
theorem dX1_continueFirst_68 : decode cX1_continueFirst 68 = .ok (.iadd, 1) := by decide +kernel
theorem dX1_continueFirst_69 : decode cX1_continueFirst 69 = .ok (.iload 4, 2) := by decide +kernel
theorem dX1_continueFirst_71 : decode cX1_continueFirst 71 = .ok (.aload_n 0, 1) := by decide +kernel
theorem dX1_continueFirst_72 : decode cX1_continueFirst 72 = .ok (.getfield 25, 3) := by decide +kernel
theorem dX1_continueFirst_75 : decode cX1_continueFirst 75 = .ok (.iload 5, 2) := by decide +kernel
theorem dX1_continueFirst_77 : decode cX1_continueFirst 77 = .ok (.iaload, 1) := by decide +kernel
theorem dX1_continueFirst_78 : decode cX1_continueFirst 78 = .ok (.iadd, 1) := by decide +kernel
theorem dX1_continueFirst_79 : decode cX1_continueFirst 79 = .ok (.invokevirtual 123, 3) := by decide +kernel
theorem dX1_continueFirst_82 : decode cX1_continueFirst 82 = .ok (.iinc 5 1, 3) := by decide +kernel
theorem dX1_continueFirst_85 : decode cX1_continueFirst 85 = .ok (.goto (-39), 3) := by decide +kernel
theorem dX1_continueFirst_88 : decode cX1_continueFirst 88 = .ok (.return_, 1) := by decide +kernel
theorem dX1_wordsAt_0 : decode cX1_wordsAt 0 = .ok (.iload_n 2, 1) := by decide +kernel
theorem dX1_wordsAt_1 : decode cX1_wordsAt 1 = .ok (.iload 5, 2) := by decide +kernel
theorem dX1_wordsAt_3 : decode cX1_wordsAt 3 = .ok (.if_icmp .lt 6, 3) := by decide +kernel
theorem dX1_wordsAt_6 : decode cX1_wordsAt 6 = .ok (.iload 5, 2) := by decide +kernel
theorem dX1_wordsAt_8 : decode cX1_wordsAt 8 = .ok (.ireturn, 1) := by decide +kernel
theorem dX1_wordsAt_9 : decode cX1_wordsAt 9 = .ok (.aload_n 0, 1) := by decide +kernel
theorem dX1_wordsAt_10 : decode cX1_wordsAt 10 = .ok (.iload_n 1, 1) := by decide +kernel
theorem dX1_wordsAt_11 : decode cX1_wordsAt 11 = .ok (.iload_n 2, 1) := by decide +kernel
theorem dX1_wordsAt_12 : decode cX1_wordsAt 12 = .ok (.iload_n 3, 1) := by decide +kernel
theorem dX1_wordsAt_13 : decode cX1_wordsAt 13 = .ok (.iload 4, 2) := by decide +kernel
theorem dX1_wordsAt_15 : decode cX1_wordsAt 15 = .ok (.iload 5, 2) := by decide +kernel
theorem dX1_wordsAt_17 : decode cX1_wordsAt 17 = .ok (.invokevirtual 71, 3) := by decide +kernel
theorem dX1_wordsAt_20 : decode cX1_wordsAt 20 = .ok (.lstore 6, 2) := by decide +kernel
theorem dX1_wordsAt_22 : decode cX1_wordsAt 22 = .ok (.iload_n 2, 1) := by decide +kernel
theorem dX1_wordsAt_23 : decode cX1_wordsAt 23 = .ok (.istore 8, 2) := by decide +kernel
theorem dX1_wordsAt_25 : decode cX1_wordsAt 25 = .ok (.iload 8, 2) := by decide +kernel
theorem dX1_wordsAt_27 : decode cX1_wordsAt 27 = .ok (.ifCond .le 31, 3) := by decide +kernel
theorem dX1_wordsAt_30 : decode cX1_wordsAt 30 = .ok (.aload_n 0, 1) := by decide +kernel
theorem dX1_wordsAt_31 : decode cX1_wordsAt 31 = .ok (.iload_n 1, 1) := by decide +kernel
theorem dX1_wordsAt_32 : decode cX1_wordsAt 32 = .ok (.iload_n 2, 1) := by decide +kernel
theorem dX1_wordsAt_33 : decode cX1_wordsAt 33 = .ok (.iload_n 3, 1) := by decide +kernel
theorem dX1_wordsAt_34 : decode cX1_wordsAt 34 = .ok (.iload 4, 2) := by decide +kernel
theorem dX1_wordsAt_36 : decode cX1_wordsAt 36 = .ok (.iload 5, 2) := by decide +kernel
theorem dX1_wordsAt_38 : decode cX1_wordsAt 38 = .ok (.iload 8, 2) := by decide +kernel
theorem dX1_wordsAt_40 : decode cX1_wordsAt 40 = .ok (.invokevirtual 127, 3) := by decide +kernel
theorem dX1_wordsAt_43 : decode cX1_wordsAt 43 = .ok (.lload 6, 2) := by decide +kernel
theorem dX1_wordsAt_45 : decode cX1_wordsAt 45 = .ok (.lcmp, 1) := by decide +kernel
theorem dX1_wordsAt_46 : decode cX1_wordsAt 46 = .ok (.ifCond .ne 6, 3) := by decide +kernel
theorem dX1_wordsAt_49 : decode cX1_wordsAt 49 = .ok (.iload 8, 2) := by decide +kernel
theorem dX1_wordsAt_51 : decode cX1_wordsAt 51 = .ok (.ireturn, 1) := by decide +kernel
theorem dX1_wordsAt_52 : decode cX1_wordsAt 52 = .ok (.iinc 8 (-1), 3) := by decide +kernel
theorem dX1_wordsAt_55 : decode cX1_wordsAt 55 = .ok (.goto (-30), 3) := by decide +kernel
theorem dX1_wordsAt_58 : decode cX1_wordsAt 58 = .ok (.iconst 0, 1) := by decide +kernel
theorem dX1_wordsAt_59 : decode cX1_wordsAt 59 = .ok (.ireturn, 1) := by decide +kernel
theorem dX1_least_0 : decode cX1_least 0 = .ok (.iload_n 2, 1) := by decide +kernel
theorem dX1_least_1 : decode cX1_least 1 = .ok (.iload 5, 2) := by decide +kernel
theorem dX1_least_3 : decode cX1_least 3 = .ok (.if_icmp .lt 5, 3) := by decide +kernel
theorem dX1_least_6 : decode cX1_least 6 = .ok (.lconst 0, 1) := by decide +kernel
theorem dX1_least_7 : decode cX1_least 7 = .ok (.lreturn, 1) := by decide +kernel
theorem dX1_least_8 : decode cX1_least 8 = .ok (.aload_n 0, 1) := by decide +kernel
theorem dX1_least_9 : decode cX1_least 9 = .ok (.getfield 46, 3) := by decide +kernel
theorem dX1_least_12 : decode cX1_least 12 = .ok (.ifCond .le 10, 3) := by decide +kernel
theorem dX1_least_15 : decode cX1_least 15 = .ok (.aload_n 0, 1) := by decide +kernel
theorem dX1_least_16 : decode cX1_least 16 = .ok (.getfield 46, 3) := by decide +kernel
theorem dX1_least_19 : decode cX1_least 19 = .ok (.goto 5, 3) := by decide +kernel
theorem dX1_least_22 : decode cX1_least 22 = .ok (.bipush 40, 2) := by decide +kernel
theorem dX1_least_24 : decode cX1_least 24 = .ok (.istore 6, 2) := by decide +kernel
theorem dX1_least_26 : decode cX1_least 26 = .ok (.iload_n 1, 1) := by decide +kernel
theorem dX1_least_27 : decode cX1_least 27 = .ok (.iload 6, 2) := by decide +kernel
theorem dX1_least_29 : decode cX1_least 29 = .ok (.if_icmp .ge 12, 3) := by decide +kernel
theorem dX1_least_32 : decode cX1_least 32 = .ok (.iload_n 2, 1) := by decide +kernel
theorem dX1_least_33 : decode cX1_least 33 = .ok (.iload_n 3, 1) := by decide +kernel
theorem dX1_least_34 : decode cX1_least 34 = .ok (.iadd, 1) := by decide +kernel
theorem dX1_least_35 : decode cX1_least 35 = .ok (.iload 4, 2) := by decide +kernel
theorem dX1_least_37 : decode cX1_least 37 = .ok (.iadd, 1) := by decide +kernel
theorem dX1_least_38 : decode cX1_least 38 = .ok (.ifCond .ne 7, 3) := by decide +kernel
theorem dX1_least_41 : decode cX1_least 41 = .ok (.ldc2_w 75, 3) := by decide +kernel
theorem dX1_least_44 : decode cX1_least 44 = .ok (.lreturn, 1) := by decide +kernel
theorem dX1_least_45 : decode cX1_least 45 = .ok (.aload_n 0, 1) := by decide +kernel
theorem dX1_least_46 : decode cX1_least 46 = .ok (.iload_n 1, 1) := by decide +kernel
theorem dX1_least_47 : decode cX1_least 47 = .ok (.iload_n 2, 1) := by decide +kernel
theorem dX1_least_48 : decode cX1_least 48 = .ok (.iload_n 3, 1) := by decide +kernel
theorem dX1_least_49 : decode cX1_least 49 = .ok (.iload 4, 2) := by decide +kernel
theorem dX1_least_51 : decode cX1_least 51 = .ok (.iload 5, 2) := by decide +kernel
theorem dX1_least_53 : decode cX1_least 53 = .ok (.invokevirtual 131, 3) := by decide +kernel
theorem dX1_least_56 : decode cX1_least 56 = .ok (.istore 7, 2) := by decide +kernel
theorem dX1_least_58 : decode cX1_least 58 = .ok (.aload_n 0, 1) := by decide +kernel
theorem dX1_least_59 : decode cX1_least 59 = .ok (.getfield 15, 3) := by decide +kernel
theorem dX1_least_62 : decode cX1_least 62 = .ok (.iload 7, 2) := by decide +kernel
theorem dX1_least_64 : decode cX1_least 64 = .ok (.iaload, 1) := by decide +kernel
theorem dX1_least_65 : decode cX1_least 65 = .ok (.aload_n 0, 1) := by decide +kernel
theorem dX1_least_66 : decode cX1_least 66 = .ok (.getfield 68, 3) := by decide +kernel
theorem dX1_least_69 : decode cX1_least 69 = .ok (.if_icmp .ne 11, 3) := by decide +kernel
theorem dX1_least_72 : decode cX1_least 72 = .ok (.aload_n 0, 1) := by decide +kernel
theorem dX1_least_73 : decode cX1_least 73 = .ok (.getfield 11, 3) := by decide +kernel
theorem dX1_least_76 : decode cX1_least 76 = .ok (.iload 7, 2) := by decide +kernel
theorem dX1_least_78 : decode cX1_least 78 = .ok (.laload, 1) := by decide +kernel
theorem dX1_least_79 : decode cX1_least 79 = .ok (.lreturn, 1) := by decide +kernel
theorem dX1_least_80 : decode cX1_least 80 = .ok (.ldc2_w 75, 3) := by decide +kernel
theorem dX1_least_83 : decode cX1_least 83 = .ok (.lstore 8, 2) := by decide +kernel
theorem dX1_least_85 : decode cX1_least 85 = .ok (.iconst 0, 1) := by decide +kernel
theorem dX1_least_86 : decode cX1_least 86 = .ok (.istore 10, 2) := by decide +kernel
theorem dX1_least_88 : decode cX1_least 88 = .ok (.iload 10, 2) := by decide +kernel
theorem dX1_least_90 : decode cX1_least 90 = .ok (.iload_n 2, 1) := by decide +kernel
theorem dX1_least_91 : decode cX1_least 91 = .ok (.if_icmp .gt 29, 3) := by decide +kernel
theorem dX1_least_94 : decode cX1_least 94 = .ok (.lload 8, 2) := by decide +kernel
theorem dX1_least_96 : decode cX1_least 96 = .ok (.aload_n 0, 1) := by decide +kernel
theorem dX1_least_97 : decode cX1_least 97 = .ok (.iload_n 1, 1) := by decide +kernel
theorem dX1_least_98 : decode cX1_least 98 = .ok (.iload_n 2, 1) := by decide +kernel
theorem dX1_least_99 : decode cX1_least 99 = .ok (.iload_n 3, 1) := by decide +kernel
theorem dX1_least_100 : decode cX1_least 100 = .ok (.iload 4, 2) := by decide +kernel
theorem dX1_least_102 : decode cX1_least 102 = .ok (.iload 5, 2) := by decide +kernel
theorem dX1_least_104 : decode cX1_least 104 = .ok (.iload 10, 2) := by decide +kernel
theorem dX1_least_106 : decode cX1_least 106 = .ok (.invokevirtual 127, 3) := by decide +kernel
theorem dX1_least_109 : decode cX1_least 109 = .ok (.invokestatic 134, 3) := by decide +kernel
theorem dX1_least_112 : decode cX1_least 112 = .ok (.lstore 8, 2) := by decide +kernel
theorem dX1_least_114 : decode cX1_least 114 = .ok (.iinc 10 1, 3) := by decide +kernel
theorem dX1_least_117 : decode cX1_least 117 = .ok (.goto (-29), 3) := by decide +kernel
theorem dX1_least_120 : decode cX1_least 120 = .ok (.aload_n 0, 1) := by decide +kernel
theorem dX1_least_121 : decode cX1_least 121 = .ok (.getfield 15, 3) := by decide +kernel
theorem dX1_least_124 : decode cX1_least 124 = .ok (.iload 7, 2) := by decide +kernel
theorem dX1_least_126 : decode cX1_least 126 = .ok (.aload_n 0, 1) := by decide +kernel
theorem dX1_least_127 : decode cX1_least 127 = .ok (.getfield 68, 3) := by decide +kernel
theorem dX1_least_130 : decode cX1_least 130 = .ok (.iastore, 1) := by decide +kernel
theorem dX1_least_131 : decode cX1_least 131 = .ok (.aload_n 0, 1) := by decide +kernel
theorem dX1_least_132 : decode cX1_least 132 = .ok (.getfield 11, 3) := by decide +kernel
theorem dX1_least_135 : decode cX1_least 135 = .ok (.iload 7, 2) := by decide +kernel
theorem dX1_least_137 : decode cX1_least 137 = .ok (.lload 8, 2) := by decide +kernel
theorem dX1_least_139 : decode cX1_least 139 = .ok (.lastore, 1) := by decide +kernel
theorem dX1_least_140 : decode cX1_least 140 = .ok (.lload 8, 2) := by decide +kernel
theorem dX1_least_142 : decode cX1_least 142 = .ok (.lreturn, 1) := by decide +kernel
theorem dX1_leastWith_0 : decode cX1_leastWith 0 = .ok (.iload 5, 2) := by decide +kernel
theorem dX1_leastWith_2 : decode cX1_leastWith 2 = .ok (.iload 6, 2) := by decide +kernel
theorem dX1_leastWith_4 : decode cX1_leastWith 4 = .ok (.isub, 1) := by decide +kernel
theorem dX1_leastWith_5 : decode cX1_leastWith 5 = .ok (.istore 7, 2) := by decide +kernel
theorem dX1_leastWith_7 : decode cX1_leastWith 7 = .ok (.iload_n 2, 1) := by decide +kernel
theorem dX1_leastWith_8 : decode cX1_leastWith 8 = .ok (.iload 6, 2) := by decide +kernel
theorem dX1_leastWith_10 : decode cX1_leastWith 10 = .ok (.isub, 1) := by decide +kernel
theorem dX1_leastWith_11 : decode cX1_leastWith 11 = .ok (.istore 8, 2) := by decide +kernel
theorem dX1_leastWith_13 : decode cX1_leastWith 13 = .ok (.aload_n 0, 1) := by decide +kernel
theorem dX1_leastWith_14 : decode cX1_leastWith 14 = .ok (.iload_n 1, 1) := by decide +kernel
theorem dX1_leastWith_15 : decode cX1_leastWith 15 = .ok (.iconst 1, 1) := by decide +kernel
theorem dX1_leastWith_16 : decode cX1_leastWith 16 = .ok (.iadd, 1) := by decide +kernel
theorem dX1_leastWith_17 : decode cX1_leastWith 17 = .ok (.iload 7, 2) := by decide +kernel
theorem dX1_leastWith_19 : decode cX1_leastWith 19 = .ok (.iload_n 3, 1) := by decide +kernel
theorem dX1_leastWith_20 : decode cX1_leastWith 20 = .ok (.aload_n 0, 1) := by decide +kernel
theorem dX1_leastWith_21 : decode cX1_leastWith 21 = .ok (.getfield 28, 3) := by decide +kernel
theorem dX1_leastWith_24 : decode cX1_leastWith 24 = .ok (.iconst 1, 1) := by decide +kernel
theorem dX1_leastWith_25 : decode cX1_leastWith 25 = .ok (.iaload, 1) := by decide +kernel
theorem dX1_leastWith_26 : decode cX1_leastWith 26 = .ok (.iload 8, 2) := by decide +kernel
theorem dX1_leastWith_28 : decode cX1_leastWith 28 = .ok (.imul, 1) := by decide +kernel
theorem dX1_leastWith_29 : decode cX1_leastWith 29 = .ok (.iadd, 1) := by decide +kernel
theorem dX1_leastWith_30 : decode cX1_leastWith 30 = .ok (.invokestatic 55, 3) := by decide +kernel
theorem dX1_leastWith_33 : decode cX1_leastWith 33 = .ok (.iload 7, 2) := by decide +kernel
theorem dX1_leastWith_35 : decode cX1_leastWith 35 = .ok (.iload 4, 2) := by decide +kernel
theorem dX1_leastWith_37 : decode cX1_leastWith 37 = .ok (.aload_n 0, 1) := by decide +kernel
theorem dX1_leastWith_38 : decode cX1_leastWith 38 = .ok (.getfield 28, 3) := by decide +kernel
theorem dX1_leastWith_41 : decode cX1_leastWith 41 = .ok (.iconst 2, 1) := by decide +kernel
theorem dX1_leastWith_42 : decode cX1_leastWith 42 = .ok (.iaload, 1) := by decide +kernel
theorem dX1_leastWith_43 : decode cX1_leastWith 43 = .ok (.iload 8, 2) := by decide +kernel
theorem dX1_leastWith_45 : decode cX1_leastWith 45 = .ok (.imul, 1) := by decide +kernel
theorem dX1_leastWith_46 : decode cX1_leastWith 46 = .ok (.iadd, 1) := by decide +kernel
theorem dX1_leastWith_47 : decode cX1_leastWith 47 = .ok (.invokestatic 55, 3) := by decide +kernel
theorem dX1_leastWith_50 : decode cX1_leastWith 50 = .ok (.iload 7, 2) := by decide +kernel
theorem dX1_leastWith_52 : decode cX1_leastWith 52 = .ok (.aload_n 0, 1) := by decide +kernel
theorem dX1_leastWith_53 : decode cX1_leastWith 53 = .ok (.getfield 28, 3) := by decide +kernel
theorem dX1_leastWith_56 : decode cX1_leastWith 56 = .ok (.iconst 3, 1) := by decide +kernel
theorem dX1_leastWith_57 : decode cX1_leastWith 57 = .ok (.iaload, 1) := by decide +kernel
theorem dX1_leastWith_58 : decode cX1_leastWith 58 = .ok (.iload 8, 2) := by decide +kernel
theorem dX1_leastWith_60 : decode cX1_leastWith 60 = .ok (.imul, 1) := by decide +kernel
theorem dX1_leastWith_61 : decode cX1_leastWith 61 = .ok (.invokestatic 55, 3) := by decide +kernel
theorem dX1_leastWith_64 : decode cX1_leastWith 64 = .ok (.iload 7, 2) := by decide +kernel
theorem dX1_leastWith_66 : decode cX1_leastWith 66 = .ok (.invokevirtual 71, 3) := by decide +kernel
theorem dX1_leastWith_69 : decode cX1_leastWith 69 = .ok (.lstore 9, 2) := by decide +kernel
theorem dX1_leastWith_71 : decode cX1_leastWith 71 = .ok (.lload 9, 2) := by decide +kernel
theorem dX1_leastWith_73 : decode cX1_leastWith 73 = .ok (.ldc2_w 75, 3) := by decide +kernel
theorem dX1_leastWith_76 : decode cX1_leastWith 76 = .ok (.lcmp, 1) := by decide +kernel
theorem dX1_leastWith_77 : decode cX1_leastWith 77 = .ok (.ifCond .lt 9, 3) := by decide +kernel
theorem dX1_leastWith_80 : decode cX1_leastWith 80 = .ok (.ldc2_w 75, 3) := by decide +kernel
theorem dX1_leastWith_83 : decode cX1_leastWith 83 = .ok (.goto 13, 3) := by decide +kernel
theorem dX1_leastWith_86 : decode cX1_leastWith 86 = .ok (.aload_n 0, 1) := by decide +kernel
theorem dX1_leastWith_87 : decode cX1_leastWith 87 = .ok (.getfield 19, 3) := by decide +kernel
theorem dX1_leastWith_90 : decode cX1_leastWith 90 = .ok (.iload 7, 2) := by decide +kernel
theorem dX1_leastWith_92 : decode cX1_leastWith 92 = .ok (.laload, 1) := by decide +kernel
theorem dX1_leastWith_93 : decode cX1_leastWith 93 = .ok (.lload 9, 2) := by decide +kernel
theorem dX1_leastWith_95 : decode cX1_leastWith 95 = .ok (.ladd, 1) := by decide +kernel
theorem dX1_leastWith_96 : decode cX1_leastWith 96 = .ok (.lreturn, 1) := by decide +kernel
theorem dX1_memoPlace_0 : decode cX1_memoPlace 0 = .ok (.aload_n 0, 1) := by decide +kernel
theorem dX1_memoPlace_1 : decode cX1_memoPlace 1 = .ok (.getfield 42, 3) := by decide +kernel
theorem dX1_memoPlace_4 : decode cX1_memoPlace 4 = .ok (.ifCond .eq 24, 3) := by decide +kernel
theorem dX1_memoPlace_7 : decode cX1_memoPlace 7 = .ok (.iload 5, 2) := by decide +kernel
theorem dX1_memoPlace_9 : decode cX1_memoPlace 9 = .ok (.iconst 1, 1) := by decide +kernel
theorem dX1_memoPlace_10 : decode cX1_memoPlace 10 = .ok (.isub, 1) := by decide +kernel
theorem dX1_memoPlace_11 : decode cX1_memoPlace 11 = .ok (.bipush 8, 2) := by decide +kernel
theorem dX1_memoPlace_13 : decode cX1_memoPlace 13 = .ok (.imul, 1) := by decide +kernel
theorem dX1_memoPlace_14 : decode cX1_memoPlace 14 = .ok (.iload_n 2, 1) := by decide +kernel
theorem dX1_memoPlace_15 : decode cX1_memoPlace 15 = .ok (.iadd, 1) := by decide +kernel
theorem dX1_memoPlace_16 : decode cX1_memoPlace 16 = .ok (.bipush 9, 2) := by decide +kernel
theorem dX1_memoPlace_18 : decode cX1_memoPlace 18 = .ok (.imul, 1) := by decide +kernel
theorem dX1_memoPlace_19 : decode cX1_memoPlace 19 = .ok (.iload_n 3, 1) := by decide +kernel
theorem dX1_memoPlace_20 : decode cX1_memoPlace 20 = .ok (.iadd, 1) := by decide +kernel
theorem dX1_memoPlace_21 : decode cX1_memoPlace 21 = .ok (.bipush 9, 2) := by decide +kernel
theorem dX1_memoPlace_23 : decode cX1_memoPlace 23 = .ok (.imul, 1) := by decide +kernel
theorem dX1_memoPlace_24 : decode cX1_memoPlace 24 = .ok (.iload 4, 2) := by decide +kernel
theorem dX1_memoPlace_26 : decode cX1_memoPlace 26 = .ok (.iadd, 1) := by decide +kernel
theorem dX1_memoPlace_27 : decode cX1_memoPlace 27 = .ok (.ireturn, 1) := by decide +kernel
theorem dX1_memoPlace_28 : decode cX1_memoPlace 28 = .ok (.aload_n 0, 1) := by decide +kernel
theorem dX1_memoPlace_29 : decode cX1_memoPlace 29 = .ok (.getfield 46, 3) := by decide +kernel
theorem dX1_memoPlace_32 : decode cX1_memoPlace 32 = .ok (.ifCond .le 11, 3) := by decide +kernel
theorem dX1_memoPlace_35 : decode cX1_memoPlace 35 = .ok (.iload_n 1, 1) := by decide +kernel
theorem dX1_memoPlace_36 : decode cX1_memoPlace 36 = .ok (.sipush 300, 3) := by decide +kernel
theorem dX1_memoPlace_39 : decode cX1_memoPlace 39 = .ok (.imul, 1) := by decide +kernel
theorem dX1_memoPlace_40 : decode cX1_memoPlace 40 = .ok (.goto 4, 3) := by decide +kernel
theorem dX1_memoPlace_43 : decode cX1_memoPlace 43 = .ok (.iconst 0, 1) := by decide +kernel
theorem dX1_memoPlace_44 : decode cX1_memoPlace 44 = .ok (.iload 5, 2) := by decide +kernel
theorem dX1_memoPlace_46 : decode cX1_memoPlace 46 = .ok (.bipush 12, 2) := by decide +kernel
theorem dX1_memoPlace_48 : decode cX1_memoPlace 48 = .ok (.imul, 1) := by decide +kernel
theorem dX1_memoPlace_49 : decode cX1_memoPlace 49 = .ok (.iadd, 1) := by decide +kernel
theorem dX1_memoPlace_50 : decode cX1_memoPlace 50 = .ok (.iload_n 2, 1) := by decide +kernel
theorem dX1_memoPlace_51 : decode cX1_memoPlace 51 = .ok (.iconst 1, 1) := by decide +kernel
theorem dX1_memoPlace_52 : decode cX1_memoPlace 52 = .ok (.ishr, 1) := by decide +kernel
theorem dX1_memoPlace_53 : decode cX1_memoPlace 53 = .ok (.iadd, 1) := by decide +kernel
theorem dX1_memoPlace_54 : decode cX1_memoPlace 54 = .ok (.ireturn, 1) := by decide +kernel
theorem dX2_init_0 : decode cX2_init 0 = .ok (.aload_n 0, 1) := by decide +kernel
theorem dX2_init_1 : decode cX2_init 1 = .ok (.invokespecial 3, 3) := by decide +kernel
theorem dX2_init_4 : decode cX2_init 4 = .ok (.aload_n 0, 1) := by decide +kernel
theorem dX2_init_5 : decode cX2_init 5 = .ok (.sipush 200, 3) := by decide +kernel
theorem dX2_init_8 : decode cX2_init 8 = .ok (.newarray .int, 2) := by decide +kernel
theorem dX2_init_10 : decode cX2_init 10 = .ok (.putfield 9, 3) := by decide +kernel
theorem dX2_init_13 : decode cX2_init 13 = .ok (.aload_n 0, 1) := by decide +kernel
theorem dX2_init_14 : decode cX2_init 14 = .ok (.sipush 200, 3) := by decide +kernel
theorem dX2_init_17 : decode cX2_init 17 = .ok (.newarray .int, 2) := by decide +kernel
theorem dX2_init_19 : decode cX2_init 19 = .ok (.putfield 15, 3) := by decide +kernel
theorem dX2_init_22 : decode cX2_init 22 = .ok (.return_, 1) := by decide +kernel
theorem dX2_putSign_0 : decode cX2_putSign 0 = .ok (.aload_n 0, 1) := by decide +kernel
theorem dX2_putSign_1 : decode cX2_putSign 1 = .ok (.getfield 9, 3) := by decide +kernel
theorem dX2_putSign_4 : decode cX2_putSign 4 = .ok (.aload_n 0, 1) := by decide +kernel
theorem dX2_putSign_5 : decode cX2_putSign 5 = .ok (.getfield 18, 3) := by decide +kernel
theorem dX2_putSign_8 : decode cX2_putSign 8 = .ok (.iload_n 1, 1) := by decide +kernel
theorem dX2_putSign_9 : decode cX2_putSign 9 = .ok (.iastore, 1) := by decide +kernel
theorem dX2_putSign_10 : decode cX2_putSign 10 = .ok (.aload_n 0, 1) := by decide +kernel
theorem dX2_putSign_11 : decode cX2_putSign 11 = .ok (.dup, 1) := by decide +kernel
theorem dX2_putSign_12 : decode cX2_putSign 12 = .ok (.getfield 18, 3) := by decide +kernel
theorem dX2_putSign_15 : decode cX2_putSign 15 = .ok (.iconst 1, 1) := by decide +kernel
theorem dX2_putSign_16 : decode cX2_putSign 16 = .ok (.iadd, 1) := by decide +kernel
theorem dX2_putSign_17 : decode cX2_putSign 17 = .ok (.putfield 18, 3) := by decide +kernel
theorem dX2_putSign_20 : decode cX2_putSign 20 = .ok (.return_, 1) := by decide +kernel
theorem dX2_writeWord_0 : decode cX2_writeWord 0 = .ok (.aload_n 1, 1) := by decide +kernel
theorem dX2_writeWord_1 : decode cX2_writeWord 1 = .ok (.getfield 22, 3) := by decide +kernel
theorem dX2_writeWord_4 : decode cX2_writeWord 4 = .ok (.iload_n 2, 1) := by decide +kernel
theorem dX2_writeWord_5 : decode cX2_writeWord 5 = .ok (.iaload, 1) := by decide +kernel
theorem dX2_writeWord_6 : decode cX2_writeWord 6 = .ok (.istore_n 3, 1) := by decide +kernel
theorem dX2_writeWord_7 : decode cX2_writeWord 7 = .ok (.aload_n 0, 1) := by decide +kernel
theorem dX2_writeWord_8 : decode cX2_writeWord 8 = .ok (.getfield 18, 3) := by decide +kernel
theorem dX2_writeWord_11 : decode cX2_writeWord 11 = .ok (.iload_n 3, 1) := by decide +kernel
theorem dX2_writeWord_12 : decode cX2_writeWord 12 = .ok (.iadd, 1) := by decide +kernel
theorem dX2_writeWord_13 : decode cX2_writeWord 13 = .ok (.sipush 200, 3) := by decide +kernel
theorem dX2_writeWord_16 : decode cX2_writeWord 16 = .ok (.if_icmp .le 5, 3) := by decide +kernel
theorem dX2_writeWord_19 : decode cX2_writeWord 19 = .ok (.iconst 0, 1) := by decide +kernel
theorem dX2_writeWord_20 : decode cX2_writeWord 20 = .ok (.ireturn, 1) := by decide +kernel
theorem dX2_writeWord_21 : decode cX2_writeWord 21 = .ok (.iconst 0, 1) := by decide +kernel
theorem dX2_writeWord_22 : decode cX2_writeWord 22 = .ok (.istore 4, 2) := by decide +kernel
theorem dX2_writeWord_24 : decode cX2_writeWord 24 = .ok (.iload 4, 2) := by decide +kernel
theorem dX2_writeWord_26 : decode cX2_writeWord 26 = .ok (.iload_n 3, 1) := by decide +kernel
theorem dX2_writeWord_27 : decode cX2_writeWord 27 = .ok (.if_icmp .ge 24, 3) := by decide +kernel
theorem dX2_writeWord_30 : decode cX2_writeWord 30 = .ok (.aload_n 0, 1) := by decide +kernel
theorem dX2_writeWord_31 : decode cX2_writeWord 31 = .ok (.aload_n 1, 1) := by decide +kernel
theorem dX2_writeWord_32 : decode cX2_writeWord 32 = .ok (.getfield 27, 3) := by decide +kernel
theorem dX2_writeWord_35 : decode cX2_writeWord 35 = .ok (.iload_n 2, 1) := by decide +kernel
theorem dX2_writeWord_36 : decode cX2_writeWord 36 = .ok (.laload, 1) := by decide +kernel
theorem dX2_writeWord_37 : decode cX2_writeWord 37 = .ok (.iload 4, 2) := by decide +kernel
theorem dX2_writeWord_39 : decode cX2_writeWord 39 = .ok (.invokestatic 31, 3) := by decide +kernel
theorem dX2_writeWord_42 : decode cX2_writeWord 42 = .ok (.invokevirtual 35, 3) := by decide +kernel
theorem dX2_writeWord_45 : decode cX2_writeWord 45 = .ok (.iinc 4 1, 3) := by decide +kernel
theorem dX2_writeWord_48 : decode cX2_writeWord 48 = .ok (.goto (-24), 3) := by decide +kernel
theorem dX2_writeWord_51 : decode cX2_writeWord 51 = .ok (.iconst 1, 1) := by decide +kernel
theorem dX2_writeWord_52 : decode cX2_writeWord 52 = .ok (.ireturn, 1) := by decide +kernel
theorem dX2_beginReading_0 : decode cX2_beginReading 0 = .ok (.aload_n 0, 1) := by decide +kernel
theorem dX2_beginReading_1 : decode cX2_beginReading 1 = .ok (.iconst 0, 1) := by decide +kernel
theorem dX2_beginReading_2 : decode cX2_beginReading 2 = .ok (.putfield 39, 3) := by decide +kernel
theorem dX2_beginReading_5 : decode cX2_beginReading 5 = .ok (.aload_n 0, 1) := by decide +kernel
theorem dX2_beginReading_6 : decode cX2_beginReading 6 = .ok (.iconst 0, 1) := by decide +kernel
theorem dX2_beginReading_7 : decode cX2_beginReading 7 = .ok (.putfield 42, 3) := by decide +kernel
theorem dX2_beginReading_10 : decode cX2_beginReading 10 = .ok (.return_, 1) := by decide +kernel
theorem dX2_goesOn_0 : decode cX2_goesOn 0 = .ok (.aload_n 0, 1) := by decide +kernel
theorem dX2_goesOn_1 : decode cX2_goesOn 1 = .ok (.getfield 39, 3) := by decide +kernel
theorem dX2_goesOn_4 : decode cX2_goesOn 4 = .ok (.aload_n 0, 1) := by decide +kernel
theorem dX2_goesOn_5 : decode cX2_goesOn 5 = .ok (.getfield 18, 3) := by decide +kernel
theorem dX2_goesOn_8 : decode cX2_goesOn 8 = .ok (.if_icmp .ge 7, 3) := by decide +kernel
theorem dX2_goesOn_11 : decode cX2_goesOn 11 = .ok (.iconst 1, 1) := by decide +kernel
theorem dX2_goesOn_12 : decode cX2_goesOn 12 = .ok (.goto 4, 3) := by decide +kernel
theorem dX2_goesOn_15 : decode cX2_goesOn 15 = .ok (.iconst 0, 1) := by decide +kernel
theorem dX2_goesOn_16 : decode cX2_goesOn 16 = .ok (.ireturn, 1) := by decide +kernel
theorem dX2_readWord_0 : decode cX2_readWord 0 = .ok (.bipush 24, 2) := by decide +kernel
theorem dX2_readWord_2 : decode cX2_readWord 2 = .ok (.aload_n 0, 1) := by decide +kernel
theorem dX2_readWord_3 : decode cX2_readWord 3 = .ok (.getfield 18, 3) := by decide +kernel
theorem dX2_readWord_6 : decode cX2_readWord 6 = .ok (.aload_n 0, 1) := by decide +kernel
theorem dX2_readWord_7 : decode cX2_readWord 7 = .ok (.getfield 39, 3) := by decide +kernel
theorem dX2_readWord_10 : decode cX2_readWord 10 = .ok (.isub, 1) := by decide +kernel
theorem dX2_readWord_11 : decode cX2_readWord 11 = .ok (.invokestatic 45, 3) := by decide +kernel
theorem dX2_readWord_14 : decode cX2_readWord 14 = .ok (.istore_n 2, 1) := by decide +kernel
theorem dX2_readWord_15 : decode cX2_readWord 15 = .ok (.lconst 0, 1) := by decide +kernel
theorem dX2_readWord_16 : decode cX2_readWord 16 = .ok (.lstore_n 3, 1) := by decide +kernel
theorem dX2_readWord_17 : decode cX2_readWord 17 = .ok (.iconst 0, 1) := by decide +kernel
theorem dX2_readWord_18 : decode cX2_readWord 18 = .ok (.istore 5, 2) := by decide +kernel
theorem dX2_readWord_20 : decode cX2_readWord 20 = .ok (.iload 5, 2) := by decide +kernel
theorem dX2_readWord_22 : decode cX2_readWord 22 = .ok (.iload_n 2, 1) := by decide +kernel
theorem dX2_readWord_23 : decode cX2_readWord 23 = .ok (.if_icmp .ge 28, 3) := by decide +kernel
theorem dX2_readWord_26 : decode cX2_readWord 26 = .ok (.lload_n 3, 1) := by decide +kernel
theorem dX2_readWord_27 : decode cX2_readWord 27 = .ok (.iload 5, 2) := by decide +kernel
theorem dX2_readWord_29 : decode cX2_readWord 29 = .ok (.aload_n 0, 1) := by decide +kernel
theorem dX2_readWord_30 : decode cX2_readWord 30 = .ok (.getfield 9, 3) := by decide +kernel
theorem dX2_readWord_33 : decode cX2_readWord 33 = .ok (.aload_n 0, 1) := by decide +kernel
theorem dX2_readWord_34 : decode cX2_readWord 34 = .ok (.getfield 39, 3) := by decide +kernel
theorem dX2_readWord_37 : decode cX2_readWord 37 = .ok (.iload 5, 2) := by decide +kernel
theorem dX2_readWord_39 : decode cX2_readWord 39 = .ok (.iadd, 1) := by decide +kernel
theorem dX2_readWord_40 : decode cX2_readWord 40 = .ok (.iaload, 1) := by decide +kernel
theorem dX2_readWord_41 : decode cX2_readWord 41 = .ok (.invokestatic 51, 3) := by decide +kernel
theorem dX2_readWord_44 : decode cX2_readWord 44 = .ok (.lstore_n 3, 1) := by decide +kernel
theorem dX2_readWord_45 : decode cX2_readWord 45 = .ok (.iinc 5 1, 3) := by decide +kernel
theorem dX2_readWord_48 : decode cX2_readWord 48 = .ok (.goto (-28), 3) := by decide +kernel
theorem dX2_readWord_51 : decode cX2_readWord 51 = .ok (.iconst 0, 1) := by decide +kernel
theorem dX2_readWord_52 : decode cX2_readWord 52 = .ok (.istore 5, 2) := by decide +kernel
theorem dX2_readWord_54 : decode cX2_readWord 54 = .ok (.iconst 0, 1) := by decide +kernel
theorem dX2_readWord_55 : decode cX2_readWord 55 = .ok (.istore 6, 2) := by decide +kernel
theorem dX2_readWord_57 : decode cX2_readWord 57 = .ok (.iload 6, 2) := by decide +kernel
theorem dX2_readWord_59 : decode cX2_readWord 59 = .ok (.aload_n 1, 1) := by decide +kernel
theorem dX2_readWord_60 : decode cX2_readWord 60 = .ok (.getfield 55, 3) := by decide +kernel
theorem dX2_readWord_63 : decode cX2_readWord 63 = .ok (.if_icmp .ge 92, 3) := by decide +kernel
theorem dX2_readWord_66 : decode cX2_readWord 66 = .ok (.lload_n 3, 1) := by decide +kernel
theorem dX2_readWord_67 : decode cX2_readWord 67 = .ok (.aload_n 1, 1) := by decide +kernel
theorem dX2_readWord_68 : decode cX2_readWord 68 = .ok (.getfield 27, 3) := by decide +kernel
theorem dX2_readWord_71 : decode cX2_readWord 71 = .ok (.iload 6, 2) := by decide +kernel
theorem dX2_readWord_73 : decode cX2_readWord 73 = .ok (.laload, 1) := by decide +kernel
theorem dX2_readWord_74 : decode cX2_readWord 74 = .ok (.invokestatic 58, 3) := by decide +kernel
theorem dX2_readWord_77 : decode cX2_readWord 77 = .ok (.iload_n 2, 1) := by decide +kernel
theorem dX2_readWord_78 : decode cX2_readWord 78 = .ok (.aload_n 1, 1) := by decide +kernel
theorem dX2_readWord_79 : decode cX2_readWord 79 = .ok (.getfield 22, 3) := by decide +kernel
theorem dX2_readWord_82 : decode cX2_readWord 82 = .ok (.iload 6, 2) := by decide +kernel
theorem dX2_readWord_84 : decode cX2_readWord 84 = .ok (.iaload, 1) := by decide +kernel
theorem dX2_readWord_85 : decode cX2_readWord 85 = .ok (.invokestatic 45, 3) := by decide +kernel
theorem dX2_readWord_88 : decode cX2_readWord 88 = .ok (.invokestatic 45, 3) := by decide +kernel
theorem dX2_readWord_91 : decode cX2_readWord 91 = .ok (.istore 7, 2) := by decide +kernel
theorem dX2_readWord_93 : decode cX2_readWord 93 = .ok (.iload 7, 2) := by decide +kernel
theorem dX2_readWord_95 : decode cX2_readWord 95 = .ok (.aload_n 1, 1) := by decide +kernel
theorem dX2_readWord_96 : decode cX2_readWord 96 = .ok (.getfield 22, 3) := by decide +kernel
theorem dX2_readWord_99 : decode cX2_readWord 99 = .ok (.iload 6, 2) := by decide +kernel
theorem dX2_readWord_101 : decode cX2_readWord 101 = .ok (.iaload, 1) := by decide +kernel
theorem dX2_readWord_102 : decode cX2_readWord 102 = .ok (.if_icmp .ne 38, 3) := by decide +kernel
theorem dX2_readWord_105 : decode cX2_readWord 105 = .ok (.aload_n 0, 1) := by decide +kernel
theorem dX2_readWord_106 : decode cX2_readWord 106 = .ok (.dup, 1) := by decide +kernel
theorem dX2_readWord_107 : decode cX2_readWord 107 = .ok (.getfield 39, 3) := by decide +kernel
theorem dX2_readWord_110 : decode cX2_readWord 110 = .ok (.iload 7, 2) := by decide +kernel
theorem dX2_readWord_112 : decode cX2_readWord 112 = .ok (.iadd, 1) := by decide +kernel
theorem dX2_readWord_113 : decode cX2_readWord 113 = .ok (.putfield 39, 3) := by decide +kernel
theorem dX2_readWord_116 : decode cX2_readWord 116 = .ok (.aload_n 0, 1) := by decide +kernel
theorem dX2_readWord_117 : decode cX2_readWord 117 = .ok (.getfield 15, 3) := by decide +kernel
theorem dX2_readWord_120 : decode cX2_readWord 120 = .ok (.aload_n 0, 1) := by decide +kernel
theorem dX2_readWord_121 : decode cX2_readWord 121 = .ok (.getfield 42, 3) := by decide +kernel
theorem dX2_readWord_124 : decode cX2_readWord 124 = .ok (.iload 6, 2) := by decide +kernel
theorem dX2_readWord_126 : decode cX2_readWord 126 = .ok (.iastore, 1) := by decide +kernel
theorem dX2_readWord_127 : decode cX2_readWord 127 = .ok (.aload_n 0, 1) := by decide +kernel
theorem dX2_readWord_128 : decode cX2_readWord 128 = .ok (.dup, 1) := by decide +kernel
theorem dX2_readWord_129 : decode cX2_readWord 129 = .ok (.getfield 42, 3) := by decide +kernel
theorem dX2_readWord_132 : decode cX2_readWord 132 = .ok (.iconst 1, 1) := by decide +kernel
theorem dX2_readWord_133 : decode cX2_readWord 133 = .ok (.iadd, 1) := by decide +kernel
theorem dX2_readWord_134 : decode cX2_readWord 134 = .ok (.putfield 42, 3) := by decide +kernel
theorem dX2_readWord_137 : decode cX2_readWord 137 = .ok (.iload 6, 2) := by decide +kernel
theorem dX2_readWord_139 : decode cX2_readWord 139 = .ok (.ireturn, 1) := by decide +kernel
theorem dX2_readWord_140 : decode cX2_readWord 140 = .ok (.iload 5, 2) := by decide +kernel
theorem dX2_readWord_142 : decode cX2_readWord 142 = .ok (.iload 7, 2) := by decide +kernel
theorem dX2_readWord_144 : decode cX2_readWord 144 = .ok (.invokestatic 62, 3) := by decide +kernel
theorem dX2_readWord_147 : decode cX2_readWord 147 = .ok (.istore 5, 2) := by decide +kernel
theorem dX2_readWord_149 : decode cX2_readWord 149 = .ok (.iinc 6 1, 3) := by decide +kernel
theorem dX2_readWord_152 : decode cX2_readWord 152 = .ok (.goto (-95), 3) := by decide +kernel
theorem dX2_readWord_155 : decode cX2_readWord 155 = .ok (.bipush (-100), 2) := by decide +kernel
theorem dX2_readWord_157 : decode cX2_readWord 157 = .ok (.aload_n 0, 1) := by decide +kernel
theorem dX2_readWord_158 : decode cX2_readWord 158 = .ok (.getfield 39, 3) := by decide +kernel
theorem dX2_readWord_161 : decode cX2_readWord 161 = .ok (.isub, 1) := by decide +kernel
theorem dX2_readWord_162 : decode cX2_readWord 162 = .ok (.iload 5, 2) := by decide +kernel
theorem dX2_readWord_164 : decode cX2_readWord 164 = .ok (.isub, 1) := by decide +kernel
theorem dX2_readWord_165 : decode cX2_readWord 165 = .ok (.ireturn, 1) := by decide +kernel
theorem dX3_init_0 : decode cX3_init 0 = .ok (.aload_n 0, 1) := by decide +kernel
theorem dX3_init_1 : decode cX3_init 1 = .ok (.invokespecial 3, 3) := by decide +kernel
theorem dX3_init_4 : decode cX3_init 4 = .ok (.aload_n 0, 1) := by decide +kernel
theorem dX3_init_5 : decode cX3_init 5 = .ok (.bipush 97, 2) := by decide +kernel
theorem dX3_init_7 : decode cX3_init 7 = .ok (.newarray .long, 2) := by decide +kernel
theorem dX3_init_9 : decode cX3_init 9 = .ok (.putfield 11, 3) := by decide +kernel
theorem dX3_init_12 : decode cX3_init 12 = .ok (.aload_n 0, 1) := by decide +kernel
theorem dX3_init_13 : decode cX3_init 13 = .ok (.bipush 97, 2) := by decide +kernel
theorem dX3_init_15 : decode cX3_init 15 = .ok (.newarray .int, 2) := by decide +kernel
theorem dX3_init_17 : decode cX3_init 17 = .ok (.putfield 15, 3) := by decide +kernel
theorem dX3_init_20 : decode cX3_init 20 = .ok (.aload_n 0, 1) := by decide +kernel
theorem dX3_init_21 : decode cX3_init 21 = .ok (.bipush 97, 2) := by decide +kernel
theorem dX3_init_23 : decode cX3_init 23 = .ok (.newarray .int, 2) := by decide +kernel
theorem dX3_init_25 : decode cX3_init 25 = .ok (.putfield 19, 3) := by decide +kernel
theorem dX3_init_28 : decode cX3_init 28 = .ok (.return_, 1) := by decide +kernel
theorem dX3_start_0 : decode cX3_start 0 = .ok (.aload_n 0, 1) := by decide +kernel
theorem dX3_start_1 : decode cX3_start 1 = .ok (.iconst 0, 1) := by decide +kernel
theorem dX3_start_2 : decode cX3_start 2 = .ok (.putfield 22, 3) := by decide +kernel
theorem dX3_start_5 : decode cX3_start 5 = .ok (.aload_n 0, 1) := by decide +kernel
theorem dX3_start_6 : decode cX3_start 6 = .ok (.iconst 0, 1) := by decide +kernel
theorem dX3_start_7 : decode cX3_start 7 = .ok (.putfield 26, 3) := by decide +kernel
theorem dX3_start_10 : decode cX3_start 10 = .ok (.aload_n 0, 1) := by decide +kernel
theorem dX3_start_11 : decode cX3_start 11 = .ok (.lconst 0, 1) := by decide +kernel
theorem dX3_start_12 : decode cX3_start 12 = .ok (.iconst 0, 1) := by decide +kernel
theorem dX3_start_13 : decode cX3_start 13 = .ok (.iconst 0, 1) := by decide +kernel
theorem dX3_start_14 : decode cX3_start 14 = .ok (.invokevirtual 29, 3) := by decide +kernel
theorem dX3_start_17 : decode cX3_start 17 = .ok (.return_, 1) := by decide +kernel
theorem dX3_isAny_0 : decode cX3_isAny 0 = .ok (.aload_n 0, 1) := by decide +kernel
theorem dX3_isAny_1 : decode cX3_isAny 1 = .ok (.getfield 22, 3) := by decide +kernel
theorem dX3_isAny_4 : decode cX3_isAny 4 = .ok (.aload_n 0, 1) := by decide +kernel
theorem dX3_isAny_5 : decode cX3_isAny 5 = .ok (.getfield 26, 3) := by decide +kernel
theorem dX3_isAny_8 : decode cX3_isAny 8 = .ok (.if_icmp .ge 7, 3) := by decide +kernel
theorem dX3_isAny_11 : decode cX3_isAny 11 = .ok (.iconst 1, 1) := by decide +kernel
theorem dX3_isAny_12 : decode cX3_isAny 12 = .ok (.goto 4, 3) := by decide +kernel
theorem dX3_isAny_15 : decode cX3_isAny 15 = .ok (.iconst 0, 1) := by decide +kernel
theorem dX3_isAny_16 : decode cX3_isAny 16 = .ok (.ireturn, 1) := by decide +kernel
theorem dX3_firstRow_0 : decode cX3_firstRow 0 = .ok (.aload_n 0, 1) := by decide +kernel
theorem dX3_firstRow_1 : decode cX3_firstRow 1 = .ok (.getfield 11, 3) := by decide +kernel
theorem dX3_firstRow_4 : decode cX3_firstRow 4 = .ok (.aload_n 0, 1) := by decide +kernel
theorem dX3_firstRow_5 : decode cX3_firstRow 5 = .ok (.getfield 22, 3) := by decide +kernel
theorem dX3_firstRow_8 : decode cX3_firstRow 8 = .ok (.laload, 1) := by decide +kernel
theorem dX3_firstRow_9 : decode cX3_firstRow 9 = .ok (.lreturn, 1) := by decide +kernel
theorem dX3_firstSize_0 : decode cX3_firstSize 0 = .ok (.aload_n 0, 1) := by decide +kernel
theorem dX3_firstSize_1 : decode cX3_firstSize 1 = .ok (.getfield 15, 3) := by decide +kernel
theorem dX3_firstSize_4 : decode cX3_firstSize 4 = .ok (.aload_n 0, 1) := by decide +kernel
theorem dX3_firstSize_5 : decode cX3_firstSize 5 = .ok (.getfield 22, 3) := by decide +kernel
theorem dX3_firstSize_8 : decode cX3_firstSize 8 = .ok (.iaload, 1) := by decide +kernel
theorem dX3_firstSize_9 : decode cX3_firstSize 9 = .ok (.ireturn, 1) := by decide +kernel
theorem dX3_firstLevel_0 : decode cX3_firstLevel 0 = .ok (.aload_n 0, 1) := by decide +kernel
theorem dX3_firstLevel_1 : decode cX3_firstLevel 1 = .ok (.getfield 19, 3) := by decide +kernel
theorem dX3_firstLevel_4 : decode cX3_firstLevel 4 = .ok (.aload_n 0, 1) := by decide +kernel
theorem dX3_firstLevel_5 : decode cX3_firstLevel 5 = .ok (.getfield 22, 3) := by decide +kernel
theorem dX3_firstLevel_8 : decode cX3_firstLevel 8 = .ok (.iaload, 1) := by decide +kernel
theorem dX3_firstLevel_9 : decode cX3_firstLevel 9 = .ok (.ireturn, 1) := by decide +kernel
theorem dX3_dropFirst_0 : decode cX3_dropFirst 0 = .ok (.aload_n 0, 1) := by decide +kernel
theorem dX3_dropFirst_1 : decode cX3_dropFirst 1 = .ok (.dup, 1) := by decide +kernel
theorem dX3_dropFirst_2 : decode cX3_dropFirst 2 = .ok (.getfield 22, 3) := by decide +kernel
theorem dX3_dropFirst_5 : decode cX3_dropFirst 5 = .ok (.iconst 1, 1) := by decide +kernel
theorem dX3_dropFirst_6 : decode cX3_dropFirst 6 = .ok (.iadd, 1) := by decide +kernel
theorem dX3_dropFirst_7 : decode cX3_dropFirst 7 = .ok (.putfield 22, 3) := by decide +kernel
theorem dX3_dropFirst_10 : decode cX3_dropFirst 10 = .ok (.return_, 1) := by decide +kernel
theorem dX3_insert_0 : decode cX3_insert 0 = .ok (.aload_n 0, 1) := by decide +kernel
theorem dX3_insert_1 : decode cX3_insert 1 = .ok (.getfield 26, 3) := by decide +kernel
theorem dX3_insert_4 : decode cX3_insert 4 = .ok (.bipush 97, 2) := by decide +kernel
theorem dX3_insert_6 : decode cX3_insert 6 = .ok (.if_icmp .lt 4, 3) := by decide +kernel
theorem dX3_insert_9 : decode cX3_insert 9 = .ok (.return_, 1) := by decide +kernel
theorem dX3_insert_10 : decode cX3_insert 10 = .ok (.aload_n 0, 1) := by decide +kernel
theorem dX3_insert_11 : decode cX3_insert 11 = .ok (.getfield 26, 3) := by decide +kernel
theorem dX3_insert_14 : decode cX3_insert 14 = .ok (.istore 5, 2) := by decide +kernel
theorem dX3_insert_16 : decode cX3_insert 16 = .ok (.iload 5, 2) := by decide +kernel
theorem dX3_insert_18 : decode cX3_insert 18 = .ok (.aload_n 0, 1) := by decide +kernel
theorem dX3_insert_19 : decode cX3_insert 19 = .ok (.getfield 22, 3) := by decide +kernel
theorem dX3_insert_22 : decode cX3_insert 22 = .ok (.if_icmp .le 71, 3) := by decide +kernel
theorem dX3_insert_25 : decode cX3_insert 25 = .ok (.aload_n 0, 1) := by decide +kernel
theorem dX3_insert_26 : decode cX3_insert 26 = .ok (.iload 5, 2) := by decide +kernel
theorem dX3_insert_28 : decode cX3_insert 28 = .ok (.iconst 1, 1) := by decide +kernel
theorem dX3_insert_29 : decode cX3_insert 29 = .ok (.isub, 1) := by decide +kernel
theorem dX3_insert_30 : decode cX3_insert 30 = .ok (.lload_n 1, 1) := by decide +kernel
theorem dX3_insert_31 : decode cX3_insert 31 = .ok (.iload 4, 2) := by decide +kernel
theorem dX3_insert_33 : decode cX3_insert 33 = .ok (.invokevirtual 33, 3) := by decide +kernel
theorem dX3_insert_36 : decode cX3_insert 36 = .ok (.ifCond .eq 57, 3) := by decide +kernel
theorem dX3_insert_39 : decode cX3_insert 39 = .ok (.aload_n 0, 1) := by decide +kernel
theorem dX3_insert_40 : decode cX3_insert 40 = .ok (.getfield 11, 3) := by decide +kernel
theorem dX3_insert_43 : decode cX3_insert 43 = .ok (.iload 5, 2) := by decide +kernel
theorem dX3_insert_45 : decode cX3_insert 45 = .ok (.aload_n 0, 1) := by decide +kernel
theorem dX3_insert_46 : decode cX3_insert 46 = .ok (.getfield 11, 3) := by decide +kernel
theorem dX3_insert_49 : decode cX3_insert 49 = .ok (.iload 5, 2) := by decide +kernel
theorem dX3_insert_51 : decode cX3_insert 51 = .ok (.iconst 1, 1) := by decide +kernel
theorem dX3_insert_52 : decode cX3_insert 52 = .ok (.isub, 1) := by decide +kernel
theorem dX3_insert_53 : decode cX3_insert 53 = .ok (.laload, 1) := by decide +kernel
theorem dX3_insert_54 : decode cX3_insert 54 = .ok (.lastore, 1) := by decide +kernel
theorem dX3_insert_55 : decode cX3_insert 55 = .ok (.aload_n 0, 1) := by decide +kernel
theorem dX3_insert_56 : decode cX3_insert 56 = .ok (.getfield 15, 3) := by decide +kernel
theorem dX3_insert_59 : decode cX3_insert 59 = .ok (.iload 5, 2) := by decide +kernel
theorem dX3_insert_61 : decode cX3_insert 61 = .ok (.aload_n 0, 1) := by decide +kernel
theorem dX3_insert_62 : decode cX3_insert 62 = .ok (.getfield 15, 3) := by decide +kernel
theorem dX3_insert_65 : decode cX3_insert 65 = .ok (.iload 5, 2) := by decide +kernel
theorem dX3_insert_67 : decode cX3_insert 67 = .ok (.iconst 1, 1) := by decide +kernel
theorem dX3_insert_68 : decode cX3_insert 68 = .ok (.isub, 1) := by decide +kernel
theorem dX3_insert_69 : decode cX3_insert 69 = .ok (.iaload, 1) := by decide +kernel
theorem dX3_insert_70 : decode cX3_insert 70 = .ok (.iastore, 1) := by decide +kernel
theorem dX3_insert_71 : decode cX3_insert 71 = .ok (.aload_n 0, 1) := by decide +kernel
theorem dX3_insert_72 : decode cX3_insert 72 = .ok (.getfield 19, 3) := by decide +kernel
theorem dX3_insert_75 : decode cX3_insert 75 = .ok (.iload 5, 2) := by decide +kernel
theorem dX3_insert_77 : decode cX3_insert 77 = .ok (.aload_n 0, 1) := by decide +kernel
theorem dX3_insert_78 : decode cX3_insert 78 = .ok (.getfield 19, 3) := by decide +kernel
theorem dX3_insert_81 : decode cX3_insert 81 = .ok (.iload 5, 2) := by decide +kernel
theorem dX3_insert_83 : decode cX3_insert 83 = .ok (.iconst 1, 1) := by decide +kernel
theorem dX3_insert_84 : decode cX3_insert 84 = .ok (.isub, 1) := by decide +kernel
theorem dX3_insert_85 : decode cX3_insert 85 = .ok (.iaload, 1) := by decide +kernel
theorem dX3_insert_86 : decode cX3_insert 86 = .ok (.iastore, 1) := by decide +kernel
theorem dX3_insert_87 : decode cX3_insert 87 = .ok (.iinc 5 (-1), 3) := by decide +kernel
theorem dX3_insert_90 : decode cX3_insert 90 = .ok (.goto (-74), 3) := by decide +kernel
theorem dX3_insert_93 : decode cX3_insert 93 = .ok (.aload_n 0, 1) := by decide +kernel
theorem dX3_insert_94 : decode cX3_insert 94 = .ok (.getfield 11, 3) := by decide +kernel
theorem dX3_insert_97 : decode cX3_insert 97 = .ok (.iload 5, 2) := by decide +kernel
theorem dX3_insert_99 : decode cX3_insert 99 = .ok (.lload_n 1, 1) := by decide +kernel
theorem dX3_insert_100 : decode cX3_insert 100 = .ok (.lastore, 1) := by decide +kernel
theorem dX3_insert_101 : decode cX3_insert 101 = .ok (.aload_n 0, 1) := by decide +kernel
theorem dX3_insert_102 : decode cX3_insert 102 = .ok (.getfield 15, 3) := by decide +kernel
theorem dX3_insert_105 : decode cX3_insert 105 = .ok (.iload 5, 2) := by decide +kernel
theorem dX3_insert_107 : decode cX3_insert 107 = .ok (.iload_n 3, 1) := by decide +kernel
theorem dX3_insert_108 : decode cX3_insert 108 = .ok (.iastore, 1) := by decide +kernel
theorem dX3_insert_109 : decode cX3_insert 109 = .ok (.aload_n 0, 1) := by decide +kernel
theorem dX3_insert_110 : decode cX3_insert 110 = .ok (.getfield 19, 3) := by decide +kernel
theorem dX3_insert_113 : decode cX3_insert 113 = .ok (.iload 5, 2) := by decide +kernel
theorem dX3_insert_115 : decode cX3_insert 115 = .ok (.iload 4, 2) := by decide +kernel
theorem dX3_insert_117 : decode cX3_insert 117 = .ok (.iastore, 1) := by decide +kernel
theorem dX3_insert_118 : decode cX3_insert 118 = .ok (.aload_n 0, 1) := by decide +kernel
theorem dX3_insert_119 : decode cX3_insert 119 = .ok (.dup, 1) := by decide +kernel
theorem dX3_insert_120 : decode cX3_insert 120 = .ok (.getfield 26, 3) := by decide +kernel
theorem dX3_insert_123 : decode cX3_insert 123 = .ok (.iconst 1, 1) := by decide +kernel
theorem dX3_insert_124 : decode cX3_insert 124 = .ok (.iadd, 1) := by decide +kernel
theorem dX3_insert_125 : decode cX3_insert 125 = .ok (.putfield 26, 3) := by decide +kernel
theorem dX3_insert_128 : decode cX3_insert 128 = .ok (.return_, 1) := by decide +kernel
theorem dX3_isBehind_0 : decode cX3_isBehind 0 = .ok (.aload_n 0, 1) := by decide +kernel
theorem dX3_isBehind_1 : decode cX3_isBehind 1 = .ok (.getfield 19, 3) := by decide +kernel
theorem dX3_isBehind_4 : decode cX3_isBehind 4 = .ok (.iload_n 1, 1) := by decide +kernel
theorem dX3_isBehind_5 : decode cX3_isBehind 5 = .ok (.iaload, 1) := by decide +kernel
theorem dX3_isBehind_6 : decode cX3_isBehind 6 = .ok (.iload 4, 2) := by decide +kernel
theorem dX3_isBehind_8 : decode cX3_isBehind 8 = .ok (.if_icmp .gt 25, 3) := by decide +kernel
theorem dX3_isBehind_11 : decode cX3_isBehind 11 = .ok (.aload_n 0, 1) := by decide +kernel
theorem dX3_isBehind_12 : decode cX3_isBehind 12 = .ok (.getfield 19, 3) := by decide +kernel
theorem dX3_isBehind_15 : decode cX3_isBehind 15 = .ok (.iload_n 1, 1) := by decide +kernel
theorem dX3_isBehind_16 : decode cX3_isBehind 16 = .ok (.iaload, 1) := by decide +kernel
theorem dX3_isBehind_17 : decode cX3_isBehind 17 = .ok (.iload 4, 2) := by decide +kernel
theorem dX3_isBehind_19 : decode cX3_isBehind 19 = .ok (.if_icmp .ne 18, 3) := by decide +kernel
theorem dX3_isBehind_22 : decode cX3_isBehind 22 = .ok (.aload_n 0, 1) := by decide +kernel
theorem dX3_isBehind_23 : decode cX3_isBehind 23 = .ok (.getfield 11, 3) := by decide +kernel
theorem dX3_isBehind_26 : decode cX3_isBehind 26 = .ok (.iload_n 1, 1) := by decide +kernel
theorem dX3_isBehind_27 : decode cX3_isBehind 27 = .ok (.laload, 1) := by decide +kernel
theorem dX3_isBehind_28 : decode cX3_isBehind 28 = .ok (.lload_n 2, 1) := by decide +kernel
theorem dX3_isBehind_29 : decode cX3_isBehind 29 = .ok (.lcmp, 1) := by decide +kernel
theorem dX3_isBehind_30 : decode cX3_isBehind 30 = .ok (.ifCond .le 7, 3) := by decide +kernel
theorem dX3_isBehind_33 : decode cX3_isBehind 33 = .ok (.iconst 1, 1) := by decide +kernel
theorem dX3_isBehind_34 : decode cX3_isBehind 34 = .ok (.goto 4, 3) := by decide +kernel
theorem dX3_isBehind_37 : decode cX3_isBehind 37 = .ok (.iconst 0, 1) := by decide +kernel
theorem dX3_isBehind_38 : decode cX3_isBehind 38 = .ok (.ireturn, 1) := by decide +kernel
theorem dX4_init_0 : decode cX4_init 0 = .ok (.aload_n 0, 1) := by decide +kernel
theorem dX4_init_1 : decode cX4_init 1 = .ok (.invokespecial 3, 3) := by decide +kernel
theorem dX4_init_4 : decode cX4_init 4 = .ok (.aload_n 0, 1) := by decide +kernel
theorem dX4_init_5 : decode cX4_init 5 = .ok (.sipush 576, 3) := by decide +kernel
theorem dX4_init_8 : decode cX4_init 8 = .ok (.newarray .long, 2) := by decide +kernel
theorem dX4_init_10 : decode cX4_init 10 = .ok (.putfield 11, 3) := by decide +kernel
theorem dX4_init_13 : decode cX4_init 13 = .ok (.aload_n 0, 1) := by decide +kernel
theorem dX4_init_14 : decode cX4_init 14 = .ok (.sipush 2880, 3) := by decide +kernel
theorem dX4_init_17 : decode cX4_init 17 = .ok (.newarray .long, 2) := by decide +kernel
theorem dX4_init_19 : decode cX4_init 19 = .ok (.putfield 15, 3) := by decide +kernel
theorem dX4_init_22 : decode cX4_init 22 = .ok (.aload_n 0, 1) := by decide +kernel
theorem dX4_init_23 : decode cX4_init 23 = .ok (.bipush 25, 2) := by decide +kernel
theorem dX4_init_25 : decode cX4_init 25 = .ok (.newarray .long, 2) := by decide +kernel
theorem dX4_init_27 : decode cX4_init 27 = .ok (.putfield 18, 3) := by decide +kernel
theorem dX4_init_30 : decode cX4_init 30 = .ok (.aload_n 0, 1) := by decide +kernel
theorem dX4_init_31 : decode cX4_init 31 = .ok (.iconst 4, 1) := by decide +kernel
theorem dX4_init_32 : decode cX4_init 32 = .ok (.newarray .int, 2) := by decide +kernel
theorem dX4_init_34 : decode cX4_init 34 = .ok (.putfield 21, 3) := by decide +kernel
theorem dX4_init_37 : decode cX4_init 37 = .ok (.return_, 1) := by decide +kernel
theorem dX4_make_0 : decode cX4_make 0 = .ok (.aload_n 1, 1) := by decide +kernel
theorem dX4_make_1 : decode cX4_make 1 = .ok (.iload_n 3, 1) := by decide +kernel
theorem dX4_make_2 : decode cX4_make 2 = .ok (.invokevirtual 25, 3) := by decide +kernel
theorem dX4_make_5 : decode cX4_make 5 = .ok (.aload_n 0, 1) := by decide +kernel
theorem dX4_make_6 : decode cX4_make 6 = .ok (.aload_n 2, 1) := by decide +kernel
theorem dX4_make_7 : decode cX4_make 7 = .ok (.iconst 0, 1) := by decide +kernel
theorem dX4_make_8 : decode cX4_make 8 = .ok (.iload_n 3, 1) := by decide +kernel
theorem dX4_make_9 : decode cX4_make 9 = .ok (.iconst 1, 1) := by decide +kernel
theorem dX4_make_10 : decode cX4_make 10 = .ok (.isub, 1) := by decide +kernel
theorem dX4_make_11 : decode cX4_make 11 = .ok (.aload 4, 2) := by decide +kernel
theorem dX4_make_13 : decode cX4_make 13 = .ok (.iload 5, 2) := by decide +kernel
theorem dX4_make_15 : decode cX4_make 15 = .ok (.invokevirtual 31, 3) := by decide +kernel
theorem dX4_make_18 : decode cX4_make 18 = .ok (.iload_n 3, 1) := by decide +kernel
theorem dX4_make_19 : decode cX4_make 19 = .ok (.iconst 1, 1) := by decide +kernel
theorem dX4_make_20 : decode cX4_make 20 = .ok (.if_icmp .ne 21, 3) := by decide +kernel
theorem dX4_make_23 : decode cX4_make 23 = .ok (.aload_n 1, 1) := by decide +kernel
theorem dX4_make_24 : decode cX4_make 24 = .ok (.iconst 0, 1) := by decide +kernel
theorem dX4_make_25 : decode cX4_make 25 = .ok (.lconst 0, 1) := by decide +kernel
theorem dX4_make_26 : decode cX4_make 26 = .ok (.iconst 0, 1) := by decide +kernel
theorem dX4_make_27 : decode cX4_make 27 = .ok (.aload_n 0, 1) := by decide +kernel
theorem dX4_make_28 : decode cX4_make 28 = .ok (.invokevirtual 35, 3) := by decide +kernel
theorem dX4_make_31 : decode cX4_make 31 = .ok (.invokestatic 39, 3) := by decide +kernel
theorem dX4_make_34 : decode cX4_make 34 = .ok (.iconst 1, 1) := by decide +kernel
theorem dX4_make_35 : decode cX4_make 35 = .ok (.invokevirtual 43, 3) := by decide +kernel
theorem dX4_make_38 : decode cX4_make 38 = .ok (.goto 14, 3) := by decide +kernel
theorem dX4_make_41 : decode cX4_make 41 = .ok (.aload_n 0, 1) := by decide +kernel
theorem dX4_make_42 : decode cX4_make 42 = .ok (.aload_n 1, 1) := by decide +kernel
theorem dX4_make_43 : decode cX4_make 43 = .ok (.iconst 0, 1) := by decide +kernel
theorem dX4_make_44 : decode cX4_make 44 = .ok (.iload_n 3, 1) := by decide +kernel
theorem dX4_make_45 : decode cX4_make 45 = .ok (.iconst 1, 1) := by decide +kernel
theorem dX4_make_46 : decode cX4_make 46 = .ok (.isub, 1) := by decide +kernel
theorem dX4_make_47 : decode cX4_make 47 = .ok (.lconst 0, 1) := by decide +kernel
theorem dX4_make_48 : decode cX4_make 48 = .ok (.iconst 0, 1) := by decide +kernel
theorem dX4_make_49 : decode cX4_make 49 = .ok (.invokevirtual 47, 3) := by decide +kernel
theorem dX4_make_52 : decode cX4_make 52 = .ok (.return_, 1) := by decide +kernel
theorem dX4_leastOf_0 : decode cX4_leastOf 0 = .ok (.aload_n 0, 1) := by decide +kernel
theorem dX4_leastOf_1 : decode cX4_leastOf 1 = .ok (.getfield 11, 3) := by decide +kernel
theorem dX4_leastOf_4 : decode cX4_leastOf 4 = .ok (.iload_n 1, 1) := by decide +kernel
theorem dX4_leastOf_5 : decode cX4_leastOf 5 = .ok (.bipush 24, 2) := by decide +kernel
theorem dX4_leastOf_7 : decode cX4_leastOf 7 = .ok (.imul, 1) := by decide +kernel
theorem dX4_leastOf_8 : decode cX4_leastOf 8 = .ok (.iload_n 2, 1) := by decide +kernel
theorem dX4_leastOf_9 : decode cX4_leastOf 9 = .ok (.iadd, 1) := by decide +kernel
theorem dX4_leastOf_10 : decode cX4_leastOf 10 = .ok (.laload, 1) := by decide +kernel
theorem dX4_leastOf_11 : decode cX4_leastOf 11 = .ok (.lreturn, 1) := by decide +kernel
theorem dX4_weigh_0 : decode cX4_weigh 0 = .ok (.aload_n 0, 1) := by decide +kernel
theorem dX4_weigh_1 : decode cX4_weigh 1 = .ok (.iload 5, 2) := by decide +kernel
theorem dX4_weigh_3 : decode cX4_weigh 3 = .ok (.putfield 51, 3) := by decide +kernel
theorem dX4_weigh_6 : decode cX4_weigh 6 = .ok (.aload 4, 2) := by decide +kernel
theorem dX4_weigh_8 : decode cX4_weigh 8 = .ok (.iconst 0, 1) := by decide +kernel
theorem dX4_weigh_9 : decode cX4_weigh 9 = .ok (.aload_n 0, 1) := by decide +kernel
theorem dX4_weigh_10 : decode cX4_weigh 10 = .ok (.getfield 21, 3) := by decide +kernel
theorem dX4_weigh_13 : decode cX4_weigh 13 = .ok (.iconst 0, 1) := by decide +kernel
theorem dX4_weigh_14 : decode cX4_weigh 14 = .ok (.iconst 4, 1) := by decide +kernel
theorem dX4_weigh_15 : decode cX4_weigh 15 = .ok (.invokestatic 55, 3) := by decide +kernel
theorem dX4_weigh_18 : decode cX4_weigh 18 = .ok (.aload_n 0, 1) := by decide +kernel
theorem dX4_weigh_19 : decode cX4_weigh 19 = .ok (.getfield 18, 3) := by decide +kernel
theorem dX4_weigh_22 : decode cX4_weigh 22 = .ok (.iload_n 2, 1) := by decide +kernel
theorem dX4_weigh_23 : decode cX4_weigh 23 = .ok (.lconst 0, 1) := by decide +kernel
theorem dX4_weigh_24 : decode cX4_weigh 24 = .ok (.lastore, 1) := by decide +kernel
theorem dX4_weigh_25 : decode cX4_weigh 25 = .ok (.iload_n 2, 1) := by decide +kernel
theorem dX4_weigh_26 : decode cX4_weigh 26 = .ok (.istore 6, 2) := by decide +kernel
theorem dX4_weigh_28 : decode cX4_weigh 28 = .ok (.iload 6, 2) := by decide +kernel
theorem dX4_weigh_30 : decode cX4_weigh 30 = .ok (.iload_n 3, 1) := by decide +kernel
theorem dX4_weigh_31 : decode cX4_weigh 31 = .ok (.if_icmp .gt 31, 3) := by decide +kernel
theorem dX4_weigh_34 : decode cX4_weigh 34 = .ok (.aload_n 0, 1) := by decide +kernel
theorem dX4_weigh_35 : decode cX4_weigh 35 = .ok (.getfield 18, 3) := by decide +kernel
theorem dX4_weigh_38 : decode cX4_weigh 38 = .ok (.iload 6, 2) := by decide +kernel
theorem dX4_weigh_40 : decode cX4_weigh 40 = .ok (.iconst 1, 1) := by decide +kernel
theorem dX4_weigh_41 : decode cX4_weigh 41 = .ok (.iadd, 1) := by decide +kernel
theorem dX4_weigh_42 : decode cX4_weigh 42 = .ok (.aload_n 0, 1) := by decide +kernel
theorem dX4_weigh_43 : decode cX4_weigh 43 = .ok (.getfield 18, 3) := by decide +kernel
theorem dX4_weigh_46 : decode cX4_weigh 46 = .ok (.iload 6, 2) := by decide +kernel
theorem dX4_weigh_48 : decode cX4_weigh 48 = .ok (.laload, 1) := by decide +kernel
theorem dX4_weigh_49 : decode cX4_weigh 49 = .ok (.aload_n 1, 1) := by decide +kernel
theorem dX4_weigh_50 : decode cX4_weigh 50 = .ok (.iload 6, 2) := by decide +kernel
theorem dX4_weigh_52 : decode cX4_weigh 52 = .ok (.iaload, 1) := by decide +kernel
theorem dX4_weigh_53 : decode cX4_weigh 53 = .ok (.i2l, 1) := by decide +kernel
theorem dX4_weigh_54 : decode cX4_weigh 54 = .ok (.ladd, 1) := by decide +kernel
theorem dX4_weigh_55 : decode cX4_weigh 55 = .ok (.lastore, 1) := by decide +kernel
theorem dX4_weigh_56 : decode cX4_weigh 56 = .ok (.iinc 6 1, 3) := by decide +kernel
theorem dX4_weigh_59 : decode cX4_weigh 59 = .ok (.goto (-31), 3) := by decide +kernel
theorem dX4_weigh_62 : decode cX4_weigh 62 = .ok (.iconst 0, 1) := by decide +kernel
theorem dX4_weigh_63 : decode cX4_weigh 63 = .ok (.istore 6, 2) := by decide +kernel
theorem dX4_weigh_65 : decode cX4_weigh 65 = .ok (.iload 6, 2) := by decide +kernel
theorem dX4_weigh_67 : decode cX4_weigh 67 = .ok (.iload_n 3, 1) := by decide +kernel
theorem dX4_weigh_68 : decode cX4_weigh 68 = .ok (.iload_n 2, 1) := by decide +kernel
theorem dX4_weigh_69 : decode cX4_weigh 69 = .ok (.isub, 1) := by decide +kernel
theorem dX4_weigh_70 : decode cX4_weigh 70 = .ok (.if_icmp .gt 49, 3) := by decide +kernel
theorem dX4_weigh_73 : decode cX4_weigh 73 = .ok (.iload_n 2, 1) := by decide +kernel
theorem dX4_weigh_74 : decode cX4_weigh 74 = .ok (.istore 7, 2) := by decide +kernel
theorem dX4_weigh_76 : decode cX4_weigh 76 = .ok (.iload 7, 2) := by decide +kernel
theorem dX4_weigh_78 : decode cX4_weigh 78 = .ok (.iload 6, 2) := by decide +kernel
theorem dX4_weigh_80 : decode cX4_weigh 80 = .ok (.iadd, 1) := by decide +kernel
theorem dX4_weigh_81 : decode cX4_weigh 81 = .ok (.iload_n 3, 1) := by decide +kernel
theorem dX4_weigh_82 : decode cX4_weigh 82 = .ok (.if_icmp .gt 31, 3) := by decide +kernel
theorem dX4_weigh_85 : decode cX4_weigh 85 = .ok (.aload_n 0, 1) := by decide +kernel
theorem dX4_weigh_86 : decode cX4_weigh 86 = .ok (.iload 7, 2) := by decide +kernel
theorem dX4_weigh_88 : decode cX4_weigh 88 = .ok (.iload 7, 2) := by decide +kernel
theorem dX4_weigh_90 : decode cX4_weigh 90 = .ok (.iload 6, 2) := by decide +kernel
theorem dX4_weigh_92 : decode cX4_weigh 92 = .ok (.iadd, 1) := by decide +kernel
theorem dX4_weigh_93 : decode cX4_weigh 93 = .ok (.invokevirtual 61, 3) := by decide +kernel
theorem dX4_weigh_96 : decode cX4_weigh 96 = .ok (.aload_n 0, 1) := by decide +kernel
theorem dX4_weigh_97 : decode cX4_weigh 97 = .ok (.iload 7, 2) := by decide +kernel
theorem dX4_weigh_99 : decode cX4_weigh 99 = .ok (.iload 7, 2) := by decide +kernel
theorem dX4_weigh_101 : decode cX4_weigh 101 = .ok (.iload 6, 2) := by decide +kernel
theorem dX4_weigh_103 : decode cX4_weigh 103 = .ok (.iadd, 1) := by decide +kernel
theorem dX4_weigh_104 : decode cX4_weigh 104 = .ok (.invokevirtual 65, 3) := by decide +kernel
theorem dX4_weigh_107 : decode cX4_weigh 107 = .ok (.iinc 7 1, 3) := by decide +kernel
theorem dX4_weigh_110 : decode cX4_weigh 110 = .ok (.goto (-34), 3) := by decide +kernel
theorem dX4_weigh_113 : decode cX4_weigh 113 = .ok (.iinc 6 1, 3) := by decide +kernel
theorem dX4_weigh_116 : decode cX4_weigh 116 = .ok (.goto (-51), 3) := by decide +kernel
theorem dX4_weigh_119 : decode cX4_weigh 119 = .ok (.return_, 1) := by decide +kernel
theorem dX4_weighNode_0 : decode cX4_weighNode 0 = .ok (.iload_n 1, 1) := by decide +kernel
theorem dX4_weighNode_1 : decode cX4_weighNode 1 = .ok (.iload_n 2, 1) := by decide +kernel
theorem dX4_weighNode_2 : decode cX4_weighNode 2 = .ok (.if_icmp .ne 7, 3) := by decide +kernel
theorem dX4_weighNode_5 : decode cX4_weighNode 5 = .ok (.lconst 0, 1) := by decide +kernel
theorem dX4_weighNode_6 : decode cX4_weighNode 6 = .ok (.goto 6, 3) := by decide +kernel
theorem dX4_weighNode_9 : decode cX4_weighNode 9 = .ok (.ldc2_w 68, 3) := by decide +kernel
theorem dX4_weighNode_12 : decode cX4_weighNode 12 = .ok (.lstore_n 3, 1) := by decide +kernel
theorem dX4_weighNode_13 : decode cX4_weighNode 13 = .ok (.iconst 0, 1) := by decide +kernel
theorem dX4_weighNode_14 : decode cX4_weighNode 14 = .ok (.istore 5, 2) := by decide +kernel
theorem dX4_weighNode_16 : decode cX4_weighNode 16 = .ok (.iload 5, 2) := by decide +kernel
theorem dX4_weighNode_18 : decode cX4_weighNode 18 = .ok (.aload_n 0, 1) := by decide +kernel
theorem dX4_weighNode_19 : decode cX4_weighNode 19 = .ok (.getfield 51, 3) := by decide +kernel
theorem dX4_weighNode_22 : decode cX4_weighNode 22 = .ok (.if_icmp .ge 52, 3) := by decide +kernel
theorem dX4_weighNode_25 : decode cX4_weighNode 25 = .ok (.iload_n 1, 1) := by decide +kernel
theorem dX4_weighNode_26 : decode cX4_weighNode 26 = .ok (.istore 6, 2) := by decide +kernel
theorem dX4_weighNode_28 : decode cX4_weighNode 28 = .ok (.iload 6, 2) := by decide +kernel
theorem dX4_weighNode_30 : decode cX4_weighNode 30 = .ok (.iload_n 2, 1) := by decide +kernel
theorem dX4_weighNode_31 : decode cX4_weighNode 31 = .ok (.if_icmp .ge 37, 3) := by decide +kernel
theorem dX4_weighNode_34 : decode cX4_weighNode 34 = .ok (.lload_n 3, 1) := by decide +kernel
theorem dX4_weighNode_35 : decode cX4_weighNode 35 = .ok (.aload_n 0, 1) := by decide +kernel
theorem dX4_weighNode_36 : decode cX4_weighNode 36 = .ok (.iload 5, 2) := by decide +kernel
theorem dX4_weighNode_38 : decode cX4_weighNode 38 = .ok (.iload_n 1, 1) := by decide +kernel
theorem dX4_weighNode_39 : decode cX4_weighNode 39 = .ok (.iload 6, 2) := by decide +kernel
theorem dX4_weighNode_41 : decode cX4_weighNode 41 = .ok (.invokevirtual 70, 3) := by decide +kernel
theorem dX4_weighNode_44 : decode cX4_weighNode 44 = .ok (.aload_n 0, 1) := by decide +kernel
theorem dX4_weighNode_45 : decode cX4_weighNode 45 = .ok (.iload 5, 2) := by decide +kernel
theorem dX4_weighNode_47 : decode cX4_weighNode 47 = .ok (.iconst 1, 1) := by decide +kernel
theorem dX4_weighNode_48 : decode cX4_weighNode 48 = .ok (.iadd, 1) := by decide +kernel
theorem dX4_weighNode_49 : decode cX4_weighNode 49 = .ok (.iload 6, 2) := by decide +kernel
theorem dX4_weighNode_51 : decode cX4_weighNode 51 = .ok (.iconst 1, 1) := by decide +kernel
theorem dX4_weighNode_52 : decode cX4_weighNode 52 = .ok (.iadd, 1) := by decide +kernel
theorem dX4_weighNode_53 : decode cX4_weighNode 53 = .ok (.iload_n 2, 1) := by decide +kernel
theorem dX4_weighNode_54 : decode cX4_weighNode 54 = .ok (.invokevirtual 74, 3) := by decide +kernel
theorem dX4_weighNode_57 : decode cX4_weighNode 57 = .ok (.ladd, 1) := by decide +kernel
theorem dX4_weighNode_58 : decode cX4_weighNode 58 = .ok (.invokestatic 77, 3) := by decide +kernel
theorem dX4_weighNode_61 : decode cX4_weighNode 61 = .ok (.lstore_n 3, 1) := by decide +kernel
theorem dX4_weighNode_62 : decode cX4_weighNode 62 = .ok (.iinc 6 1, 3) := by decide +kernel
theorem dX4_weighNode_65 : decode cX4_weighNode 65 = .ok (.goto (-37), 3) := by decide +kernel
theorem dX4_weighNode_68 : decode cX4_weighNode 68 = .ok (.iinc 5 1, 3) := by decide +kernel
theorem dX4_weighNode_71 : decode cX4_weighNode 71 = .ok (.goto (-55), 3) := by decide +kernel
theorem dX4_weighNode_74 : decode cX4_weighNode 74 = .ok (.aload_n 0, 1) := by decide +kernel
theorem dX4_weighNode_75 : decode cX4_weighNode 75 = .ok (.getfield 11, 3) := by decide +kernel
theorem dX4_weighNode_78 : decode cX4_weighNode 78 = .ok (.iload_n 1, 1) := by decide +kernel
theorem dX4_weighNode_79 : decode cX4_weighNode 79 = .ok (.bipush 24, 2) := by decide +kernel
theorem dX4_weighNode_81 : decode cX4_weighNode 81 = .ok (.imul, 1) := by decide +kernel
theorem dX4_weighNode_82 : decode cX4_weighNode 82 = .ok (.iload_n 2, 1) := by decide +kernel
theorem dX4_weighNode_83 : decode cX4_weighNode 83 = .ok (.iadd, 1) := by decide +kernel
theorem dX4_weighNode_84 : decode cX4_weighNode 84 = .ok (.lload_n 3, 1) := by decide +kernel
theorem dX4_weighNode_85 : decode cX4_weighNode 85 = .ok (.lastore, 1) := by decide +kernel
theorem dX4_weighNode_86 : decode cX4_weighNode 86 = .ok (.return_, 1) := by decide +kernel
theorem dX4_weighDeals_0 : decode cX4_weighDeals 0 = .ok (.aload_n 0, 1) := by decide +kernel
theorem dX4_weighDeals_1 : decode cX4_weighDeals 1 = .ok (.getfield 15, 3) := by decide +kernel
theorem dX4_weighDeals_4 : decode cX4_weighDeals 4 = .ok (.aload_n 0, 1) := by decide +kernel
theorem dX4_weighDeals_5 : decode cX4_weighDeals 5 = .ok (.getfield 51, 3) := by decide +kernel
theorem dX4_weighDeals_8 : decode cX4_weighDeals 8 = .ok (.bipush 24, 2) := by decide +kernel
theorem dX4_weighDeals_10 : decode cX4_weighDeals 10 = .ok (.imul, 1) := by decide +kernel
theorem dX4_weighDeals_11 : decode cX4_weighDeals 11 = .ok (.iload_n 1, 1) := by decide +kernel
theorem dX4_weighDeals_12 : decode cX4_weighDeals 12 = .ok (.iadd, 1) := by decide +kernel
theorem dX4_weighDeals_13 : decode cX4_weighDeals 13 = .ok (.bipush 24, 2) := by decide +kernel
theorem dX4_weighDeals_15 : decode cX4_weighDeals 15 = .ok (.imul, 1) := by decide +kernel
theorem dX4_weighDeals_16 : decode cX4_weighDeals 16 = .ok (.iload_n 2, 1) := by decide +kernel
theorem dX4_weighDeals_17 : decode cX4_weighDeals 17 = .ok (.iadd, 1) := by decide +kernel
theorem dX4_weighDeals_18 : decode cX4_weighDeals 18 = .ok (.ldc2_w 68, 3) := by decide +kernel
theorem dX4_weighDeals_21 : decode cX4_weighDeals 21 = .ok (.lastore, 1) := by decide +kernel
theorem dX4_weighDeals_22 : decode cX4_weighDeals 22 = .ok (.aload_n 0, 1) := by decide +kernel
theorem dX4_weighDeals_23 : decode cX4_weighDeals 23 = .ok (.getfield 51, 3) := by decide +kernel
theorem dX4_weighDeals_26 : decode cX4_weighDeals 26 = .ok (.iconst 1, 1) := by decide +kernel
theorem dX4_weighDeals_27 : decode cX4_weighDeals 27 = .ok (.isub, 1) := by decide +kernel
theorem dX4_weighDeals_28 : decode cX4_weighDeals 28 = .ok (.istore_n 3, 1) := by decide +kernel
theorem dX4_weighDeals_29 : decode cX4_weighDeals 29 = .ok (.iload_n 3, 1) := by decide +kernel
theorem dX4_weighDeals_30 : decode cX4_weighDeals 30 = .ok (.iconst 1, 1) := by decide +kernel
theorem dX4_weighDeals_31 : decode cX4_weighDeals 31 = .ok (.if_icmp .lt 81, 3) := by decide +kernel
theorem dX4_weighDeals_34 : decode cX4_weighDeals 34 = .ok (.aload_n 0, 1) := by decide +kernel
theorem dX4_weighDeals_35 : decode cX4_weighDeals 35 = .ok (.iload_n 3, 1) := by decide +kernel
theorem dX4_weighDeals_36 : decode cX4_weighDeals 36 = .ok (.iconst 1, 1) := by decide +kernel
theorem dX4_weighDeals_37 : decode cX4_weighDeals 37 = .ok (.iadd, 1) := by decide +kernel
theorem dX4_weighDeals_38 : decode cX4_weighDeals 38 = .ok (.iload_n 1, 1) := by decide +kernel
theorem dX4_weighDeals_39 : decode cX4_weighDeals 39 = .ok (.iload_n 2, 1) := by decide +kernel
theorem dX4_weighDeals_40 : decode cX4_weighDeals 40 = .ok (.invokevirtual 74, 3) := by decide +kernel
theorem dX4_weighDeals_43 : decode cX4_weighDeals 43 = .ok (.lstore 4, 2) := by decide +kernel
theorem dX4_weighDeals_45 : decode cX4_weighDeals 45 = .ok (.iload_n 1, 1) := by decide +kernel
theorem dX4_weighDeals_46 : decode cX4_weighDeals 46 = .ok (.istore 6, 2) := by decide +kernel
theorem dX4_weighDeals_48 : decode cX4_weighDeals 48 = .ok (.iload 6, 2) := by decide +kernel
theorem dX4_weighDeals_50 : decode cX4_weighDeals 50 = .ok (.iload_n 2, 1) := by decide +kernel
theorem dX4_weighDeals_51 : decode cX4_weighDeals 51 = .ok (.if_icmp .gt 37, 3) := by decide +kernel
theorem dX4_weighDeals_54 : decode cX4_weighDeals 54 = .ok (.lload 4, 2) := by decide +kernel
theorem dX4_weighDeals_56 : decode cX4_weighDeals 56 = .ok (.aload_n 0, 1) := by decide +kernel
theorem dX4_weighDeals_57 : decode cX4_weighDeals 57 = .ok (.iload_n 3, 1) := by decide +kernel
theorem dX4_weighDeals_58 : decode cX4_weighDeals 58 = .ok (.iload_n 1, 1) := by decide +kernel
theorem dX4_weighDeals_59 : decode cX4_weighDeals 59 = .ok (.iload 6, 2) := by decide +kernel
theorem dX4_weighDeals_61 : decode cX4_weighDeals 61 = .ok (.invokevirtual 70, 3) := by decide +kernel
theorem dX4_weighDeals_64 : decode cX4_weighDeals 64 = .ok (.aload_n 0, 1) := by decide +kernel
theorem dX4_weighDeals_65 : decode cX4_weighDeals 65 = .ok (.iload_n 3, 1) := by decide +kernel
theorem dX4_weighDeals_66 : decode cX4_weighDeals 66 = .ok (.iconst 1, 1) := by decide +kernel
theorem dX4_weighDeals_67 : decode cX4_weighDeals 67 = .ok (.iadd, 1) := by decide +kernel
theorem dX4_weighDeals_68 : decode cX4_weighDeals 68 = .ok (.iload 6, 2) := by decide +kernel
theorem dX4_weighDeals_70 : decode cX4_weighDeals 70 = .ok (.iconst 1, 1) := by decide +kernel
theorem dX4_weighDeals_71 : decode cX4_weighDeals 71 = .ok (.iadd, 1) := by decide +kernel
theorem dX4_weighDeals_72 : decode cX4_weighDeals 72 = .ok (.iload_n 2, 1) := by decide +kernel
theorem dX4_weighDeals_73 : decode cX4_weighDeals 73 = .ok (.invokevirtual 74, 3) := by decide +kernel
theorem dX4_weighDeals_76 : decode cX4_weighDeals 76 = .ok (.ladd, 1) := by decide +kernel
theorem dX4_weighDeals_77 : decode cX4_weighDeals 77 = .ok (.invokestatic 77, 3) := by decide +kernel
theorem dX4_weighDeals_80 : decode cX4_weighDeals 80 = .ok (.lstore 4, 2) := by decide +kernel
theorem dX4_weighDeals_82 : decode cX4_weighDeals 82 = .ok (.iinc 6 1, 3) := by decide +kernel
theorem dX4_weighDeals_85 : decode cX4_weighDeals 85 = .ok (.goto (-37), 3) := by decide +kernel
theorem dX4_weighDeals_88 : decode cX4_weighDeals 88 = .ok (.aload_n 0, 1) := by decide +kernel
theorem dX4_weighDeals_89 : decode cX4_weighDeals 89 = .ok (.getfield 15, 3) := by decide +kernel
theorem dX4_weighDeals_92 : decode cX4_weighDeals 92 = .ok (.iload_n 3, 1) := by decide +kernel
theorem dX4_weighDeals_93 : decode cX4_weighDeals 93 = .ok (.bipush 24, 2) := by decide +kernel
theorem dX4_weighDeals_95 : decode cX4_weighDeals 95 = .ok (.imul, 1) := by decide +kernel
theorem dX4_weighDeals_96 : decode cX4_weighDeals 96 = .ok (.iload_n 1, 1) := by decide +kernel
theorem dX4_weighDeals_97 : decode cX4_weighDeals 97 = .ok (.iadd, 1) := by decide +kernel
theorem dX4_weighDeals_98 : decode cX4_weighDeals 98 = .ok (.bipush 24, 2) := by decide +kernel
theorem dX4_weighDeals_100 : decode cX4_weighDeals 100 = .ok (.imul, 1) := by decide +kernel
theorem dX4_weighDeals_101 : decode cX4_weighDeals 101 = .ok (.iload_n 2, 1) := by decide +kernel
theorem dX4_weighDeals_102 : decode cX4_weighDeals 102 = .ok (.iadd, 1) := by decide +kernel
theorem dX4_weighDeals_103 : decode cX4_weighDeals 103 = .ok (.lload 4, 2) := by decide +kernel
theorem dX4_weighDeals_105 : decode cX4_weighDeals 105 = .ok (.lastore, 1) := by decide +kernel
theorem dX4_weighDeals_106 : decode cX4_weighDeals 106 = .ok (.iinc 3 (-1), 3) := by decide +kernel
theorem dX4_weighDeals_109 : decode cX4_weighDeals 109 = .ok (.goto (-80), 3) := by decide +kernel
theorem dX4_weighDeals_112 : decode cX4_weighDeals 112 = .ok (.return_, 1) := by decide +kernel
theorem dX4_behindSign_0 : decode cX4_behindSign 0 = .ok (.aload_n 0, 1) := by decide +kernel
theorem dX4_behindSign_1 : decode cX4_behindSign 1 = .ok (.getfield 21, 3) := by decide +kernel
theorem dX4_behindSign_4 : decode cX4_behindSign 4 = .ok (.iload_n 1, 1) := by decide +kernel
theorem dX4_behindSign_5 : decode cX4_behindSign 5 = .ok (.iaload, 1) := by decide +kernel
theorem dX4_behindSign_6 : decode cX4_behindSign 6 = .ok (.i2l, 1) := by decide +kernel
theorem dX4_behindSign_7 : decode cX4_behindSign 7 = .ok (.aload_n 0, 1) := by decide +kernel
theorem dX4_behindSign_8 : decode cX4_behindSign 8 = .ok (.getfield 18, 3) := by decide +kernel
theorem dX4_behindSign_11 : decode cX4_behindSign 11 = .ok (.iload_n 3, 1) := by decide +kernel
theorem dX4_behindSign_12 : decode cX4_behindSign 12 = .ok (.iconst 1, 1) := by decide +kernel
theorem dX4_behindSign_13 : decode cX4_behindSign 13 = .ok (.iadd, 1) := by decide +kernel
theorem dX4_behindSign_14 : decode cX4_behindSign 14 = .ok (.laload, 1) := by decide +kernel
theorem dX4_behindSign_15 : decode cX4_behindSign 15 = .ok (.aload_n 0, 1) := by decide +kernel
theorem dX4_behindSign_16 : decode cX4_behindSign 16 = .ok (.getfield 18, 3) := by decide +kernel
theorem dX4_behindSign_19 : decode cX4_behindSign 19 = .ok (.iload_n 2, 1) := by decide +kernel
theorem dX4_behindSign_20 : decode cX4_behindSign 20 = .ok (.laload, 1) := by decide +kernel
theorem dX4_behindSign_21 : decode cX4_behindSign 21 = .ok (.lsub, 1) := by decide +kernel
theorem dX4_behindSign_22 : decode cX4_behindSign 22 = .ok (.lmul, 1) := by decide +kernel
theorem dX4_behindSign_23 : decode cX4_behindSign 23 = .ok (.aload_n 0, 1) := by decide +kernel
theorem dX4_behindSign_24 : decode cX4_behindSign 24 = .ok (.iload_n 2, 1) := by decide +kernel
theorem dX4_behindSign_25 : decode cX4_behindSign 25 = .ok (.iload_n 3, 1) := by decide +kernel
theorem dX4_behindSign_26 : decode cX4_behindSign 26 = .ok (.invokevirtual 83, 3) := by decide +kernel
theorem dX4_behindSign_29 : decode cX4_behindSign 29 = .ok (.ladd, 1) := by decide +kernel
theorem dX4_behindSign_30 : decode cX4_behindSign 30 = .ok (.lreturn, 1) := by decide +kernel
theorem dX4_dealOf_0 : decode cX4_dealOf 0 = .ok (.iload_n 2, 1) := by decide +kernel
theorem dX4_dealOf_1 : decode cX4_dealOf 1 = .ok (.iload_n 3, 1) := by decide +kernel
theorem dX4_dealOf_2 : decode cX4_dealOf 2 = .ok (.if_icmp .le 7, 3) := by decide +kernel
theorem dX4_dealOf_5 : decode cX4_dealOf 5 = .ok (.lconst 0, 1) := by decide +kernel
theorem dX4_dealOf_6 : decode cX4_dealOf 6 = .ok (.goto 19, 3) := by decide +kernel
theorem dX4_dealOf_9 : decode cX4_dealOf 9 = .ok (.aload_n 0, 1) := by decide +kernel
theorem dX4_dealOf_10 : decode cX4_dealOf 10 = .ok (.getfield 15, 3) := by decide +kernel
theorem dX4_dealOf_13 : decode cX4_dealOf 13 = .ok (.iload_n 1, 1) := by decide +kernel
theorem dX4_dealOf_14 : decode cX4_dealOf 14 = .ok (.bipush 24, 2) := by decide +kernel
theorem dX4_dealOf_16 : decode cX4_dealOf 16 = .ok (.imul, 1) := by decide +kernel
theorem dX4_dealOf_17 : decode cX4_dealOf 17 = .ok (.iload_n 2, 1) := by decide +kernel
theorem dX4_dealOf_18 : decode cX4_dealOf 18 = .ok (.iadd, 1) := by decide +kernel
theorem dX4_dealOf_19 : decode cX4_dealOf 19 = .ok (.bipush 24, 2) := by decide +kernel
theorem dX4_dealOf_21 : decode cX4_dealOf 21 = .ok (.imul, 1) := by decide +kernel
theorem dX4_dealOf_22 : decode cX4_dealOf 22 = .ok (.iload_n 3, 1) := by decide +kernel
theorem dX4_dealOf_23 : decode cX4_dealOf 23 = .ok (.iadd, 1) := by decide +kernel
theorem dX4_dealOf_24 : decode cX4_dealOf 24 = .ok (.laload, 1) := by decide +kernel
theorem dX4_dealOf_25 : decode cX4_dealOf 25 = .ok (.lreturn, 1) := by decide +kernel
theorem dX4_dealNode_0 : decode cX4_dealNode 0 = .ok (.iload 6, 2) := by decide +kernel
theorem dX4_dealNode_2 : decode cX4_dealNode 2 = .ok (.bipush 24, 2) := by decide +kernel
theorem dX4_dealNode_4 : decode cX4_dealNode 4 = .ok (.if_icmp .lt 4, 3) := by decide +kernel
theorem dX4_dealNode_7 : decode cX4_dealNode 7 = .ok (.return_, 1) := by decide +kernel
theorem dX4_dealNode_8 : decode cX4_dealNode 8 = .ok (.aload_n 0, 1) := by decide +kernel
theorem dX4_dealNode_9 : decode cX4_dealNode 9 = .ok (.iload_n 2, 1) := by decide +kernel
theorem dX4_dealNode_10 : decode cX4_dealNode 10 = .ok (.iload_n 3, 1) := by decide +kernel
theorem dX4_dealNode_11 : decode cX4_dealNode 11 = .ok (.invokevirtual 83, 3) := by decide +kernel
theorem dX4_dealNode_14 : decode cX4_dealNode 14 = .ok (.lstore 7, 2) := by decide +kernel
theorem dX4_dealNode_16 : decode cX4_dealNode 16 = .ok (.iload_n 2, 1) := by decide +kernel
theorem dX4_dealNode_17 : decode cX4_dealNode 17 = .ok (.istore 9, 2) := by decide +kernel
theorem dX4_dealNode_19 : decode cX4_dealNode 19 = .ok (.iconst 0, 1) := by decide +kernel
theorem dX4_dealNode_20 : decode cX4_dealNode 20 = .ok (.istore 10, 2) := by decide +kernel
theorem dX4_dealNode_22 : decode cX4_dealNode 22 = .ok (.iload 10, 2) := by decide +kernel
theorem dX4_dealNode_24 : decode cX4_dealNode 24 = .ok (.aload_n 0, 1) := by decide +kernel
theorem dX4_dealNode_25 : decode cX4_dealNode 25 = .ok (.getfield 51, 3) := by decide +kernel
theorem dX4_dealNode_28 : decode cX4_dealNode 28 = .ok (.if_icmp .ge 104, 3) := by decide +kernel
theorem dX4_dealNode_31 : decode cX4_dealNode 31 = .ok (.iload 9, 2) := by decide +kernel
theorem dX4_dealNode_33 : decode cX4_dealNode 33 = .ok (.iload_n 3, 1) := by decide +kernel
theorem dX4_dealNode_34 : decode cX4_dealNode 34 = .ok (.if_icmp .gt 98, 3) := by decide +kernel
theorem dX4_dealNode_37 : decode cX4_dealNode 37 = .ok (.aload_n 0, 1) := by decide +kernel
theorem dX4_dealNode_38 : decode cX4_dealNode 38 = .ok (.iload 10, 2) := by decide +kernel
theorem dX4_dealNode_40 : decode cX4_dealNode 40 = .ok (.iload 9, 2) := by decide +kernel
theorem dX4_dealNode_42 : decode cX4_dealNode 42 = .ok (.iload_n 3, 1) := by decide +kernel
theorem dX4_dealNode_43 : decode cX4_dealNode 43 = .ok (.lload 7, 2) := by decide +kernel
theorem dX4_dealNode_45 : decode cX4_dealNode 45 = .ok (.invokevirtual 87, 3) := by decide +kernel
theorem dX4_dealNode_48 : decode cX4_dealNode 48 = .ok (.istore 11, 2) := by decide +kernel
theorem dX4_dealNode_50 : decode cX4_dealNode 50 = .ok (.iload 11, 2) := by decide +kernel
theorem dX4_dealNode_52 : decode cX4_dealNode 52 = .ok (.iload 9, 2) := by decide +kernel
theorem dX4_dealNode_54 : decode cX4_dealNode 54 = .ok (.if_icmp .lt 72, 3) := by decide +kernel
theorem dX4_dealNode_57 : decode cX4_dealNode 57 = .ok (.lload 7, 2) := by decide +kernel
theorem dX4_dealNode_59 : decode cX4_dealNode 59 = .ok (.aload_n 0, 1) := by decide +kernel
theorem dX4_dealNode_60 : decode cX4_dealNode 60 = .ok (.iload 10, 2) := by decide +kernel
theorem dX4_dealNode_62 : decode cX4_dealNode 62 = .ok (.iload 9, 2) := by decide +kernel
theorem dX4_dealNode_64 : decode cX4_dealNode 64 = .ok (.iload 11, 2) := by decide +kernel
theorem dX4_dealNode_66 : decode cX4_dealNode 66 = .ok (.invokevirtual 70, 3) := by decide +kernel
theorem dX4_dealNode_69 : decode cX4_dealNode 69 = .ok (.lsub, 1) := by decide +kernel
theorem dX4_dealNode_70 : decode cX4_dealNode 70 = .ok (.lstore 7, 2) := by decide +kernel
theorem dX4_dealNode_72 : decode cX4_dealNode 72 = .ok (.lload 4, 2) := by decide +kernel
theorem dX4_dealNode_74 : decode cX4_dealNode 74 = .ok (.iload 6, 2) := by decide +kernel
theorem dX4_dealNode_76 : decode cX4_dealNode 76 = .ok (.iload 10, 2) := by decide +kernel
theorem dX4_dealNode_78 : decode cX4_dealNode 78 = .ok (.invokestatic 39, 3) := by decide +kernel
theorem dX4_dealNode_81 : decode cX4_dealNode 81 = .ok (.lstore 12, 2) := by decide +kernel
theorem dX4_dealNode_83 : decode cX4_dealNode 83 = .ok (.iload 11, 2) := by decide +kernel
theorem dX4_dealNode_85 : decode cX4_dealNode 85 = .ok (.iload 9, 2) := by decide +kernel
theorem dX4_dealNode_87 : decode cX4_dealNode 87 = .ok (.if_icmp .ne 18, 3) := by decide +kernel
theorem dX4_dealNode_90 : decode cX4_dealNode 90 = .ok (.aload_n 1, 1) := by decide +kernel
theorem dX4_dealNode_91 : decode cX4_dealNode 91 = .ok (.iload 9, 2) := by decide +kernel
theorem dX4_dealNode_93 : decode cX4_dealNode 93 = .ok (.lload 12, 2) := by decide +kernel
theorem dX4_dealNode_95 : decode cX4_dealNode 95 = .ok (.iload 6, 2) := by decide +kernel
theorem dX4_dealNode_97 : decode cX4_dealNode 97 = .ok (.iconst 1, 1) := by decide +kernel
theorem dX4_dealNode_98 : decode cX4_dealNode 98 = .ok (.iadd, 1) := by decide +kernel
theorem dX4_dealNode_99 : decode cX4_dealNode 99 = .ok (.invokevirtual 43, 3) := by decide +kernel
theorem dX4_dealNode_102 : decode cX4_dealNode 102 = .ok (.goto 18, 3) := by decide +kernel
theorem dX4_dealNode_105 : decode cX4_dealNode 105 = .ok (.aload_n 0, 1) := by decide +kernel
theorem dX4_dealNode_106 : decode cX4_dealNode 106 = .ok (.aload_n 1, 1) := by decide +kernel
theorem dX4_dealNode_107 : decode cX4_dealNode 107 = .ok (.iload 9, 2) := by decide +kernel
theorem dX4_dealNode_109 : decode cX4_dealNode 109 = .ok (.iload 11, 2) := by decide +kernel
theorem dX4_dealNode_111 : decode cX4_dealNode 111 = .ok (.lload 12, 2) := by decide +kernel
theorem dX4_dealNode_113 : decode cX4_dealNode 113 = .ok (.iload 6, 2) := by decide +kernel
theorem dX4_dealNode_115 : decode cX4_dealNode 115 = .ok (.iconst 1, 1) := by decide +kernel
theorem dX4_dealNode_116 : decode cX4_dealNode 116 = .ok (.iadd, 1) := by decide +kernel
theorem dX4_dealNode_117 : decode cX4_dealNode 117 = .ok (.invokevirtual 47, 3) := by decide +kernel
theorem dX4_dealNode_120 : decode cX4_dealNode 120 = .ok (.iload 11, 2) := by decide +kernel
theorem dX4_dealNode_122 : decode cX4_dealNode 122 = .ok (.iconst 1, 1) := by decide +kernel
theorem dX4_dealNode_123 : decode cX4_dealNode 123 = .ok (.iadd, 1) := by decide +kernel
theorem dX4_dealNode_124 : decode cX4_dealNode 124 = .ok (.istore 9, 2) := by decide +kernel
theorem dX4_dealNode_126 : decode cX4_dealNode 126 = .ok (.iinc 10 1, 3) := by decide +kernel
theorem dX4_dealNode_129 : decode cX4_dealNode 129 = .ok (.goto (-107), 3) := by decide +kernel
theorem dX4_dealNode_132 : decode cX4_dealNode 132 = .ok (.return_, 1) := by decide +kernel
theorem dX4_lastBehind_0 : decode cX4_lastBehind 0 = .ok (.iload_n 2, 1) := by decide +kernel
theorem dX4_lastBehind_1 : decode cX4_lastBehind 1 = .ok (.iconst 1, 1) := by decide +kernel
theorem dX4_lastBehind_2 : decode cX4_lastBehind 2 = .ok (.isub, 1) := by decide +kernel
theorem dX4_lastBehind_3 : decode cX4_lastBehind 3 = .ok (.istore 6, 2) := by decide +kernel
theorem dX4_lastBehind_5 : decode cX4_lastBehind 5 = .ok (.iload 6, 2) := by decide +kernel
theorem dX4_lastBehind_7 : decode cX4_lastBehind 7 = .ok (.iload_n 3, 1) := by decide +kernel
theorem dX4_lastBehind_8 : decode cX4_lastBehind 8 = .ok (.if_icmp .gt 53, 3) := by decide +kernel
theorem dX4_lastBehind_11 : decode cX4_lastBehind 11 = .ok (.iload 6, 2) := by decide +kernel
theorem dX4_lastBehind_13 : decode cX4_lastBehind 13 = .ok (.iload_n 2, 1) := by decide +kernel
theorem dX4_lastBehind_14 : decode cX4_lastBehind 14 = .ok (.if_icmp .ge 7, 3) := by decide +kernel
theorem dX4_lastBehind_17 : decode cX4_lastBehind 17 = .ok (.lconst 0, 1) := by decide +kernel
theorem dX4_lastBehind_18 : decode cX4_lastBehind 18 = .ok (.goto 11, 3) := by decide +kernel
theorem dX4_lastBehind_21 : decode cX4_lastBehind 21 = .ok (.aload_n 0, 1) := by decide +kernel
theorem dX4_lastBehind_22 : decode cX4_lastBehind 22 = .ok (.iload_n 1, 1) := by decide +kernel
theorem dX4_lastBehind_23 : decode cX4_lastBehind 23 = .ok (.iload_n 2, 1) := by decide +kernel
theorem dX4_lastBehind_24 : decode cX4_lastBehind 24 = .ok (.iload 6, 2) := by decide +kernel
theorem dX4_lastBehind_26 : decode cX4_lastBehind 26 = .ok (.invokevirtual 70, 3) := by decide +kernel
theorem dX4_lastBehind_29 : decode cX4_lastBehind 29 = .ok (.lstore 7, 2) := by decide +kernel
theorem dX4_lastBehind_31 : decode cX4_lastBehind 31 = .ok (.lload 7, 2) := by decide +kernel
theorem dX4_lastBehind_33 : decode cX4_lastBehind 33 = .ok (.aload_n 0, 1) := by decide +kernel
theorem dX4_lastBehind_34 : decode cX4_lastBehind 34 = .ok (.iload_n 1, 1) := by decide +kernel
theorem dX4_lastBehind_35 : decode cX4_lastBehind 35 = .ok (.iconst 1, 1) := by decide +kernel
theorem dX4_lastBehind_36 : decode cX4_lastBehind 36 = .ok (.iadd, 1) := by decide +kernel
theorem dX4_lastBehind_37 : decode cX4_lastBehind 37 = .ok (.iload 6, 2) := by decide +kernel
theorem dX4_lastBehind_39 : decode cX4_lastBehind 39 = .ok (.iconst 1, 1) := by decide +kernel
theorem dX4_lastBehind_40 : decode cX4_lastBehind 40 = .ok (.iadd, 1) := by decide +kernel
theorem dX4_lastBehind_41 : decode cX4_lastBehind 41 = .ok (.iload_n 3, 1) := by decide +kernel
theorem dX4_lastBehind_42 : decode cX4_lastBehind 42 = .ok (.invokevirtual 74, 3) := by decide +kernel
theorem dX4_lastBehind_45 : decode cX4_lastBehind 45 = .ok (.ladd, 1) := by decide +kernel
theorem dX4_lastBehind_46 : decode cX4_lastBehind 46 = .ok (.lload 4, 2) := by decide +kernel
theorem dX4_lastBehind_48 : decode cX4_lastBehind 48 = .ok (.lcmp, 1) := by decide +kernel
theorem dX4_lastBehind_49 : decode cX4_lastBehind 49 = .ok (.ifCond .ne 6, 3) := by decide +kernel
theorem dX4_lastBehind_52 : decode cX4_lastBehind 52 = .ok (.iload 6, 2) := by decide +kernel
theorem dX4_lastBehind_54 : decode cX4_lastBehind 54 = .ok (.ireturn, 1) := by decide +kernel
theorem dX4_lastBehind_55 : decode cX4_lastBehind 55 = .ok (.iinc 6 1, 3) := by decide +kernel
theorem dX4_lastBehind_58 : decode cX4_lastBehind 58 = .ok (.goto (-53), 3) := by decide +kernel
theorem dX4_lastBehind_61 : decode cX4_lastBehind 61 = .ok (.iload_n 2, 1) := by decide +kernel
theorem dX4_lastBehind_62 : decode cX4_lastBehind 62 = .ok (.iconst 1, 1) := by decide +kernel
theorem dX4_lastBehind_63 : decode cX4_lastBehind 63 = .ok (.isub, 1) := by decide +kernel
theorem dX4_lastBehind_64 : decode cX4_lastBehind 64 = .ok (.ireturn, 1) := by decide +kernel
theorem dX4_cheapestSign_0 : decode cX4_cheapestSign 0 = .ok (.iconst 0, 1) := by decide +kernel
theorem dX4_cheapestSign_1 : decode cX4_cheapestSign 1 = .ok (.istore_n 1, 1) := by decide +kernel
theorem dX4_cheapestSign_2 : decode cX4_cheapestSign 2 = .ok (.iconst 1, 1) := by decide +kernel
theorem dX4_cheapestSign_3 : decode cX4_cheapestSign 3 = .ok (.istore_n 2, 1) := by decide +kernel
theorem dX4_cheapestSign_4 : decode cX4_cheapestSign 4 = .ok (.iload_n 2, 1) := by decide +kernel
theorem dX4_cheapestSign_5 : decode cX4_cheapestSign 5 = .ok (.aload_n 0, 1) := by decide +kernel
theorem dX4_cheapestSign_6 : decode cX4_cheapestSign 6 = .ok (.getfield 51, 3) := by decide +kernel
theorem dX4_cheapestSign_9 : decode cX4_cheapestSign 9 = .ok (.if_icmp .ge 26, 3) := by decide +kernel
theorem dX4_cheapestSign_12 : decode cX4_cheapestSign 12 = .ok (.aload_n 0, 1) := by decide +kernel
theorem dX4_cheapestSign_13 : decode cX4_cheapestSign 13 = .ok (.getfield 21, 3) := by decide +kernel
theorem dX4_cheapestSign_16 : decode cX4_cheapestSign 16 = .ok (.iload_n 2, 1) := by decide +kernel
theorem dX4_cheapestSign_17 : decode cX4_cheapestSign 17 = .ok (.iaload, 1) := by decide +kernel
theorem dX4_cheapestSign_18 : decode cX4_cheapestSign 18 = .ok (.aload_n 0, 1) := by decide +kernel
theorem dX4_cheapestSign_19 : decode cX4_cheapestSign 19 = .ok (.getfield 21, 3) := by decide +kernel
theorem dX4_cheapestSign_22 : decode cX4_cheapestSign 22 = .ok (.iload_n 1, 1) := by decide +kernel
theorem dX4_cheapestSign_23 : decode cX4_cheapestSign 23 = .ok (.iaload, 1) := by decide +kernel
theorem dX4_cheapestSign_24 : decode cX4_cheapestSign 24 = .ok (.if_icmp .ge 5, 3) := by decide +kernel
theorem dX4_cheapestSign_27 : decode cX4_cheapestSign 27 = .ok (.iload_n 2, 1) := by decide +kernel
theorem dX4_cheapestSign_28 : decode cX4_cheapestSign 28 = .ok (.istore_n 1, 1) := by decide +kernel
theorem dX4_cheapestSign_29 : decode cX4_cheapestSign 29 = .ok (.iinc 2 1, 3) := by decide +kernel
theorem dX4_cheapestSign_32 : decode cX4_cheapestSign 32 = .ok (.goto (-28), 3) := by decide +kernel
theorem dX4_cheapestSign_35 : decode cX4_cheapestSign 35 = .ok (.iload_n 1, 1) := by decide +kernel
theorem dX4_cheapestSign_36 : decode cX4_cheapestSign 36 = .ok (.ireturn, 1) := by decide +kernel
theorem dX5_init_0 : decode cX5_init 0 = .ok (.aload_n 0, 1) := by decide +kernel
theorem dX5_init_1 : decode cX5_init 1 = .ok (.invokespecial 5, 3) := by decide +kernel
theorem dX5_init_4 : decode cX5_init 4 = .ok (.aload_n 0, 1) := by decide +kernel
theorem dX5_init_5 : decode cX5_init 5 = .ok (.sipush 2212, 3) := by decide +kernel
theorem dX5_init_8 : decode cX5_init 8 = .ok (.newarray .int, 2) := by decide +kernel
theorem dX5_init_10 : decode cX5_init 10 = .ok (.putfield 11, 3) := by decide +kernel
theorem dX5_init_13 : decode cX5_init 13 = .ok (.aload_n 0, 1) := by decide +kernel
theorem dX5_init_14 : decode cX5_init 14 = .ok (.sipush 18000, 3) := by decide +kernel
theorem dX5_init_17 : decode cX5_init 17 = .ok (.newarray .long, 2) := by decide +kernel
theorem dX5_init_19 : decode cX5_init 19 = .ok (.putfield 15, 3) := by decide +kernel
theorem dX5_init_22 : decode cX5_init 22 = .ok (.aload_n 0, 1) := by decide +kernel
theorem dX5_init_23 : decode cX5_init 23 = .ok (.sipush 2000, 3) := by decide +kernel
theorem dX5_init_26 : decode cX5_init 26 = .ok (.newarray .int, 2) := by decide +kernel
theorem dX5_init_28 : decode cX5_init 28 = .ok (.putfield 19, 3) := by decide +kernel
theorem dX5_init_31 : decode cX5_init 31 = .ok (.aload_n 0, 1) := by decide +kernel
theorem dX5_init_32 : decode cX5_init 32 = .ok (.sipush 2000, 3) := by decide +kernel
theorem dX5_init_35 : decode cX5_init 35 = .ok (.newarray .int, 2) := by decide +kernel
theorem dX5_init_37 : decode cX5_init 37 = .ok (.putfield 22, 3) := by decide +kernel
theorem dX5_init_40 : decode cX5_init 40 = .ok (.aload_n 0, 1) := by decide +kernel
theorem dX5_init_41 : decode cX5_init 41 = .ok (.sipush 4096, 3) := by decide +kernel
theorem dX5_init_44 : decode cX5_init 44 = .ok (.newarray .int, 2) := by decide +kernel
theorem dX5_init_46 : decode cX5_init 46 = .ok (.putfield 25, 3) := by decide +kernel
theorem dX5_init_49 : decode cX5_init 49 = .ok (.aload_n 0, 1) := by decide +kernel
theorem dX5_init_50 : decode cX5_init 50 = .ok (.bipush 9, 2) := by decide +kernel
theorem dX5_init_52 : decode cX5_init 52 = .ok (.newarray .long, 2) := by decide +kernel
theorem dX5_init_54 : decode cX5_init 54 = .ok (.putfield 28, 3) := by decide +kernel
theorem dX5_init_57 : decode cX5_init 57 = .ok (.aload_n 0, 1) := by decide +kernel
theorem dX5_init_58 : decode cX5_init 58 = .ok (.iconst (-1), 1) := by decide +kernel
theorem dX5_init_59 : decode cX5_init 59 = .ok (.putfield 31, 3) := by decide +kernel
theorem dX5_init_62 : decode cX5_init 62 = .ok (.return_, 1) := by decide +kernel
theorem dX5_setsHad_0 : decode cX5_setsHad 0 = .ok (.aload_n 0, 1) := by decide +kernel
theorem dX5_setsHad_1 : decode cX5_setsHad 1 = .ok (.getfield 35, 3) := by decide +kernel
theorem dX5_setsHad_4 : decode cX5_setsHad 4 = .ok (.ireturn, 1) := by decide +kernel
theorem dX5_signOfStep_0 : decode cX5_signOfStep 0 = .ok (.aload_n 0, 1) := by decide +kernel
theorem dX5_signOfStep_1 : decode cX5_signOfStep 1 = .ok (.getfield 31, 3) := by decide +kernel
theorem dX5_signOfStep_4 : decode cX5_signOfStep 4 = .ok (.ifCond .lt 15, 3) := by decide +kernel
theorem dX5_signOfStep_7 : decode cX5_signOfStep 7 = .ok (.iload_n 1, 1) := by decide +kernel
theorem dX5_signOfStep_8 : decode cX5_signOfStep 8 = .ok (.ifCond .lt 11, 3) := by decide +kernel
theorem dX5_signOfStep_11 : decode cX5_signOfStep 11 = .ok (.iload_n 1, 1) := by decide +kernel
theorem dX5_signOfStep_12 : decode cX5_signOfStep 12 = .ok (.aload_n 0, 1) := by decide +kernel
theorem dX5_signOfStep_13 : decode cX5_signOfStep 13 = .ok (.getfield 38, 3) := by decide +kernel
theorem dX5_signOfStep_16 : decode cX5_signOfStep 16 = .ok (.if_icmp .lt 6, 3) := by decide +kernel
theorem dX5_signOfStep_19 : decode cX5_signOfStep 19 = .ok (.bipush (-6), 2) := by decide +kernel
theorem dX5_signOfStep_21 : decode cX5_signOfStep 21 = .ok (.ireturn, 1) := by decide +kernel
theorem dX5_signOfStep_22 : decode cX5_signOfStep 22 = .ok (.aload_n 0, 1) := by decide +kernel
theorem dX5_signOfStep_23 : decode cX5_signOfStep 23 = .ok (.getfield 31, 3) := by decide +kernel
theorem dX5_signOfStep_26 : decode cX5_signOfStep 26 = .ok (.istore_n 2, 1) := by decide +kernel
theorem dX5_signOfStep_27 : decode cX5_signOfStep 27 = .ok (.aload_n 0, 1) := by decide +kernel
theorem dX5_signOfStep_28 : decode cX5_signOfStep 28 = .ok (.getfield 38, 3) := by decide +kernel
theorem dX5_signOfStep_31 : decode cX5_signOfStep 31 = .ok (.iconst 1, 1) := by decide +kernel
theorem dX5_signOfStep_32 : decode cX5_signOfStep 32 = .ok (.isub, 1) := by decide +kernel
theorem dX5_signOfStep_33 : decode cX5_signOfStep 33 = .ok (.istore_n 3, 1) := by decide +kernel
theorem dX5_signOfStep_34 : decode cX5_signOfStep 34 = .ok (.iload_n 3, 1) := by decide +kernel
theorem dX5_signOfStep_35 : decode cX5_signOfStep 35 = .ok (.iload_n 1, 1) := by decide +kernel
theorem dX5_signOfStep_36 : decode cX5_signOfStep 36 = .ok (.if_icmp .le 16, 3) := by decide +kernel
theorem dX5_signOfStep_39 : decode cX5_signOfStep 39 = .ok (.aload_n 0, 1) := by decide +kernel
theorem dX5_signOfStep_40 : decode cX5_signOfStep 40 = .ok (.getfield 19, 3) := by decide +kernel
theorem dX5_signOfStep_43 : decode cX5_signOfStep 43 = .ok (.iload_n 2, 1) := by decide +kernel
theorem dX5_signOfStep_44 : decode cX5_signOfStep 44 = .ok (.iaload, 1) := by decide +kernel
theorem dX5_signOfStep_45 : decode cX5_signOfStep 45 = .ok (.istore_n 2, 1) := by decide +kernel
theorem dX5_signOfStep_46 : decode cX5_signOfStep 46 = .ok (.iinc 3 (-1), 3) := by decide +kernel
theorem dX5_signOfStep_49 : decode cX5_signOfStep 49 = .ok (.goto (-15), 3) := by decide +kernel
theorem dX5_signOfStep_52 : decode cX5_signOfStep 52 = .ok (.aload_n 0, 1) := by decide +kernel
theorem dX5_signOfStep_53 : decode cX5_signOfStep 53 = .ok (.getfield 22, 3) := by decide +kernel
theorem dX5_signOfStep_56 : decode cX5_signOfStep 56 = .ok (.iload_n 2, 1) := by decide +kernel
theorem dX5_signOfStep_57 : decode cX5_signOfStep 57 = .ok (.iaload, 1) := by decide +kernel
theorem dX5_signOfStep_58 : decode cX5_signOfStep 58 = .ok (.ireturn, 1) := by decide +kernel
theorem dX5_find_0 : decode cX5_find 0 = .ok (.aload_n 0, 1) := by decide +kernel
theorem dX5_find_1 : decode cX5_find 1 = .ok (.aload_n 1, 1) := by decide +kernel
theorem dX5_find_2 : decode cX5_find 2 = .ok (.invokevirtual 41, 3) := by decide +kernel
theorem dX5_find_5 : decode cX5_find 5 = .ok (.aload_n 0, 1) := by decide +kernel
theorem dX5_find_6 : decode cX5_find 6 = .ok (.aload_n 0, 1) := by decide +kernel
theorem dX5_find_7 : decode cX5_find 7 = .ok (.getfield 45, 3) := by decide +kernel
theorem dX5_find_10 : decode cX5_find 10 = .ok (.bipush 63, 2) := by decide +kernel
theorem dX5_find_12 : decode cX5_find 12 = .ok (.iadd, 1) := by decide +kernel
theorem dX5_find_13 : decode cX5_find 13 = .ok (.bipush 6, 2) := by decide +kernel
theorem dX5_find_15 : decode cX5_find 15 = .ok (.ishr, 1) := by decide +kernel
theorem dX5_find_16 : decode cX5_find 16 = .ok (.putfield 48, 3) := by decide +kernel
theorem dX5_find_19 : decode cX5_find 19 = .ok (.aload_n 0, 1) := by decide +kernel
theorem dX5_find_20 : decode cX5_find 20 = .ok (.iconst 0, 1) := by decide +kernel
theorem dX5_find_21 : decode cX5_find 21 = .ok (.putfield 35, 3) := by decide +kernel
theorem dX5_find_24 : decode cX5_find 24 = .ok (.aload_n 0, 1) := by decide +kernel
theorem dX5_find_25 : decode cX5_find 25 = .ok (.iconst (-1), 1) := by decide +kernel
theorem dX5_find_26 : decode cX5_find 26 = .ok (.putfield 31, 3) := by decide +kernel
theorem dX5_find_29 : decode cX5_find 29 = .ok (.aload_n 0, 1) := by decide +kernel
theorem dX5_find_30 : decode cX5_find 30 = .ok (.iconst 0, 1) := by decide +kernel
theorem dX5_find_31 : decode cX5_find 31 = .ok (.putfield 38, 3) := by decide +kernel
theorem dX5_find_34 : decode cX5_find 34 = .ok (.aload_n 0, 1) := by decide +kernel
theorem dX5_find_35 : decode cX5_find 35 = .ok (.getfield 25, 3) := by decide +kernel
theorem dX5_find_38 : decode cX5_find 38 = .ok (.iconst 0, 1) := by decide +kernel
theorem dX5_find_39 : decode cX5_find 39 = .ok (.invokestatic 51, 3) := by decide +kernel
theorem dX5_find_42 : decode cX5_find 42 = .ok (.aload_n 0, 1) := by decide +kernel
theorem dX5_find_43 : decode cX5_find 43 = .ok (.invokevirtual 57, 3) := by decide +kernel
theorem dX5_find_46 : decode cX5_find 46 = .ok (.aload_n 0, 1) := by decide +kernel
theorem dX5_find_47 : decode cX5_find 47 = .ok (.iconst (-1), 1) := by decide +kernel
theorem dX5_find_48 : decode cX5_find 48 = .ok (.iconst 0, 1) := by decide +kernel
theorem dX5_find_49 : decode cX5_find 49 = .ok (.invokevirtual 60, 3) := by decide +kernel
theorem dX5_find_52 : decode cX5_find 52 = .ok (.ifCond .eq 8, 3) := by decide +kernel
theorem dX5_find_55 : decode cX5_find 55 = .ok (.aload_n 0, 1) := by decide +kernel
theorem dX5_find_56 : decode cX5_find 56 = .ok (.getfield 38, 3) := by decide +kernel
theorem dX5_find_59 : decode cX5_find 59 = .ok (.ireturn, 1) := by decide +kernel
theorem dX5_find_60 : decode cX5_find 60 = .ok (.iconst 0, 1) := by decide +kernel
theorem dX5_find_61 : decode cX5_find 61 = .ok (.istore_n 3, 1) := by decide +kernel
theorem dX5_find_62 : decode cX5_find 62 = .ok (.iload_n 3, 1) := by decide +kernel
theorem dX5_find_63 : decode cX5_find 63 = .ok (.sipush 2000, 3) := by decide +kernel
theorem dX5_find_66 : decode cX5_find 66 = .ok (.if_icmp .ge 92, 3) := by decide +kernel
theorem dX5_find_69 : decode cX5_find 69 = .ok (.iload_n 3, 1) := by decide +kernel
theorem dX5_find_70 : decode cX5_find 70 = .ok (.aload_n 0, 1) := by decide +kernel
theorem dX5_find_71 : decode cX5_find 71 = .ok (.getfield 35, 3) := by decide +kernel
theorem dX5_find_74 : decode cX5_find 74 = .ok (.if_icmp .ge 84, 3) := by decide +kernel
theorem dX5_find_77 : decode cX5_find 77 = .ok (.iconst 0, 1) := by decide +kernel
theorem dX5_find_78 : decode cX5_find 78 = .ok (.istore 4, 2) := by decide +kernel
theorem dX5_find_80 : decode cX5_find 80 = .ok (.iload 4, 2) := by decide +kernel
theorem dX5_find_82 : decode cX5_find 82 = .ok (.iload_n 2, 1) := by decide +kernel
theorem dX5_find_83 : decode cX5_find 83 = .ok (.if_icmp .ge 69, 3) := by decide +kernel
theorem dX5_find_86 : decode cX5_find 86 = .ok (.aload_n 0, 1) := by decide +kernel
theorem dX5_find_87 : decode cX5_find 87 = .ok (.iload_n 3, 1) := by decide +kernel
theorem dX5_find_88 : decode cX5_find 88 = .ok (.iload 4, 2) := by decide +kernel
theorem dX5_find_90 : decode cX5_find 90 = .ok (.invokevirtual 64, 3) := by decide +kernel
theorem dX5_find_93 : decode cX5_find 93 = .ok (.ifCond .ne 6, 3) := by decide +kernel
theorem dX5_find_96 : decode cX5_find 96 = .ok (.goto 50, 3) := by decide +kernel
theorem dX5_find_99 : decode cX5_find 99 = .ok (.aload_n 0, 1) := by decide +kernel
theorem dX5_find_100 : decode cX5_find 100 = .ok (.invokevirtual 67, 3) := by decide +kernel
theorem dX5_find_103 : decode cX5_find 103 = .ok (.istore 5, 2) := by decide +kernel
theorem dX5_find_105 : decode cX5_find 105 = .ok (.aload_n 0, 1) := by decide +kernel
theorem dX5_find_106 : decode cX5_find 106 = .ok (.getfield 25, 3) := by decide +kernel
theorem dX5_find_109 : decode cX5_find 109 = .ok (.iload 5, 2) := by decide +kernel
theorem dX5_find_111 : decode cX5_find 111 = .ok (.iaload, 1) := by decide +kernel
theorem dX5_find_112 : decode cX5_find 112 = .ok (.ifCond .eq 6, 3) := by decide +kernel
theorem dX5_find_115 : decode cX5_find 115 = .ok (.goto 31, 3) := by decide +kernel
theorem dX5_find_118 : decode cX5_find 118 = .ok (.aload_n 0, 1) := by decide +kernel
theorem dX5_find_119 : decode cX5_find 119 = .ok (.getfield 35, 3) := by decide +kernel
theorem dX5_find_122 : decode cX5_find 122 = .ok (.sipush 2000, 3) := by decide +kernel
theorem dX5_find_125 : decode cX5_find 125 = .ok (.if_icmp .lt 6, 3) := by decide +kernel
theorem dX5_find_128 : decode cX5_find 128 = .ok (.bipush (-7), 2) := by decide +kernel
theorem dX5_find_130 : decode cX5_find 130 = .ok (.ireturn, 1) := by decide +kernel
theorem dX5_find_131 : decode cX5_find 131 = .ok (.aload_n 0, 1) := by decide +kernel
theorem dX5_find_132 : decode cX5_find 132 = .ok (.iload_n 3, 1) := by decide +kernel
theorem dX5_find_133 : decode cX5_find 133 = .ok (.iload 4, 2) := by decide +kernel
theorem dX5_find_135 : decode cX5_find 135 = .ok (.invokevirtual 60, 3) := by decide +kernel
theorem dX5_find_138 : decode cX5_find 138 = .ok (.ifCond .eq 8, 3) := by decide +kernel
theorem dX5_find_141 : decode cX5_find 141 = .ok (.aload_n 0, 1) := by decide +kernel
theorem dX5_find_142 : decode cX5_find 142 = .ok (.getfield 38, 3) := by decide +kernel
theorem dX5_find_145 : decode cX5_find 145 = .ok (.ireturn, 1) := by decide +kernel
theorem dX5_find_146 : decode cX5_find 146 = .ok (.iinc 4 1, 3) := by decide +kernel
theorem dX5_find_149 : decode cX5_find 149 = .ok (.goto (-69), 3) := by decide +kernel
theorem dX5_find_152 : decode cX5_find 152 = .ok (.iinc 3 1, 3) := by decide +kernel
theorem dX5_find_155 : decode cX5_find 155 = .ok (.goto (-93), 3) := by decide +kernel
theorem dX5_find_158 : decode cX5_find 158 = .ok (.bipush (-6), 2) := by decide +kernel
theorem dX5_find_160 : decode cX5_find 160 = .ok (.ireturn, 1) := by decide +kernel
theorem dX5_layPlaces_0 : decode cX5_layPlaces 0 = .ok (.aload_n 0, 1) := by decide +kernel
theorem dX5_layPlaces_1 : decode cX5_layPlaces 1 = .ok (.iconst 0, 1) := by decide +kernel
theorem dX5_layPlaces_2 : decode cX5_layPlaces 2 = .ok (.putfield 45, 3) := by decide +kernel
theorem dX5_layPlaces_5 : decode cX5_layPlaces 5 = .ok (.aload_n 0, 1) := by decide +kernel
theorem dX5_layPlaces_6 : decode cX5_layPlaces 6 = .ok (.invokevirtual 71, 3) := by decide +kernel
theorem dX5_layPlaces_9 : decode cX5_layPlaces 9 = .ok (.pop, 1) := by decide +kernel
theorem dX5_layPlaces_10 : decode cX5_layPlaces 10 = .ok (.iconst 0, 1) := by decide +kernel
theorem dX5_layPlaces_11 : decode cX5_layPlaces 11 = .ok (.istore_n 2, 1) := by decide +kernel
theorem dX5_layPlaces_12 : decode cX5_layPlaces 12 = .ok (.iload_n 2, 1) := by decide +kernel
theorem dX5_layPlaces_13 : decode cX5_layPlaces 13 = .ok (.aload_n 1, 1) := by decide +kernel
theorem dX5_layPlaces_14 : decode cX5_layPlaces 14 = .ok (.getfield 74, 3) := by decide +kernel
theorem dX5_layPlaces_17 : decode cX5_layPlaces 17 = .ok (.if_icmp .ge 101, 3) := by decide +kernel
theorem dX5_layPlaces_20 : decode cX5_layPlaces 20 = .ok (.iconst 0, 1) := by decide +kernel
theorem dX5_layPlaces_21 : decode cX5_layPlaces 21 = .ok (.istore_n 3, 1) := by decide +kernel
theorem dX5_layPlaces_22 : decode cX5_layPlaces 22 = .ok (.iconst 0, 1) := by decide +kernel
theorem dX5_layPlaces_23 : decode cX5_layPlaces 23 = .ok (.istore 4, 2) := by decide +kernel
theorem dX5_layPlaces_25 : decode cX5_layPlaces 25 = .ok (.iload 4, 2) := by decide +kernel
theorem dX5_layPlaces_27 : decode cX5_layPlaces 27 = .ok (.aload_n 1, 1) := by decide +kernel
theorem dX5_layPlaces_28 : decode cX5_layPlaces 28 = .ok (.getfield 79, 3) := by decide +kernel
theorem dX5_layPlaces_31 : decode cX5_layPlaces 31 = .ok (.iload_n 2, 1) := by decide +kernel
theorem dX5_layPlaces_32 : decode cX5_layPlaces 32 = .ok (.iaload, 1) := by decide +kernel
theorem dX5_layPlaces_33 : decode cX5_layPlaces 33 = .ok (.if_icmp .ge 79, 3) := by decide +kernel
theorem dX5_layPlaces_36 : decode cX5_layPlaces 36 = .ok (.iload_n 3, 1) := by decide +kernel
theorem dX5_layPlaces_37 : decode cX5_layPlaces 37 = .ok (.iconst 4, 1) := by decide +kernel
theorem dX5_layPlaces_38 : decode cX5_layPlaces 38 = .ok (.imul, 1) := by decide +kernel
theorem dX5_layPlaces_39 : decode cX5_layPlaces 39 = .ok (.aload_n 1, 1) := by decide +kernel
theorem dX5_layPlaces_40 : decode cX5_layPlaces 40 = .ok (.getfield 82, 3) := by decide +kernel
theorem dX5_layPlaces_43 : decode cX5_layPlaces 43 = .ok (.iload_n 2, 1) := by decide +kernel
theorem dX5_layPlaces_44 : decode cX5_layPlaces 44 = .ok (.laload, 1) := by decide +kernel
theorem dX5_layPlaces_45 : decode cX5_layPlaces 45 = .ok (.iload 4, 2) := by decide +kernel
theorem dX5_layPlaces_47 : decode cX5_layPlaces 47 = .ok (.invokestatic 85, 3) := by decide +kernel
theorem dX5_layPlaces_50 : decode cX5_layPlaces 50 = .ok (.iadd, 1) := by decide +kernel
theorem dX5_layPlaces_51 : decode cX5_layPlaces 51 = .ok (.istore 5, 2) := by decide +kernel
theorem dX5_layPlaces_53 : decode cX5_layPlaces 53 = .ok (.iload 4, 2) := by decide +kernel
theorem dX5_layPlaces_55 : decode cX5_layPlaces 55 = .ok (.aload_n 1, 1) := by decide +kernel
theorem dX5_layPlaces_56 : decode cX5_layPlaces 56 = .ok (.getfield 79, 3) := by decide +kernel
theorem dX5_layPlaces_59 : decode cX5_layPlaces 59 = .ok (.iload_n 2, 1) := by decide +kernel
theorem dX5_layPlaces_60 : decode cX5_layPlaces 60 = .ok (.iaload, 1) := by decide +kernel
theorem dX5_layPlaces_61 : decode cX5_layPlaces 61 = .ok (.iconst 1, 1) := by decide +kernel
theorem dX5_layPlaces_62 : decode cX5_layPlaces 62 = .ok (.isub, 1) := by decide +kernel
theorem dX5_layPlaces_63 : decode cX5_layPlaces 63 = .ok (.if_icmp .ne 14, 3) := by decide +kernel
theorem dX5_layPlaces_66 : decode cX5_layPlaces 66 = .ok (.aload_n 0, 1) := by decide +kernel
theorem dX5_layPlaces_67 : decode cX5_layPlaces 67 = .ok (.getfield 11, 3) := by decide +kernel
theorem dX5_layPlaces_70 : decode cX5_layPlaces 70 = .ok (.iload 5, 2) := by decide +kernel
theorem dX5_layPlaces_72 : decode cX5_layPlaces 72 = .ok (.iconst (-1), 1) := by decide +kernel
theorem dX5_layPlaces_73 : decode cX5_layPlaces 73 = .ok (.iastore, 1) := by decide +kernel
theorem dX5_layPlaces_74 : decode cX5_layPlaces 74 = .ok (.goto 32, 3) := by decide +kernel
theorem dX5_layPlaces_77 : decode cX5_layPlaces 77 = .ok (.aload_n 0, 1) := by decide +kernel
theorem dX5_layPlaces_78 : decode cX5_layPlaces 78 = .ok (.getfield 11, 3) := by decide +kernel
theorem dX5_layPlaces_81 : decode cX5_layPlaces 81 = .ok (.iload 5, 2) := by decide +kernel
theorem dX5_layPlaces_83 : decode cX5_layPlaces 83 = .ok (.iaload, 1) := by decide +kernel
theorem dX5_layPlaces_84 : decode cX5_layPlaces 84 = .ok (.ifCond .gt 14, 3) := by decide +kernel
theorem dX5_layPlaces_87 : decode cX5_layPlaces 87 = .ok (.aload_n 0, 1) := by decide +kernel
theorem dX5_layPlaces_88 : decode cX5_layPlaces 88 = .ok (.getfield 11, 3) := by decide +kernel
theorem dX5_layPlaces_91 : decode cX5_layPlaces 91 = .ok (.iload 5, 2) := by decide +kernel
theorem dX5_layPlaces_93 : decode cX5_layPlaces 93 = .ok (.aload_n 0, 1) := by decide +kernel
theorem dX5_layPlaces_94 : decode cX5_layPlaces 94 = .ok (.invokevirtual 71, 3) := by decide +kernel
theorem dX5_layPlaces_97 : decode cX5_layPlaces 97 = .ok (.iastore, 1) := by decide +kernel
theorem dX5_layPlaces_98 : decode cX5_layPlaces 98 = .ok (.aload_n 0, 1) := by decide +kernel
theorem dX5_layPlaces_99 : decode cX5_layPlaces 99 = .ok (.getfield 11, 3) := by decide +kernel
theorem dX5_layPlaces_102 : decode cX5_layPlaces 102 = .ok (.iload 5, 2) := by decide +kernel
theorem dX5_layPlaces_104 : decode cX5_layPlaces 104 = .ok (.iaload, 1) := by decide +kernel
theorem dX5_layPlaces_105 : decode cX5_layPlaces 105 = .ok (.istore_n 3, 1) := by decide +kernel
theorem dX5_layPlaces_106 : decode cX5_layPlaces 106 = .ok (.iinc 4 1, 3) := by decide +kernel
theorem dX5_layPlaces_109 : decode cX5_layPlaces 109 = .ok (.goto (-84), 3) := by decide +kernel
theorem dX5_layPlaces_112 : decode cX5_layPlaces 112 = .ok (.iinc 2 1, 3) := by decide +kernel
theorem dX5_layPlaces_115 : decode cX5_layPlaces 115 = .ok (.goto (-103), 3) := by decide +kernel
theorem dX5_layPlaces_118 : decode cX5_layPlaces 118 = .ok (.return_, 1) := by decide +kernel
theorem dX5_newPlace_0 : decode cX5_newPlace 0 = .ok (.aload_n 0, 1) := by decide +kernel
theorem dX5_newPlace_1 : decode cX5_newPlace 1 = .ok (.getfield 45, 3) := by decide +kernel
theorem dX5_newPlace_4 : decode cX5_newPlace 4 = .ok (.sipush 553, 3) := by decide +kernel
theorem dX5_newPlace_7 : decode cX5_newPlace 7 = .ok (.if_icmp .lt 5, 3) := by decide +kernel
theorem dX5_newPlace_10 : decode cX5_newPlace 10 = .ok (.iconst 0, 1) := by decide +kernel
theorem dX5_newPlace_11 : decode cX5_newPlace 11 = .ok (.ireturn, 1) := by decide +kernel
theorem dX5_newPlace_12 : decode cX5_newPlace 12 = .ok (.iconst 0, 1) := by decide +kernel
theorem dX5_newPlace_13 : decode cX5_newPlace 13 = .ok (.istore_n 1, 1) := by decide +kernel
theorem dX5_newPlace_14 : decode cX5_newPlace 14 = .ok (.iload_n 1, 1) := by decide +kernel
theorem dX5_newPlace_15 : decode cX5_newPlace 15 = .ok (.iconst 4, 1) := by decide +kernel
theorem dX5_newPlace_16 : decode cX5_newPlace 16 = .ok (.if_icmp .ge 23, 3) := by decide +kernel
theorem dX5_newPlace_19 : decode cX5_newPlace 19 = .ok (.aload_n 0, 1) := by decide +kernel
theorem dX5_newPlace_20 : decode cX5_newPlace 20 = .ok (.getfield 11, 3) := by decide +kernel
theorem dX5_newPlace_23 : decode cX5_newPlace 23 = .ok (.aload_n 0, 1) := by decide +kernel
theorem dX5_newPlace_24 : decode cX5_newPlace 24 = .ok (.getfield 45, 3) := by decide +kernel
theorem dX5_newPlace_27 : decode cX5_newPlace 27 = .ok (.iconst 4, 1) := by decide +kernel
theorem dX5_newPlace_28 : decode cX5_newPlace 28 = .ok (.imul, 1) := by decide +kernel
theorem dX5_newPlace_29 : decode cX5_newPlace 29 = .ok (.iload_n 1, 1) := by decide +kernel
theorem dX5_newPlace_30 : decode cX5_newPlace 30 = .ok (.iadd, 1) := by decide +kernel
theorem dX5_newPlace_31 : decode cX5_newPlace 31 = .ok (.iconst 0, 1) := by decide +kernel
theorem dX5_newPlace_32 : decode cX5_newPlace 32 = .ok (.iastore, 1) := by decide +kernel
theorem dX5_newPlace_33 : decode cX5_newPlace 33 = .ok (.iinc 1 1, 3) := by decide +kernel
theorem dX5_newPlace_36 : decode cX5_newPlace 36 = .ok (.goto (-22), 3) := by decide +kernel
theorem dX5_newPlace_39 : decode cX5_newPlace 39 = .ok (.aload_n 0, 1) := by decide +kernel
theorem dX5_newPlace_40 : decode cX5_newPlace 40 = .ok (.dup, 1) := by decide +kernel
theorem dX5_newPlace_41 : decode cX5_newPlace 41 = .ok (.getfield 45, 3) := by decide +kernel
theorem dX5_newPlace_44 : decode cX5_newPlace 44 = .ok (.iconst 1, 1) := by decide +kernel
theorem dX5_newPlace_45 : decode cX5_newPlace 45 = .ok (.iadd, 1) := by decide +kernel
theorem dX5_newPlace_46 : decode cX5_newPlace 46 = .ok (.putfield 45, 3) := by decide +kernel
theorem dX5_newPlace_49 : decode cX5_newPlace 49 = .ok (.aload_n 0, 1) := by decide +kernel
theorem dX5_newPlace_50 : decode cX5_newPlace 50 = .ok (.getfield 45, 3) := by decide +kernel
theorem dX5_newPlace_53 : decode cX5_newPlace 53 = .ok (.iconst 1, 1) := by decide +kernel
theorem dX5_newPlace_54 : decode cX5_newPlace 54 = .ok (.isub, 1) := by decide +kernel
theorem dX5_newPlace_55 : decode cX5_newPlace 55 = .ok (.ireturn, 1) := by decide +kernel
theorem dX5_fillImage_0 : decode cX5_fillImage 0 = .ok (.aload_n 0, 1) := by decide +kernel
theorem dX5_fillImage_1 : decode cX5_fillImage 1 = .ok (.getfield 28, 3) := by decide +kernel
theorem dX5_fillImage_4 : decode cX5_fillImage 4 = .ok (.lconst 0, 1) := by decide +kernel
theorem dX5_fillImage_5 : decode cX5_fillImage 5 = .ok (.invokestatic 89, 3) := by decide +kernel
theorem dX5_fillImage_8 : decode cX5_fillImage 8 = .ok (.iconst 0, 1) := by decide +kernel
theorem dX5_fillImage_9 : decode cX5_fillImage 9 = .ok (.istore_n 1, 1) := by decide +kernel
theorem dX5_fillImage_10 : decode cX5_fillImage 10 = .ok (.iload_n 1, 1) := by decide +kernel
theorem dX5_fillImage_11 : decode cX5_fillImage 11 = .ok (.aload_n 0, 1) := by decide +kernel
theorem dX5_fillImage_12 : decode cX5_fillImage 12 = .ok (.getfield 45, 3) := by decide +kernel
theorem dX5_fillImage_15 : decode cX5_fillImage 15 = .ok (.if_icmp .ge 27, 3) := by decide +kernel
theorem dX5_fillImage_18 : decode cX5_fillImage 18 = .ok (.aload_n 0, 1) := by decide +kernel
theorem dX5_fillImage_19 : decode cX5_fillImage 19 = .ok (.getfield 28, 3) := by decide +kernel
theorem dX5_fillImage_22 : decode cX5_fillImage 22 = .ok (.iload_n 1, 1) := by decide +kernel
theorem dX5_fillImage_23 : decode cX5_fillImage 23 = .ok (.bipush 6, 2) := by decide +kernel
theorem dX5_fillImage_25 : decode cX5_fillImage 25 = .ok (.ishr, 1) := by decide +kernel
theorem dX5_fillImage_26 : decode cX5_fillImage 26 = .ok (.dup2, 1) := by decide +kernel
theorem dX5_fillImage_27 : decode cX5_fillImage 27 = .ok (.laload, 1) := by decide +kernel
theorem dX5_fillImage_28 : decode cX5_fillImage 28 = .ok (.lconst 1, 1) := by decide +kernel
theorem dX5_fillImage_29 : decode cX5_fillImage 29 = .ok (.iload_n 1, 1) := by decide +kernel
theorem dX5_fillImage_30 : decode cX5_fillImage 30 = .ok (.bipush 63, 2) := by decide +kernel
theorem dX5_fillImage_32 : decode cX5_fillImage 32 = .ok (.iand, 1) := by decide +kernel
theorem dX5_fillImage_33 : decode cX5_fillImage 33 = .ok (.lshl, 1) := by decide +kernel
theorem dX5_fillImage_34 : decode cX5_fillImage 34 = .ok (.lor, 1) := by decide +kernel
theorem dX5_fillImage_35 : decode cX5_fillImage 35 = .ok (.lastore, 1) := by decide +kernel
theorem dX5_fillImage_36 : decode cX5_fillImage 36 = .ok (.iinc 1 1, 3) := by decide +kernel
theorem dX5_fillImage_39 : decode cX5_fillImage 39 = .ok (.goto (-29), 3) := by decide +kernel
theorem dX5_fillImage_42 : decode cX5_fillImage 42 = .ok (.return_, 1) := by decide +kernel
theorem dX5_makeImage_0 : decode cX5_makeImage 0 = .ok (.aload_n 0, 1) := by decide +kernel
theorem dX5_makeImage_1 : decode cX5_makeImage 1 = .ok (.getfield 28, 3) := by decide +kernel
theorem dX5_makeImage_4 : decode cX5_makeImage 4 = .ok (.lconst 0, 1) := by decide +kernel
theorem dX5_makeImage_5 : decode cX5_makeImage 5 = .ok (.invokestatic 89, 3) := by decide +kernel
theorem dX5_makeImage_8 : decode cX5_makeImage 8 = .ok (.iconst 0, 1) := by decide +kernel
theorem dX5_makeImage_9 : decode cX5_makeImage 9 = .ok (.istore_n 3, 1) := by decide +kernel
theorem dX5_makeImage_10 : decode cX5_makeImage 10 = .ok (.iload_n 3, 1) := by decide +kernel
theorem dX5_makeImage_11 : decode cX5_makeImage 11 = .ok (.aload_n 0, 1) := by decide +kernel
theorem dX5_makeImage_12 : decode cX5_makeImage 12 = .ok (.getfield 48, 3) := by decide +kernel
theorem dX5_makeImage_15 : decode cX5_makeImage 15 = .ok (.if_icmp .ge 114, 3) := by decide +kernel
theorem dX5_makeImage_18 : decode cX5_makeImage 18 = .ok (.aload_n 0, 1) := by decide +kernel
theorem dX5_makeImage_19 : decode cX5_makeImage 19 = .ok (.getfield 15, 3) := by decide +kernel
theorem dX5_makeImage_22 : decode cX5_makeImage 22 = .ok (.iload_n 1, 1) := by decide +kernel
theorem dX5_makeImage_23 : decode cX5_makeImage 23 = .ok (.bipush 9, 2) := by decide +kernel
theorem dX5_makeImage_25 : decode cX5_makeImage 25 = .ok (.imul, 1) := by decide +kernel
theorem dX5_makeImage_26 : decode cX5_makeImage 26 = .ok (.iload_n 3, 1) := by decide +kernel
theorem dX5_makeImage_27 : decode cX5_makeImage 27 = .ok (.iadd, 1) := by decide +kernel
theorem dX5_makeImage_28 : decode cX5_makeImage 28 = .ok (.laload, 1) := by decide +kernel
theorem dX5_makeImage_29 : decode cX5_makeImage 29 = .ok (.lstore 4, 2) := by decide +kernel
theorem dX5_makeImage_31 : decode cX5_makeImage 31 = .ok (.iconst 0, 1) := by decide +kernel
theorem dX5_makeImage_32 : decode cX5_makeImage 32 = .ok (.istore 6, 2) := by decide +kernel
theorem dX5_makeImage_34 : decode cX5_makeImage 34 = .ok (.iload 6, 2) := by decide +kernel
theorem dX5_makeImage_36 : decode cX5_makeImage 36 = .ok (.bipush 64, 2) := by decide +kernel
theorem dX5_makeImage_38 : decode cX5_makeImage 38 = .ok (.if_icmp .ge 85, 3) := by decide +kernel
theorem dX5_makeImage_41 : decode cX5_makeImage 41 = .ok (.lload 4, 2) := by decide +kernel
theorem dX5_makeImage_43 : decode cX5_makeImage 43 = .ok (.lconst 0, 1) := by decide +kernel
theorem dX5_makeImage_44 : decode cX5_makeImage 44 = .ok (.lcmp, 1) := by decide +kernel
theorem dX5_makeImage_45 : decode cX5_makeImage 45 = .ok (.ifCond .eq 78, 3) := by decide +kernel
theorem dX5_makeImage_48 : decode cX5_makeImage 48 = .ok (.iload_n 3, 1) := by decide +kernel
theorem dX5_makeImage_49 : decode cX5_makeImage 49 = .ok (.bipush 6, 2) := by decide +kernel
theorem dX5_makeImage_51 : decode cX5_makeImage 51 = .ok (.ishl, 1) := by decide +kernel
theorem dX5_makeImage_52 : decode cX5_makeImage 52 = .ok (.lload 4, 2) := by decide +kernel
theorem dX5_makeImage_54 : decode cX5_makeImage 54 = .ok (.invokestatic 92, 3) := by decide +kernel
theorem dX5_makeImage_57 : decode cX5_makeImage 57 = .ok (.iadd, 1) := by decide +kernel
theorem dX5_makeImage_58 : decode cX5_makeImage 58 = .ok (.istore 7, 2) := by decide +kernel
theorem dX5_makeImage_60 : decode cX5_makeImage 60 = .ok (.lload 4, 2) := by decide +kernel
theorem dX5_makeImage_62 : decode cX5_makeImage 62 = .ok (.lload 4, 2) := by decide +kernel
theorem dX5_makeImage_64 : decode cX5_makeImage 64 = .ok (.lconst 1, 1) := by decide +kernel
theorem dX5_makeImage_65 : decode cX5_makeImage 65 = .ok (.lsub, 1) := by decide +kernel
theorem dX5_makeImage_66 : decode cX5_makeImage 66 = .ok (.land, 1) := by decide +kernel
theorem dX5_makeImage_67 : decode cX5_makeImage 67 = .ok (.lstore 4, 2) := by decide +kernel
theorem dX5_makeImage_69 : decode cX5_makeImage 69 = .ok (.aload_n 0, 1) := by decide +kernel
theorem dX5_makeImage_70 : decode cX5_makeImage 70 = .ok (.getfield 11, 3) := by decide +kernel
theorem dX5_makeImage_73 : decode cX5_makeImage 73 = .ok (.iload 7, 2) := by decide +kernel
theorem dX5_makeImage_75 : decode cX5_makeImage 75 = .ok (.iconst 4, 1) := by decide +kernel
theorem dX5_makeImage_76 : decode cX5_makeImage 76 = .ok (.imul, 1) := by decide +kernel
theorem dX5_makeImage_77 : decode cX5_makeImage 77 = .ok (.iload_n 2, 1) := by decide +kernel
theorem dX5_makeImage_78 : decode cX5_makeImage 78 = .ok (.iadd, 1) := by decide +kernel
theorem dX5_makeImage_79 : decode cX5_makeImage 79 = .ok (.iaload, 1) := by decide +kernel
theorem dX5_makeImage_80 : decode cX5_makeImage 80 = .ok (.istore 8, 2) := by decide +kernel
theorem dX5_makeImage_82 : decode cX5_makeImage 82 = .ok (.iload 8, 2) := by decide +kernel
theorem dX5_makeImage_84 : decode cX5_makeImage 84 = .ok (.ifCond .ne 5, 3) := by decide +kernel
theorem dX5_makeImage_87 : decode cX5_makeImage 87 = .ok (.iconst 0, 1) := by decide +kernel
theorem dX5_makeImage_88 : decode cX5_makeImage 88 = .ok (.ireturn, 1) := by decide +kernel
theorem dX5_makeImage_89 : decode cX5_makeImage 89 = .ok (.iload 8, 2) := by decide +kernel
theorem dX5_makeImage_91 : decode cX5_makeImage 91 = .ok (.iconst 0, 1) := by decide +kernel
theorem dX5_makeImage_92 : decode cX5_makeImage 92 = .ok (.invokestatic 98, 3) := by decide +kernel
theorem dX5_makeImage_95 : decode cX5_makeImage 95 = .ok (.istore 9, 2) := by decide +kernel
theorem dX5_makeImage_97 : decode cX5_makeImage 97 = .ok (.aload_n 0, 1) := by decide +kernel
theorem dX5_makeImage_98 : decode cX5_makeImage 98 = .ok (.getfield 28, 3) := by decide +kernel
theorem dX5_makeImage_101 : decode cX5_makeImage 101 = .ok (.iload 9, 2) := by decide +kernel
theorem dX5_makeImage_103 : decode cX5_makeImage 103 = .ok (.bipush 6, 2) := by decide +kernel
theorem dX5_makeImage_105 : decode cX5_makeImage 105 = .ok (.ishr, 1) := by decide +kernel
theorem dX5_makeImage_106 : decode cX5_makeImage 106 = .ok (.dup2, 1) := by decide +kernel
theorem dX5_makeImage_107 : decode cX5_makeImage 107 = .ok (.laload, 1) := by decide +kernel
theorem dX5_makeImage_108 : decode cX5_makeImage 108 = .ok (.lconst 1, 1) := by decide +kernel
theorem dX5_makeImage_109 : decode cX5_makeImage 109 = .ok (.iload 9, 2) := by decide +kernel
theorem dX5_makeImage_111 : decode cX5_makeImage 111 = .ok (.bipush 63, 2) := by decide +kernel
theorem dX5_makeImage_113 : decode cX5_makeImage 113 = .ok (.iand, 1) := by decide +kernel
theorem dX5_makeImage_114 : decode cX5_makeImage 114 = .ok (.lshl, 1) := by decide +kernel
theorem dX5_makeImage_115 : decode cX5_makeImage 115 = .ok (.lor, 1) := by decide +kernel
theorem dX5_makeImage_116 : decode cX5_makeImage 116 = .ok (.lastore, 1) := by decide +kernel
theorem dX5_makeImage_117 : decode cX5_makeImage 117 = .ok (.iinc 6 1, 3) := by decide +kernel
theorem dX5_makeImage_120 : decode cX5_makeImage 120 = .ok (.goto (-86), 3) := by decide +kernel
theorem dX5_makeImage_123 : decode cX5_makeImage 123 = .ok (.iinc 3 1, 3) := by decide +kernel
theorem dX5_makeImage_126 : decode cX5_makeImage 126 = .ok (.goto (-116), 3) := by decide +kernel
theorem dX5_makeImage_129 : decode cX5_makeImage 129 = .ok (.iconst 1, 1) := by decide +kernel
theorem dX5_makeImage_130 : decode cX5_makeImage 130 = .ok (.ireturn, 1) := by decide +kernel
theorem dX5_takeImage_0 : decode cX5_takeImage 0 = .ok (.aload_n 0, 1) := by decide +kernel
theorem dX5_takeImage_1 : decode cX5_takeImage 1 = .ok (.getfield 35, 3) := by decide +kernel
theorem dX5_takeImage_4 : decode cX5_takeImage 4 = .ok (.istore_n 3, 1) := by decide +kernel
theorem dX5_takeImage_5 : decode cX5_takeImage 5 = .ok (.iconst 0, 1) := by decide +kernel
theorem dX5_takeImage_6 : decode cX5_takeImage 6 = .ok (.istore 4, 2) := by decide +kernel
theorem dX5_takeImage_8 : decode cX5_takeImage 8 = .ok (.iload 4, 2) := by decide +kernel
theorem dX5_takeImage_10 : decode cX5_takeImage 10 = .ok (.aload_n 0, 1) := by decide +kernel
theorem dX5_takeImage_11 : decode cX5_takeImage 11 = .ok (.getfield 48, 3) := by decide +kernel
theorem dX5_takeImage_14 : decode cX5_takeImage 14 = .ok (.if_icmp .ge 28, 3) := by decide +kernel
theorem dX5_takeImage_17 : decode cX5_takeImage 17 = .ok (.aload_n 0, 1) := by decide +kernel
theorem dX5_takeImage_18 : decode cX5_takeImage 18 = .ok (.getfield 15, 3) := by decide +kernel
theorem dX5_takeImage_21 : decode cX5_takeImage 21 = .ok (.iload_n 3, 1) := by decide +kernel
theorem dX5_takeImage_22 : decode cX5_takeImage 22 = .ok (.bipush 9, 2) := by decide +kernel
theorem dX5_takeImage_24 : decode cX5_takeImage 24 = .ok (.imul, 1) := by decide +kernel
theorem dX5_takeImage_25 : decode cX5_takeImage 25 = .ok (.iload 4, 2) := by decide +kernel
theorem dX5_takeImage_27 : decode cX5_takeImage 27 = .ok (.iadd, 1) := by decide +kernel
theorem dX5_takeImage_28 : decode cX5_takeImage 28 = .ok (.aload_n 0, 1) := by decide +kernel
theorem dX5_takeImage_29 : decode cX5_takeImage 29 = .ok (.getfield 28, 3) := by decide +kernel
theorem dX5_takeImage_32 : decode cX5_takeImage 32 = .ok (.iload 4, 2) := by decide +kernel
theorem dX5_takeImage_34 : decode cX5_takeImage 34 = .ok (.laload, 1) := by decide +kernel
theorem dX5_takeImage_35 : decode cX5_takeImage 35 = .ok (.lastore, 1) := by decide +kernel
theorem dX5_takeImage_36 : decode cX5_takeImage 36 = .ok (.iinc 4 1, 3) := by decide +kernel
theorem dX5_takeImage_39 : decode cX5_takeImage 39 = .ok (.goto (-31), 3) := by decide +kernel
theorem dX5_takeImage_42 : decode cX5_takeImage 42 = .ok (.aload_n 0, 1) := by decide +kernel
theorem dX5_takeImage_43 : decode cX5_takeImage 43 = .ok (.getfield 19, 3) := by decide +kernel
theorem dX5_takeImage_46 : decode cX5_takeImage 46 = .ok (.iload_n 3, 1) := by decide +kernel
theorem dX5_takeImage_47 : decode cX5_takeImage 47 = .ok (.iload_n 1, 1) := by decide +kernel
theorem dX5_takeImage_48 : decode cX5_takeImage 48 = .ok (.iastore, 1) := by decide +kernel
theorem dX5_takeImage_49 : decode cX5_takeImage 49 = .ok (.aload_n 0, 1) := by decide +kernel
theorem dX5_takeImage_50 : decode cX5_takeImage 50 = .ok (.getfield 22, 3) := by decide +kernel
theorem dX5_takeImage_53 : decode cX5_takeImage 53 = .ok (.iload_n 3, 1) := by decide +kernel
theorem dX5_takeImage_54 : decode cX5_takeImage 54 = .ok (.iload_n 2, 1) := by decide +kernel
theorem dX5_takeImage_55 : decode cX5_takeImage 55 = .ok (.iastore, 1) := by decide +kernel
theorem dX5_takeImage_56 : decode cX5_takeImage 56 = .ok (.aload_n 0, 1) := by decide +kernel
theorem dX5_takeImage_57 : decode cX5_takeImage 57 = .ok (.dup, 1) := by decide +kernel
theorem dX5_takeImage_58 : decode cX5_takeImage 58 = .ok (.getfield 35, 3) := by decide +kernel
theorem dX5_takeImage_61 : decode cX5_takeImage 61 = .ok (.iconst 1, 1) := by decide +kernel
theorem dX5_takeImage_62 : decode cX5_takeImage 62 = .ok (.iadd, 1) := by decide +kernel
theorem dX5_takeImage_63 : decode cX5_takeImage 63 = .ok (.putfield 35, 3) := by decide +kernel
theorem dX5_takeImage_66 : decode cX5_takeImage 66 = .ok (.aload_n 0, 1) := by decide +kernel
theorem dX5_takeImage_67 : decode cX5_takeImage 67 = .ok (.getfield 25, 3) := by decide +kernel
theorem dX5_takeImage_70 : decode cX5_takeImage 70 = .ok (.aload_n 0, 1) := by decide +kernel
theorem dX5_takeImage_71 : decode cX5_takeImage 71 = .ok (.invokevirtual 67, 3) := by decide +kernel
theorem dX5_takeImage_74 : decode cX5_takeImage 74 = .ok (.aload_n 0, 1) := by decide +kernel
theorem dX5_takeImage_75 : decode cX5_takeImage 75 = .ok (.getfield 35, 3) := by decide +kernel
theorem dX5_takeImage_78 : decode cX5_takeImage 78 = .ok (.iastore, 1) := by decide +kernel
theorem dX5_takeImage_79 : decode cX5_takeImage 79 = .ok (.aload_n 0, 1) := by decide +kernel
theorem dX5_takeImage_80 : decode cX5_takeImage 80 = .ok (.invokevirtual 104, 3) := by decide +kernel
theorem dX5_takeImage_83 : decode cX5_takeImage 83 = .ok (.ifCond .ne 5, 3) := by decide +kernel
theorem dX5_takeImage_86 : decode cX5_takeImage 86 = .ok (.iconst 0, 1) := by decide +kernel
theorem dX5_takeImage_87 : decode cX5_takeImage 87 = .ok (.ireturn, 1) := by decide +kernel
theorem dX5_takeImage_88 : decode cX5_takeImage 88 = .ok (.aload_n 0, 1) := by decide +kernel
theorem dX5_takeImage_89 : decode cX5_takeImage 89 = .ok (.iload_n 3, 1) := by decide +kernel
theorem dX5_takeImage_90 : decode cX5_takeImage 90 = .ok (.putfield 31, 3) := by decide +kernel
theorem dX5_takeImage_93 : decode cX5_takeImage 93 = .ok (.iload_n 3, 1) := by decide +kernel
theorem dX5_takeImage_94 : decode cX5_takeImage 94 = .ok (.istore 4, 2) := by decide +kernel
theorem dX5_takeImage_96 : decode cX5_takeImage 96 = .ok (.iconst 0, 1) := by decide +kernel
theorem dX5_takeImage_97 : decode cX5_takeImage 97 = .ok (.istore 5, 2) := by decide +kernel
theorem dX5_takeImage_99 : decode cX5_takeImage 99 = .ok (.iload 5, 2) := by decide +kernel
theorem dX5_takeImage_101 : decode cX5_takeImage 101 = .ok (.sipush 2000, 3) := by decide +kernel
theorem dX5_takeImage_104 : decode cX5_takeImage 104 = .ok (.if_icmp .ge 38, 3) := by decide +kernel
theorem dX5_takeImage_107 : decode cX5_takeImage 107 = .ok (.aload_n 0, 1) := by decide +kernel
theorem dX5_takeImage_108 : decode cX5_takeImage 108 = .ok (.getfield 19, 3) := by decide +kernel
theorem dX5_takeImage_111 : decode cX5_takeImage 111 = .ok (.iload 4, 2) := by decide +kernel
theorem dX5_takeImage_113 : decode cX5_takeImage 113 = .ok (.iaload, 1) := by decide +kernel
theorem dX5_takeImage_114 : decode cX5_takeImage 114 = .ok (.ifCond .lt 28, 3) := by decide +kernel
theorem dX5_takeImage_117 : decode cX5_takeImage 117 = .ok (.aload_n 0, 1) := by decide +kernel
theorem dX5_takeImage_118 : decode cX5_takeImage 118 = .ok (.getfield 19, 3) := by decide +kernel
theorem dX5_takeImage_121 : decode cX5_takeImage 121 = .ok (.iload 4, 2) := by decide +kernel
theorem dX5_takeImage_123 : decode cX5_takeImage 123 = .ok (.iaload, 1) := by decide +kernel
theorem dX5_takeImage_124 : decode cX5_takeImage 124 = .ok (.istore 4, 2) := by decide +kernel
theorem dX5_takeImage_126 : decode cX5_takeImage 126 = .ok (.aload_n 0, 1) := by decide +kernel
theorem dX5_takeImage_127 : decode cX5_takeImage 127 = .ok (.dup, 1) := by decide +kernel
theorem dX5_takeImage_128 : decode cX5_takeImage 128 = .ok (.getfield 38, 3) := by decide +kernel
theorem dX5_takeImage_131 : decode cX5_takeImage 131 = .ok (.iconst 1, 1) := by decide +kernel
theorem dX5_takeImage_132 : decode cX5_takeImage 132 = .ok (.iadd, 1) := by decide +kernel
theorem dX5_takeImage_133 : decode cX5_takeImage 133 = .ok (.putfield 38, 3) := by decide +kernel
theorem dX5_takeImage_136 : decode cX5_takeImage 136 = .ok (.iinc 5 1, 3) := by decide +kernel
theorem dX5_takeImage_139 : decode cX5_takeImage 139 = .ok (.goto (-40), 3) := by decide +kernel
theorem dX5_takeImage_142 : decode cX5_takeImage 142 = .ok (.iconst 1, 1) := by decide +kernel
theorem dX5_takeImage_143 : decode cX5_takeImage 143 = .ok (.ireturn, 1) := by decide +kernel
theorem dX5_imageIsHome_0 : decode cX5_imageIsHome 0 = .ok (.aload_n 0, 1) := by decide +kernel
theorem dX5_imageIsHome_1 : decode cX5_imageIsHome 1 = .ok (.getfield 28, 3) := by decide +kernel
theorem dX5_imageIsHome_4 : decode cX5_imageIsHome 4 = .ok (.iconst 0, 1) := by decide +kernel
theorem dX5_imageIsHome_5 : decode cX5_imageIsHome 5 = .ok (.laload, 1) := by decide +kernel
theorem dX5_imageIsHome_6 : decode cX5_imageIsHome 6 = .ok (.lconst 1, 1) := by decide +kernel
theorem dX5_imageIsHome_7 : decode cX5_imageIsHome 7 = .ok (.lcmp, 1) := by decide +kernel
theorem dX5_imageIsHome_8 : decode cX5_imageIsHome 8 = .ok (.ifCond .eq 5, 3) := by decide +kernel
theorem dX5_imageIsHome_11 : decode cX5_imageIsHome 11 = .ok (.iconst 0, 1) := by decide +kernel
theorem dX5_imageIsHome_12 : decode cX5_imageIsHome 12 = .ok (.ireturn, 1) := by decide +kernel
theorem dX5_imageIsHome_13 : decode cX5_imageIsHome 13 = .ok (.iconst 1, 1) := by decide +kernel
theorem dX5_imageIsHome_14 : decode cX5_imageIsHome 14 = .ok (.istore_n 1, 1) := by decide +kernel
theorem dX5_imageIsHome_15 : decode cX5_imageIsHome 15 = .ok (.iload_n 1, 1) := by decide +kernel
theorem dX5_imageIsHome_16 : decode cX5_imageIsHome 16 = .ok (.aload_n 0, 1) := by decide +kernel
theorem dX5_imageIsHome_17 : decode cX5_imageIsHome 17 = .ok (.getfield 48, 3) := by decide +kernel
theorem dX5_imageIsHome_20 : decode cX5_imageIsHome 20 = .ok (.if_icmp .ge 22, 3) := by decide +kernel
theorem dX5_imageIsHome_23 : decode cX5_imageIsHome 23 = .ok (.aload_n 0, 1) := by decide +kernel
theorem dX5_imageIsHome_24 : decode cX5_imageIsHome 24 = .ok (.getfield 28, 3) := by decide +kernel
theorem dX5_imageIsHome_27 : decode cX5_imageIsHome 27 = .ok (.iload_n 1, 1) := by decide +kernel
theorem dX5_imageIsHome_28 : decode cX5_imageIsHome 28 = .ok (.laload, 1) := by decide +kernel
theorem dX5_imageIsHome_29 : decode cX5_imageIsHome 29 = .ok (.lconst 0, 1) := by decide +kernel
theorem dX5_imageIsHome_30 : decode cX5_imageIsHome 30 = .ok (.lcmp, 1) := by decide +kernel
theorem dX5_imageIsHome_31 : decode cX5_imageIsHome 31 = .ok (.ifCond .eq 5, 3) := by decide +kernel
theorem dX5_imageIsHome_34 : decode cX5_imageIsHome 34 = .ok (.iconst 0, 1) := by decide +kernel
theorem dX5_imageIsHome_35 : decode cX5_imageIsHome 35 = .ok (.ireturn, 1) := by decide +kernel
theorem dX5_imageIsHome_36 : decode cX5_imageIsHome 36 = .ok (.iinc 1 1, 3) := by decide +kernel
theorem dX5_imageIsHome_39 : decode cX5_imageIsHome 39 = .ok (.goto (-24), 3) := by decide +kernel
theorem dX5_imageIsHome_42 : decode cX5_imageIsHome 42 = .ok (.iconst 1, 1) := by decide +kernel
theorem dX5_imageIsHome_43 : decode cX5_imageIsHome 43 = .ok (.ireturn, 1) := by decide +kernel
theorem dX5_slotOfImage_0 : decode cX5_slotOfImage 0 = .ok (.lconst 0, 1) := by decide +kernel
theorem dX5_slotOfImage_1 : decode cX5_slotOfImage 1 = .ok (.lstore_n 1, 1) := by decide +kernel
theorem dX5_slotOfImage_2 : decode cX5_slotOfImage 2 = .ok (.iconst 0, 1) := by decide +kernel
theorem dX5_slotOfImage_3 : decode cX5_slotOfImage 3 = .ok (.istore_n 3, 1) := by decide +kernel
theorem dX5_slotOfImage_4 : decode cX5_slotOfImage 4 = .ok (.iload_n 3, 1) := by decide +kernel
theorem dX5_slotOfImage_5 : decode cX5_slotOfImage 5 = .ok (.aload_n 0, 1) := by decide +kernel
theorem dX5_slotOfImage_6 : decode cX5_slotOfImage 6 = .ok (.getfield 48, 3) := by decide +kernel
theorem dX5_slotOfImage_9 : decode cX5_slotOfImage 9 = .ok (.if_icmp .ge 29, 3) := by decide +kernel
theorem dX5_slotOfImage_12 : decode cX5_slotOfImage 12 = .ok (.lload_n 1, 1) := by decide +kernel
theorem dX5_slotOfImage_13 : decode cX5_slotOfImage 13 = .ok (.aload_n 0, 1) := by decide +kernel
theorem dX5_slotOfImage_14 : decode cX5_slotOfImage 14 = .ok (.getfield 28, 3) := by decide +kernel
theorem dX5_slotOfImage_17 : decode cX5_slotOfImage 17 = .ok (.iload_n 3, 1) := by decide +kernel
theorem dX5_slotOfImage_18 : decode cX5_slotOfImage 18 = .ok (.laload, 1) := by decide +kernel
theorem dX5_slotOfImage_19 : decode cX5_slotOfImage 19 = .ok (.lxor, 1) := by decide +kernel
theorem dX5_slotOfImage_20 : decode cX5_slotOfImage 20 = .ok (.ldc2_w 108, 3) := by decide +kernel
theorem dX5_slotOfImage_23 : decode cX5_slotOfImage 23 = .ok (.lmul, 1) := by decide +kernel
theorem dX5_slotOfImage_24 : decode cX5_slotOfImage 24 = .ok (.lstore_n 1, 1) := by decide +kernel
theorem dX5_slotOfImage_25 : decode cX5_slotOfImage 25 = .ok (.lload_n 1, 1) := by decide +kernel
theorem dX5_slotOfImage_26 : decode cX5_slotOfImage 26 = .ok (.lload_n 1, 1) := by decide +kernel
theorem dX5_slotOfImage_27 : decode cX5_slotOfImage 27 = .ok (.bipush 29, 2) := by decide +kernel
theorem dX5_slotOfImage_29 : decode cX5_slotOfImage 29 = .ok (.lushr, 1) := by decide +kernel
theorem dX5_slotOfImage_30 : decode cX5_slotOfImage 30 = .ok (.lxor, 1) := by decide +kernel
theorem dX5_slotOfImage_31 : decode cX5_slotOfImage 31 = .ok (.lstore_n 1, 1) := by decide +kernel
theorem dX5_slotOfImage_32 : decode cX5_slotOfImage 32 = .ok (.iinc 3 1, 3) := by decide +kernel
theorem dX5_slotOfImage_35 : decode cX5_slotOfImage 35 = .ok (.goto (-31), 3) := by decide +kernel
theorem dX5_slotOfImage_38 : decode cX5_slotOfImage 38 = .ok (.lload_n 1, 1) := by decide +kernel
theorem dX5_slotOfImage_39 : decode cX5_slotOfImage 39 = .ok (.bipush 20, 2) := by decide +kernel
theorem dX5_slotOfImage_41 : decode cX5_slotOfImage 41 = .ok (.lushr, 1) := by decide +kernel
theorem dX5_slotOfImage_42 : decode cX5_slotOfImage 42 = .ok (.l2i, 1) := by decide +kernel
theorem dX5_slotOfImage_43 : decode cX5_slotOfImage 43 = .ok (.sipush 4095, 3) := by decide +kernel
theorem dX5_slotOfImage_46 : decode cX5_slotOfImage 46 = .ok (.iand, 1) := by decide +kernel
theorem dX5_slotOfImage_47 : decode cX5_slotOfImage 47 = .ok (.istore_n 3, 1) := by decide +kernel
theorem dX5_slotOfImage_48 : decode cX5_slotOfImage 48 = .ok (.iconst 0, 1) := by decide +kernel
theorem dX5_slotOfImage_49 : decode cX5_slotOfImage 49 = .ok (.istore 4, 2) := by decide +kernel
theorem dX5_slotOfImage_51 : decode cX5_slotOfImage 51 = .ok (.iload 4, 2) := by decide +kernel
theorem dX5_slotOfImage_53 : decode cX5_slotOfImage 53 = .ok (.sipush 4096, 3) := by decide +kernel
theorem dX5_slotOfImage_56 : decode cX5_slotOfImage 56 = .ok (.if_icmp .ge 41, 3) := by decide +kernel
theorem dX5_slotOfImage_59 : decode cX5_slotOfImage 59 = .ok (.aload_n 0, 1) := by decide +kernel
theorem dX5_slotOfImage_60 : decode cX5_slotOfImage 60 = .ok (.getfield 25, 3) := by decide +kernel
theorem dX5_slotOfImage_63 : decode cX5_slotOfImage 63 = .ok (.iload_n 3, 1) := by decide +kernel
theorem dX5_slotOfImage_64 : decode cX5_slotOfImage 64 = .ok (.iaload, 1) := by decide +kernel
theorem dX5_slotOfImage_65 : decode cX5_slotOfImage 65 = .ok (.ifCond .eq 32, 3) := by decide +kernel
theorem dX5_slotOfImage_68 : decode cX5_slotOfImage 68 = .ok (.aload_n 0, 1) := by decide +kernel
theorem dX5_slotOfImage_69 : decode cX5_slotOfImage 69 = .ok (.aload_n 0, 1) := by decide +kernel
theorem dX5_slotOfImage_70 : decode cX5_slotOfImage 70 = .ok (.getfield 25, 3) := by decide +kernel
theorem dX5_slotOfImage_73 : decode cX5_slotOfImage 73 = .ok (.iload_n 3, 1) := by decide +kernel
theorem dX5_slotOfImage_74 : decode cX5_slotOfImage 74 = .ok (.iaload, 1) := by decide +kernel
theorem dX5_slotOfImage_75 : decode cX5_slotOfImage 75 = .ok (.iconst 1, 1) := by decide +kernel
theorem dX5_slotOfImage_76 : decode cX5_slotOfImage 76 = .ok (.isub, 1) := by decide +kernel
theorem dX5_slotOfImage_77 : decode cX5_slotOfImage 77 = .ok (.invokevirtual 110, 3) := by decide +kernel
theorem dX5_slotOfImage_80 : decode cX5_slotOfImage 80 = .ok (.ifCond .ne 17, 3) := by decide +kernel
theorem dX5_slotOfImage_83 : decode cX5_slotOfImage 83 = .ok (.iload_n 3, 1) := by decide +kernel
theorem dX5_slotOfImage_84 : decode cX5_slotOfImage 84 = .ok (.iconst 1, 1) := by decide +kernel
theorem dX5_slotOfImage_85 : decode cX5_slotOfImage 85 = .ok (.iadd, 1) := by decide +kernel
theorem dX5_slotOfImage_86 : decode cX5_slotOfImage 86 = .ok (.sipush 4095, 3) := by decide +kernel
theorem dX5_slotOfImage_89 : decode cX5_slotOfImage 89 = .ok (.iand, 1) := by decide +kernel
theorem dX5_slotOfImage_90 : decode cX5_slotOfImage 90 = .ok (.istore_n 3, 1) := by decide +kernel
theorem dX5_slotOfImage_91 : decode cX5_slotOfImage 91 = .ok (.iinc 4 1, 3) := by decide +kernel
theorem dX5_slotOfImage_94 : decode cX5_slotOfImage 94 = .ok (.goto (-43), 3) := by decide +kernel
theorem dX5_slotOfImage_97 : decode cX5_slotOfImage 97 = .ok (.iload_n 3, 1) := by decide +kernel
theorem dX5_slotOfImage_98 : decode cX5_slotOfImage 98 = .ok (.ireturn, 1) := by decide +kernel
theorem dX5_imageIs_0 : decode cX5_imageIs 0 = .ok (.iconst 0, 1) := by decide +kernel
theorem dX5_imageIs_1 : decode cX5_imageIs 1 = .ok (.istore_n 2, 1) := by decide +kernel
theorem dX5_imageIs_2 : decode cX5_imageIs 2 = .ok (.iload_n 2, 1) := by decide +kernel
theorem dX5_imageIs_3 : decode cX5_imageIs 3 = .ok (.aload_n 0, 1) := by decide +kernel
theorem dX5_imageIs_4 : decode cX5_imageIs 4 = .ok (.getfield 48, 3) := by decide +kernel
theorem dX5_imageIs_7 : decode cX5_imageIs 7 = .ok (.if_icmp .ge 32, 3) := by decide +kernel
theorem dX5_imageIs_10 : decode cX5_imageIs 10 = .ok (.aload_n 0, 1) := by decide +kernel
theorem dX5_imageIs_11 : decode cX5_imageIs 11 = .ok (.getfield 15, 3) := by decide +kernel
theorem dX5_imageIs_14 : decode cX5_imageIs 14 = .ok (.iload_n 1, 1) := by decide +kernel
theorem dX5_imageIs_15 : decode cX5_imageIs 15 = .ok (.bipush 9, 2) := by decide +kernel
theorem dX5_imageIs_17 : decode cX5_imageIs 17 = .ok (.imul, 1) := by decide +kernel
