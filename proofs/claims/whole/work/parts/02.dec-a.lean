theorem dX0_init_0 : decode cX0_init 0 = .ok (.aload_n 0, 1) := by decide +kernel
theorem dX0_init_1 : decode cX0_init 1 = .ok (.invokespecial 3, 3) := by decide +kernel
theorem dX0_init_4 : decode cX0_init 4 = .ok (.aload_n 0, 1) := by decide +kernel
theorem dX0_init_5 : decode cX0_init 5 = .ok (.iconst 0, 1) := by decide +kernel
theorem dX0_init_6 : decode cX0_init 6 = .ok (.putfield 9, 3) := by decide +kernel
theorem dX0_init_9 : decode cX0_init 9 = .ok (.aload_n 0, 1) := by decide +kernel
theorem dX0_init_10 : decode cX0_init 10 = .ok (.bipush 9, 2) := by decide +kernel
theorem dX0_init_12 : decode cX0_init 12 = .ok (.newarray .int, 2) := by decide +kernel
theorem dX0_init_14 : decode cX0_init 14 = .ok (.putfield 15, 3) := by decide +kernel
theorem dX0_init_17 : decode cX0_init 17 = .ok (.aload_n 0, 1) := by decide +kernel
theorem dX0_init_18 : decode cX0_init 18 = .ok (.bipush 9, 2) := by decide +kernel
theorem dX0_init_20 : decode cX0_init 20 = .ok (.newarray .int, 2) := by decide +kernel
theorem dX0_init_22 : decode cX0_init 22 = .ok (.putfield 19, 3) := by decide +kernel
theorem dX0_init_25 : decode cX0_init 25 = .ok (.aload_n 0, 1) := by decide +kernel
theorem dX0_init_26 : decode cX0_init 26 = .ok (.bipush 9, 2) := by decide +kernel
theorem dX0_init_28 : decode cX0_init 28 = .ok (.newarray .int, 2) := by decide +kernel
theorem dX0_init_30 : decode cX0_init 30 = .ok (.putfield 22, 3) := by decide +kernel
theorem dX0_init_33 : decode cX0_init 33 = .ok (.aload_n 0, 1) := by decide +kernel
theorem dX0_init_34 : decode cX0_init 34 = .ok (.bipush 9, 2) := by decide +kernel
theorem dX0_init_36 : decode cX0_init 36 = .ok (.newarray .int, 2) := by decide +kernel
theorem dX0_init_38 : decode cX0_init 38 = .ok (.putfield 25, 3) := by decide +kernel
theorem dX0_init_41 : decode cX0_init 41 = .ok (.aload_n 0, 1) := by decide +kernel
theorem dX0_init_42 : decode cX0_init 42 = .ok (.sipush 512, 3) := by decide +kernel
theorem dX0_init_45 : decode cX0_init 45 = .ok (.newarray .boolean, 2) := by decide +kernel
theorem dX0_init_47 : decode cX0_init 47 = .ok (.putfield 28, 3) := by decide +kernel
theorem dX0_init_50 : decode cX0_init 50 = .ok (.aload_n 0, 1) := by decide +kernel
theorem dX0_init_51 : decode cX0_init 51 = .ok (.aload_n 1, 1) := by decide +kernel
theorem dX0_init_52 : decode cX0_init 52 = .ok (.putfield 32, 3) := by decide +kernel
theorem dX0_init_55 : decode cX0_init 55 = .ok (.aload_n 0, 1) := by decide +kernel
theorem dX0_init_56 : decode cX0_init 56 = .ok (.aload_n 2, 1) := by decide +kernel
theorem dX0_init_57 : decode cX0_init 57 = .ok (.putfield 36, 3) := by decide +kernel
theorem dX0_init_60 : decode cX0_init 60 = .ok (.aload_n 0, 1) := by decide +kernel
theorem dX0_init_61 : decode cX0_init 61 = .ok (.new 40, 3) := by decide +kernel
theorem dX0_init_64 : decode cX0_init 64 = .ok (.dup, 1) := by decide +kernel
theorem dX0_init_65 : decode cX0_init 65 = .ok (.aload_n 1, 1) := by decide +kernel
theorem dX0_init_66 : decode cX0_init 66 = .ok (.invokespecial 42, 3) := by decide +kernel
theorem dX0_init_69 : decode cX0_init 69 = .ok (.putfield 45, 3) := by decide +kernel
theorem dX0_init_72 : decode cX0_init 72 = .ok (.return_, 1) := by decide +kernel
theorem dX0_findOrder_0 : decode cX0_findOrder 0 = .ok (.aload_n 0, 1) := by decide +kernel
theorem dX0_findOrder_1 : decode cX0_findOrder 1 = .ok (.aload_n 1, 1) := by decide +kernel
theorem dX0_findOrder_2 : decode cX0_findOrder 2 = .ok (.iconst (-1), 1) := by decide +kernel
theorem dX0_findOrder_3 : decode cX0_findOrder 3 = .ok (.invokevirtual 48, 3) := by decide +kernel
theorem dX0_findOrder_6 : decode cX0_findOrder 6 = .ok (.aload_n 0, 1) := by decide +kernel
theorem dX0_findOrder_7 : decode cX0_findOrder 7 = .ok (.invokevirtual 52, 3) := by decide +kernel
theorem dX0_findOrder_10 : decode cX0_findOrder 10 = .ok (.ireturn, 1) := by decide +kernel
theorem dX0_firstThird_0 : decode cX0_firstThird 0 = .ok (.iconst 0, 1) := by decide +kernel
theorem dX0_firstThird_1 : decode cX0_firstThird 1 = .ok (.istore_n 2, 1) := by decide +kernel
theorem dX0_firstThird_2 : decode cX0_firstThird 2 = .ok (.iload_n 2, 1) := by decide +kernel
theorem dX0_firstThird_3 : decode cX0_firstThird 3 = .ok (.aload_n 0, 1) := by decide +kernel
theorem dX0_firstThird_4 : decode cX0_firstThird 4 = .ok (.getfield 32, 3) := by decide +kernel
theorem dX0_firstThird_7 : decode cX0_firstThird 7 = .ok (.getfield 56, 3) := by decide +kernel
theorem dX0_firstThird_10 : decode cX0_firstThird 10 = .ok (.if_icmp .ge 77, 3) := by decide +kernel
theorem dX0_firstThird_13 : decode cX0_firstThird 13 = .ok (.iconst 0, 1) := by decide +kernel
theorem dX0_firstThird_14 : decode cX0_firstThird 14 = .ok (.istore_n 3, 1) := by decide +kernel
theorem dX0_firstThird_15 : decode cX0_firstThird 15 = .ok (.iload_n 3, 1) := by decide +kernel
theorem dX0_firstThird_16 : decode cX0_firstThird 16 = .ok (.aload_n 0, 1) := by decide +kernel
theorem dX0_firstThird_17 : decode cX0_firstThird 17 = .ok (.getfield 32, 3) := by decide +kernel
theorem dX0_firstThird_20 : decode cX0_firstThird 20 = .ok (.getfield 61, 3) := by decide +kernel
theorem dX0_firstThird_23 : decode cX0_firstThird 23 = .ok (.if_icmp .ge 58, 3) := by decide +kernel
theorem dX0_firstThird_26 : decode cX0_firstThird 26 = .ok (.aload_n 0, 1) := by decide +kernel
theorem dX0_firstThird_27 : decode cX0_firstThird 27 = .ok (.getfield 36, 3) := by decide +kernel
theorem dX0_firstThird_30 : decode cX0_firstThird 30 = .ok (.iload_n 2, 1) := by decide +kernel
theorem dX0_firstThird_31 : decode cX0_firstThird 31 = .ok (.aload_n 1, 1) := by decide +kernel
theorem dX0_firstThird_32 : decode cX0_firstThird 32 = .ok (.invokevirtual 64, 3) := by decide +kernel
theorem dX0_firstThird_35 : decode cX0_firstThird 35 = .ok (.ifCond .eq 46, 3) := by decide +kernel
theorem dX0_firstThird_38 : decode cX0_firstThird 38 = .ok (.iload_n 3, 1) := by decide +kernel
theorem dX0_firstThird_39 : decode cX0_firstThird 39 = .ok (.aload_n 0, 1) := by decide +kernel
theorem dX0_firstThird_40 : decode cX0_firstThird 40 = .ok (.getfield 36, 3) := by decide +kernel
theorem dX0_firstThird_43 : decode cX0_firstThird 43 = .ok (.getfield 68, 3) := by decide +kernel
theorem dX0_firstThird_46 : decode cX0_firstThird 46 = .ok (.iload_n 2, 1) := by decide +kernel
theorem dX0_firstThird_47 : decode cX0_firstThird 47 = .ok (.iaload, 1) := by decide +kernel
theorem dX0_firstThird_48 : decode cX0_firstThird 48 = .ok (.if_icmp .eq 27, 3) := by decide +kernel
theorem dX0_firstThird_51 : decode cX0_firstThird 51 = .ok (.iload_n 3, 1) := by decide +kernel
theorem dX0_firstThird_52 : decode cX0_firstThird 52 = .ok (.aload_n 1, 1) := by decide +kernel
theorem dX0_firstThird_53 : decode cX0_firstThird 53 = .ok (.iload_n 2, 1) := by decide +kernel
theorem dX0_firstThird_54 : decode cX0_firstThird 54 = .ok (.iaload, 1) := by decide +kernel
theorem dX0_firstThird_55 : decode cX0_firstThird 55 = .ok (.if_icmp .eq 20, 3) := by decide +kernel
theorem dX0_firstThird_58 : decode cX0_firstThird 58 = .ok (.aload_n 0, 1) := by decide +kernel
theorem dX0_firstThird_59 : decode cX0_firstThird 59 = .ok (.aload_n 1, 1) := by decide +kernel
theorem dX0_firstThird_60 : decode cX0_firstThird 60 = .ok (.iload_n 2, 1) := by decide +kernel
theorem dX0_firstThird_61 : decode cX0_firstThird 61 = .ok (.iload_n 3, 1) := by decide +kernel
theorem dX0_firstThird_62 : decode cX0_firstThird 62 = .ok (.invokevirtual 71, 3) := by decide +kernel
theorem dX0_firstThird_65 : decode cX0_firstThird 65 = .ok (.ifCond .eq 10, 3) := by decide +kernel
theorem dX0_firstThird_68 : decode cX0_firstThird 68 = .ok (.iload_n 2, 1) := by decide +kernel
theorem dX0_firstThird_69 : decode cX0_firstThird 69 = .ok (.bipush 8, 2) := by decide +kernel
theorem dX0_firstThird_71 : decode cX0_firstThird 71 = .ok (.imul, 1) := by decide +kernel
theorem dX0_firstThird_72 : decode cX0_firstThird 72 = .ok (.iload_n 3, 1) := by decide +kernel
theorem dX0_firstThird_73 : decode cX0_firstThird 73 = .ok (.iadd, 1) := by decide +kernel
theorem dX0_firstThird_74 : decode cX0_firstThird 74 = .ok (.ireturn, 1) := by decide +kernel
theorem dX0_firstThird_75 : decode cX0_firstThird 75 = .ok (.iinc 3 1, 3) := by decide +kernel
theorem dX0_firstThird_78 : decode cX0_firstThird 78 = .ok (.goto (-63), 3) := by decide +kernel
theorem dX0_firstThird_81 : decode cX0_firstThird 81 = .ok (.iinc 2 1, 3) := by decide +kernel
theorem dX0_firstThird_84 : decode cX0_firstThird 84 = .ok (.goto (-82), 3) := by decide +kernel
theorem dX0_firstThird_87 : decode cX0_firstThird 87 = .ok (.iconst (-1), 1) := by decide +kernel
theorem dX0_firstThird_88 : decode cX0_firstThird 88 = .ok (.ireturn, 1) := by decide +kernel
theorem dX0_leastStop_0 : decode cX0_leastStop 0 = .ok (.iconst (-1), 1) := by decide +kernel
theorem dX0_leastStop_1 : decode cX0_leastStop 1 = .ok (.istore_n 2, 1) := by decide +kernel
theorem dX0_leastStop_2 : decode cX0_leastStop 2 = .ok (.iconst 0, 1) := by decide +kernel
theorem dX0_leastStop_3 : decode cX0_leastStop 3 = .ok (.istore_n 3, 1) := by decide +kernel
theorem dX0_leastStop_4 : decode cX0_leastStop 4 = .ok (.iload_n 3, 1) := by decide +kernel
theorem dX0_leastStop_5 : decode cX0_leastStop 5 = .ok (.aload_n 0, 1) := by decide +kernel
theorem dX0_leastStop_6 : decode cX0_leastStop 6 = .ok (.getfield 32, 3) := by decide +kernel
theorem dX0_leastStop_9 : decode cX0_leastStop 9 = .ok (.getfield 56, 3) := by decide +kernel
theorem dX0_leastStop_12 : decode cX0_leastStop 12 = .ok (.if_icmp .ge 68, 3) := by decide +kernel
theorem dX0_leastStop_15 : decode cX0_leastStop 15 = .ok (.iload_n 2, 1) := by decide +kernel
theorem dX0_leastStop_16 : decode cX0_leastStop 16 = .ok (.iconst (-1), 1) := by decide +kernel
theorem dX0_leastStop_17 : decode cX0_leastStop 17 = .ok (.if_icmp .eq 22, 3) := by decide +kernel
theorem dX0_leastStop_20 : decode cX0_leastStop 20 = .ok (.aload_n 0, 1) := by decide +kernel
theorem dX0_leastStop_21 : decode cX0_leastStop 21 = .ok (.getfield 32, 3) := by decide +kernel
theorem dX0_leastStop_24 : decode cX0_leastStop 24 = .ok (.iload_n 3, 1) := by decide +kernel
theorem dX0_leastStop_25 : decode cX0_leastStop 25 = .ok (.invokevirtual 75, 3) := by decide +kernel
theorem dX0_leastStop_28 : decode cX0_leastStop 28 = .ok (.aload_n 0, 1) := by decide +kernel
theorem dX0_leastStop_29 : decode cX0_leastStop 29 = .ok (.getfield 32, 3) := by decide +kernel
theorem dX0_leastStop_32 : decode cX0_leastStop 32 = .ok (.iload_n 2, 1) := by decide +kernel
theorem dX0_leastStop_33 : decode cX0_leastStop 33 = .ok (.invokevirtual 75, 3) := by decide +kernel
theorem dX0_leastStop_36 : decode cX0_leastStop 36 = .ok (.if_icmp .ge 7, 3) := by decide +kernel
theorem dX0_leastStop_39 : decode cX0_leastStop 39 = .ok (.iconst 1, 1) := by decide +kernel
theorem dX0_leastStop_40 : decode cX0_leastStop 40 = .ok (.goto 4, 3) := by decide +kernel
theorem dX0_leastStop_43 : decode cX0_leastStop 43 = .ok (.iconst 0, 1) := by decide +kernel
theorem dX0_leastStop_44 : decode cX0_leastStop 44 = .ok (.istore 4, 2) := by decide +kernel
theorem dX0_leastStop_46 : decode cX0_leastStop 46 = .ok (.iload 4, 2) := by decide +kernel
theorem dX0_leastStop_48 : decode cX0_leastStop 48 = .ok (.ifCond .eq 26, 3) := by decide +kernel
theorem dX0_leastStop_51 : decode cX0_leastStop 51 = .ok (.aload_n 0, 1) := by decide +kernel
theorem dX0_leastStop_52 : decode cX0_leastStop 52 = .ok (.getfield 36, 3) := by decide +kernel
theorem dX0_leastStop_55 : decode cX0_leastStop 55 = .ok (.iload_n 3, 1) := by decide +kernel
theorem dX0_leastStop_56 : decode cX0_leastStop 56 = .ok (.aload_n 1, 1) := by decide +kernel
theorem dX0_leastStop_57 : decode cX0_leastStop 57 = .ok (.invokevirtual 64, 3) := by decide +kernel
theorem dX0_leastStop_60 : decode cX0_leastStop 60 = .ok (.ifCond .eq 14, 3) := by decide +kernel
theorem dX0_leastStop_63 : decode cX0_leastStop 63 = .ok (.aload_n 0, 1) := by decide +kernel
theorem dX0_leastStop_64 : decode cX0_leastStop 64 = .ok (.aload_n 1, 1) := by decide +kernel
theorem dX0_leastStop_65 : decode cX0_leastStop 65 = .ok (.iload_n 3, 1) := by decide +kernel
theorem dX0_leastStop_66 : decode cX0_leastStop 66 = .ok (.invokevirtual 79, 3) := by decide +kernel
theorem dX0_leastStop_69 : decode cX0_leastStop 69 = .ok (.ifCond .eq 5, 3) := by decide +kernel
theorem dX0_leastStop_72 : decode cX0_leastStop 72 = .ok (.iload_n 3, 1) := by decide +kernel
theorem dX0_leastStop_73 : decode cX0_leastStop 73 = .ok (.istore_n 2, 1) := by decide +kernel
theorem dX0_leastStop_74 : decode cX0_leastStop 74 = .ok (.iinc 3 1, 3) := by decide +kernel
theorem dX0_leastStop_77 : decode cX0_leastStop 77 = .ok (.goto (-73), 3) := by decide +kernel
theorem dX0_leastStop_80 : decode cX0_leastStop 80 = .ok (.iload_n 2, 1) := by decide +kernel
theorem dX0_leastStop_81 : decode cX0_leastStop 81 = .ok (.ireturn, 1) := by decide +kernel
theorem dX0_hasThird_0 : decode cX0_hasThird 0 = .ok (.aload_n 0, 1) := by decide +kernel
theorem dX0_hasThird_1 : decode cX0_hasThird 1 = .ok (.aload_n 1, 1) := by decide +kernel
theorem dX0_hasThird_2 : decode cX0_hasThird 2 = .ok (.iconst (-1), 1) := by decide +kernel
theorem dX0_hasThird_3 : decode cX0_hasThird 3 = .ok (.invokevirtual 48, 3) := by decide +kernel
theorem dX0_hasThird_6 : decode cX0_hasThird 6 = .ok (.aload_n 0, 1) := by decide +kernel
theorem dX0_hasThird_7 : decode cX0_hasThird 7 = .ok (.getfield 9, 3) := by decide +kernel
theorem dX0_hasThird_10 : decode cX0_hasThird 10 = .ok (.istore 4, 2) := by decide +kernel
theorem dX0_hasThird_12 : decode cX0_hasThird 12 = .ok (.iconst 0, 1) := by decide +kernel
theorem dX0_hasThird_13 : decode cX0_hasThird 13 = .ok (.istore 5, 2) := by decide +kernel
theorem dX0_hasThird_15 : decode cX0_hasThird 15 = .ok (.iload 5, 2) := by decide +kernel
theorem dX0_hasThird_17 : decode cX0_hasThird 17 = .ok (.iload 4, 2) := by decide +kernel
theorem dX0_hasThird_19 : decode cX0_hasThird 19 = .ok (.if_icmp .ge 31, 3) := by decide +kernel
theorem dX0_hasThird_22 : decode cX0_hasThird 22 = .ok (.aload_n 0, 1) := by decide +kernel
theorem dX0_hasThird_23 : decode cX0_hasThird 23 = .ok (.getfield 19, 3) := by decide +kernel
theorem dX0_hasThird_26 : decode cX0_hasThird 26 = .ok (.iload 5, 2) := by decide +kernel
theorem dX0_hasThird_28 : decode cX0_hasThird 28 = .ok (.iaload, 1) := by decide +kernel
theorem dX0_hasThird_29 : decode cX0_hasThird 29 = .ok (.iload_n 2, 1) := by decide +kernel
theorem dX0_hasThird_30 : decode cX0_hasThird 30 = .ok (.if_icmp .ne 14, 3) := by decide +kernel
theorem dX0_hasThird_33 : decode cX0_hasThird 33 = .ok (.aload_n 0, 1) := by decide +kernel
theorem dX0_hasThird_34 : decode cX0_hasThird 34 = .ok (.getfield 25, 3) := by decide +kernel
theorem dX0_hasThird_37 : decode cX0_hasThird 37 = .ok (.iload 5, 2) := by decide +kernel
theorem dX0_hasThird_39 : decode cX0_hasThird 39 = .ok (.iconst 1, 1) := by decide +kernel
theorem dX0_hasThird_40 : decode cX0_hasThird 40 = .ok (.iload 4, 2) := by decide +kernel
theorem dX0_hasThird_42 : decode cX0_hasThird 42 = .ok (.ishl, 1) := by decide +kernel
theorem dX0_hasThird_43 : decode cX0_hasThird 43 = .ok (.iastore, 1) := by decide +kernel
theorem dX0_hasThird_44 : decode cX0_hasThird 44 = .ok (.iinc 5 1, 3) := by decide +kernel
theorem dX0_hasThird_47 : decode cX0_hasThird 47 = .ok (.goto (-32), 3) := by decide +kernel
theorem dX0_hasThird_50 : decode cX0_hasThird 50 = .ok (.aload_n 0, 1) := by decide +kernel
theorem dX0_hasThird_51 : decode cX0_hasThird 51 = .ok (.iload_n 2, 1) := by decide +kernel
theorem dX0_hasThird_52 : decode cX0_hasThird 52 = .ok (.iload_n 3, 1) := by decide +kernel
theorem dX0_hasThird_53 : decode cX0_hasThird 53 = .ok (.invokevirtual 83, 3) := by decide +kernel
theorem dX0_hasThird_56 : decode cX0_hasThird 56 = .ok (.aload_n 0, 1) := by decide +kernel
theorem dX0_hasThird_57 : decode cX0_hasThird 57 = .ok (.invokevirtual 52, 3) := by decide +kernel
theorem dX0_hasThird_60 : decode cX0_hasThird 60 = .ok (.ireturn, 1) := by decide +kernel
theorem dX0_hasStop_0 : decode cX0_hasStop 0 = .ok (.aload_n 0, 1) := by decide +kernel
theorem dX0_hasStop_1 : decode cX0_hasStop 1 = .ok (.aload_n 1, 1) := by decide +kernel
theorem dX0_hasStop_2 : decode cX0_hasStop 2 = .ok (.iload_n 2, 1) := by decide +kernel
theorem dX0_hasStop_3 : decode cX0_hasStop 3 = .ok (.invokevirtual 48, 3) := by decide +kernel
theorem dX0_hasStop_6 : decode cX0_hasStop 6 = .ok (.aload_n 0, 1) := by decide +kernel
theorem dX0_hasStop_7 : decode cX0_hasStop 7 = .ok (.getfield 45, 3) := by decide +kernel
theorem dX0_hasStop_10 : decode cX0_hasStop 10 = .ok (.iload_n 2, 1) := by decide +kernel
theorem dX0_hasStop_11 : decode cX0_hasStop 11 = .ok (.invokevirtual 87, 3) := by decide +kernel
theorem dX0_hasStop_14 : decode cX0_hasStop 14 = .ok (.aload_n 0, 1) := by decide +kernel
theorem dX0_hasStop_15 : decode cX0_hasStop 15 = .ok (.invokevirtual 52, 3) := by decide +kernel
theorem dX0_hasStop_18 : decode cX0_hasStop 18 = .ok (.ireturn, 1) := by decide +kernel
theorem dX0_gather_0 : decode cX0_gather 0 = .ok (.aload_n 0, 1) := by decide +kernel
theorem dX0_gather_1 : decode cX0_gather 1 = .ok (.getfield 45, 3) := by decide +kernel
theorem dX0_gather_4 : decode cX0_gather 4 = .ok (.aload_n 0, 1) := by decide +kernel
theorem dX0_gather_5 : decode cX0_gather 5 = .ok (.getfield 36, 3) := by decide +kernel
theorem dX0_gather_8 : decode cX0_gather 8 = .ok (.invokevirtual 91, 3) := by decide +kernel
theorem dX0_gather_11 : decode cX0_gather 11 = .ok (.aload_n 0, 1) := by decide +kernel
theorem dX0_gather_12 : decode cX0_gather 12 = .ok (.iconst 0, 1) := by decide +kernel
theorem dX0_gather_13 : decode cX0_gather 13 = .ok (.putfield 9, 3) := by decide +kernel
theorem dX0_gather_16 : decode cX0_gather 16 = .ok (.iconst 0, 1) := by decide +kernel
theorem dX0_gather_17 : decode cX0_gather 17 = .ok (.istore_n 3, 1) := by decide +kernel
theorem dX0_gather_18 : decode cX0_gather 18 = .ok (.iload_n 3, 1) := by decide +kernel
theorem dX0_gather_19 : decode cX0_gather 19 = .ok (.aload_n 0, 1) := by decide +kernel
theorem dX0_gather_20 : decode cX0_gather 20 = .ok (.getfield 32, 3) := by decide +kernel
theorem dX0_gather_23 : decode cX0_gather 23 = .ok (.getfield 56, 3) := by decide +kernel
theorem dX0_gather_26 : decode cX0_gather 26 = .ok (.if_icmp .ge 34, 3) := by decide +kernel
theorem dX0_gather_29 : decode cX0_gather 29 = .ok (.iload_n 3, 1) := by decide +kernel
theorem dX0_gather_30 : decode cX0_gather 30 = .ok (.iload_n 2, 1) := by decide +kernel
theorem dX0_gather_31 : decode cX0_gather 31 = .ok (.if_icmp .eq 23, 3) := by decide +kernel
theorem dX0_gather_34 : decode cX0_gather 34 = .ok (.aload_n 0, 1) := by decide +kernel
theorem dX0_gather_35 : decode cX0_gather 35 = .ok (.getfield 36, 3) := by decide +kernel
theorem dX0_gather_38 : decode cX0_gather 38 = .ok (.iload_n 3, 1) := by decide +kernel
theorem dX0_gather_39 : decode cX0_gather 39 = .ok (.aload_n 1, 1) := by decide +kernel
theorem dX0_gather_40 : decode cX0_gather 40 = .ok (.invokevirtual 64, 3) := by decide +kernel
theorem dX0_gather_43 : decode cX0_gather 43 = .ok (.ifCond .eq 11, 3) := by decide +kernel
theorem dX0_gather_46 : decode cX0_gather 46 = .ok (.aload_n 0, 1) := by decide +kernel
theorem dX0_gather_47 : decode cX0_gather 47 = .ok (.iload_n 3, 1) := by decide +kernel
theorem dX0_gather_48 : decode cX0_gather 48 = .ok (.aload_n 1, 1) := by decide +kernel
theorem dX0_gather_49 : decode cX0_gather 49 = .ok (.iload_n 3, 1) := by decide +kernel
theorem dX0_gather_50 : decode cX0_gather 50 = .ok (.iaload, 1) := by decide +kernel
theorem dX0_gather_51 : decode cX0_gather 51 = .ok (.invokevirtual 83, 3) := by decide +kernel
theorem dX0_gather_54 : decode cX0_gather 54 = .ok (.iinc 3 1, 3) := by decide +kernel
theorem dX0_gather_57 : decode cX0_gather 57 = .ok (.goto (-39), 3) := by decide +kernel
theorem dX0_gather_60 : decode cX0_gather 60 = .ok (.return_, 1) := by decide +kernel
theorem dX0_addJob_0 : decode cX0_addJob 0 = .ok (.aload_n 0, 1) := by decide +kernel
theorem dX0_addJob_1 : decode cX0_addJob 1 = .ok (.getfield 19, 3) := by decide +kernel
theorem dX0_addJob_4 : decode cX0_addJob 4 = .ok (.aload_n 0, 1) := by decide +kernel
theorem dX0_addJob_5 : decode cX0_addJob 5 = .ok (.getfield 9, 3) := by decide +kernel
theorem dX0_addJob_8 : decode cX0_addJob 8 = .ok (.iload_n 1, 1) := by decide +kernel
theorem dX0_addJob_9 : decode cX0_addJob 9 = .ok (.iastore, 1) := by decide +kernel
theorem dX0_addJob_10 : decode cX0_addJob 10 = .ok (.aload_n 0, 1) := by decide +kernel
theorem dX0_addJob_11 : decode cX0_addJob 11 = .ok (.getfield 22, 3) := by decide +kernel
theorem dX0_addJob_14 : decode cX0_addJob 14 = .ok (.aload_n 0, 1) := by decide +kernel
theorem dX0_addJob_15 : decode cX0_addJob 15 = .ok (.getfield 9, 3) := by decide +kernel
theorem dX0_addJob_18 : decode cX0_addJob 18 = .ok (.iload_n 2, 1) := by decide +kernel
theorem dX0_addJob_19 : decode cX0_addJob 19 = .ok (.iastore, 1) := by decide +kernel
theorem dX0_addJob_20 : decode cX0_addJob 20 = .ok (.aload_n 0, 1) := by decide +kernel
theorem dX0_addJob_21 : decode cX0_addJob 21 = .ok (.getfield 25, 3) := by decide +kernel
theorem dX0_addJob_24 : decode cX0_addJob 24 = .ok (.aload_n 0, 1) := by decide +kernel
theorem dX0_addJob_25 : decode cX0_addJob 25 = .ok (.getfield 9, 3) := by decide +kernel
theorem dX0_addJob_28 : decode cX0_addJob 28 = .ok (.iconst 0, 1) := by decide +kernel
theorem dX0_addJob_29 : decode cX0_addJob 29 = .ok (.iastore, 1) := by decide +kernel
theorem dX0_addJob_30 : decode cX0_addJob 30 = .ok (.aload_n 0, 1) := by decide +kernel
theorem dX0_addJob_31 : decode cX0_addJob 31 = .ok (.dup, 1) := by decide +kernel
theorem dX0_addJob_32 : decode cX0_addJob 32 = .ok (.getfield 9, 3) := by decide +kernel
theorem dX0_addJob_35 : decode cX0_addJob 35 = .ok (.iconst 1, 1) := by decide +kernel
theorem dX0_addJob_36 : decode cX0_addJob 36 = .ok (.iadd, 1) := by decide +kernel
theorem dX0_addJob_37 : decode cX0_addJob 37 = .ok (.putfield 9, 3) := by decide +kernel
theorem dX0_addJob_40 : decode cX0_addJob 40 = .ok (.return_, 1) := by decide +kernel
theorem dX0_seekAnew_0 : decode cX0_seekAnew 0 = .ok (.iconst 0, 1) := by decide +kernel
theorem dX0_seekAnew_1 : decode cX0_seekAnew 1 = .ok (.istore_n 1, 1) := by decide +kernel
theorem dX0_seekAnew_2 : decode cX0_seekAnew 2 = .ok (.iload_n 1, 1) := by decide +kernel
theorem dX0_seekAnew_3 : decode cX0_seekAnew 3 = .ok (.iconst 1, 1) := by decide +kernel
theorem dX0_seekAnew_4 : decode cX0_seekAnew 4 = .ok (.aload_n 0, 1) := by decide +kernel
theorem dX0_seekAnew_5 : decode cX0_seekAnew 5 = .ok (.getfield 9, 3) := by decide +kernel
theorem dX0_seekAnew_8 : decode cX0_seekAnew 8 = .ok (.ishl, 1) := by decide +kernel
theorem dX0_seekAnew_9 : decode cX0_seekAnew 9 = .ok (.if_icmp .ge 16, 3) := by decide +kernel
theorem dX0_seekAnew_12 : decode cX0_seekAnew 12 = .ok (.aload_n 0, 1) := by decide +kernel
theorem dX0_seekAnew_13 : decode cX0_seekAnew 13 = .ok (.getfield 28, 3) := by decide +kernel
theorem dX0_seekAnew_16 : decode cX0_seekAnew 16 = .ok (.iload_n 1, 1) := by decide +kernel
theorem dX0_seekAnew_17 : decode cX0_seekAnew 17 = .ok (.iconst 0, 1) := by decide +kernel
theorem dX0_seekAnew_18 : decode cX0_seekAnew 18 = .ok (.bastore, 1) := by decide +kernel
theorem dX0_seekAnew_19 : decode cX0_seekAnew 19 = .ok (.iinc 1 1, 3) := by decide +kernel
theorem dX0_seekAnew_22 : decode cX0_seekAnew 22 = .ok (.goto (-20), 3) := by decide +kernel
theorem dX0_seekAnew_25 : decode cX0_seekAnew 25 = .ok (.aload_n 0, 1) := by decide +kernel
theorem dX0_seekAnew_26 : decode cX0_seekAnew 26 = .ok (.iconst 0, 1) := by decide +kernel
theorem dX0_seekAnew_27 : decode cX0_seekAnew 27 = .ok (.iconst 0, 1) := by decide +kernel
theorem dX0_seekAnew_28 : decode cX0_seekAnew 28 = .ok (.invokevirtual 95, 3) := by decide +kernel
theorem dX0_seekAnew_31 : decode cX0_seekAnew 31 = .ok (.ireturn, 1) := by decide +kernel
theorem dX0_seek_0 : decode cX0_seek 0 = .ok (.iload_n 2, 1) := by decide +kernel
theorem dX0_seek_1 : decode cX0_seek 1 = .ok (.aload_n 0, 1) := by decide +kernel
theorem dX0_seek_2 : decode cX0_seek 2 = .ok (.getfield 9, 3) := by decide +kernel
theorem dX0_seek_5 : decode cX0_seek 5 = .ok (.if_icmp .lt 5, 3) := by decide +kernel
theorem dX0_seek_8 : decode cX0_seek 8 = .ok (.iconst 1, 1) := by decide +kernel
theorem dX0_seek_9 : decode cX0_seek 9 = .ok (.ireturn, 1) := by decide +kernel
theorem dX0_seek_10 : decode cX0_seek 10 = .ok (.aload_n 0, 1) := by decide +kernel
theorem dX0_seek_11 : decode cX0_seek 11 = .ok (.getfield 28, 3) := by decide +kernel
theorem dX0_seek_14 : decode cX0_seek 14 = .ok (.iload_n 1, 1) := by decide +kernel
theorem dX0_seek_15 : decode cX0_seek 15 = .ok (.baload, 1) := by decide +kernel
theorem dX0_seek_16 : decode cX0_seek 16 = .ok (.ifCond .eq 5, 3) := by decide +kernel
theorem dX0_seek_19 : decode cX0_seek 19 = .ok (.iconst 0, 1) := by decide +kernel
theorem dX0_seek_20 : decode cX0_seek 20 = .ok (.ireturn, 1) := by decide +kernel
theorem dX0_seek_21 : decode cX0_seek 21 = .ok (.iconst 0, 1) := by decide +kernel
theorem dX0_seek_22 : decode cX0_seek 22 = .ok (.istore_n 3, 1) := by decide +kernel
theorem dX0_seek_23 : decode cX0_seek 23 = .ok (.iload_n 3, 1) := by decide +kernel
theorem dX0_seek_24 : decode cX0_seek 24 = .ok (.aload_n 0, 1) := by decide +kernel
theorem dX0_seek_25 : decode cX0_seek 25 = .ok (.getfield 9, 3) := by decide +kernel
theorem dX0_seek_28 : decode cX0_seek 28 = .ok (.if_icmp .ge 147, 3) := by decide +kernel
theorem dX0_seek_31 : decode cX0_seek 31 = .ok (.iload_n 1, 1) := by decide +kernel
theorem dX0_seek_32 : decode cX0_seek 32 = .ok (.iload_n 3, 1) := by decide +kernel
theorem dX0_seek_33 : decode cX0_seek 33 = .ok (.ishr, 1) := by decide +kernel
theorem dX0_seek_34 : decode cX0_seek 34 = .ok (.iconst 1, 1) := by decide +kernel
theorem dX0_seek_35 : decode cX0_seek 35 = .ok (.iand, 1) := by decide +kernel
theorem dX0_seek_36 : decode cX0_seek 36 = .ok (.ifCond .ne 20, 3) := by decide +kernel
theorem dX0_seek_39 : decode cX0_seek 39 = .ok (.aload_n 0, 1) := by decide +kernel
theorem dX0_seek_40 : decode cX0_seek 40 = .ok (.getfield 25, 3) := by decide +kernel
theorem dX0_seek_43 : decode cX0_seek 43 = .ok (.iload_n 3, 1) := by decide +kernel
theorem dX0_seek_44 : decode cX0_seek 44 = .ok (.iaload, 1) := by decide +kernel
theorem dX0_seek_45 : decode cX0_seek 45 = .ok (.iload_n 1, 1) := by decide +kernel
theorem dX0_seek_46 : decode cX0_seek 46 = .ok (.iconst (-1), 1) := by decide +kernel
theorem dX0_seek_47 : decode cX0_seek 47 = .ok (.ixor, 1) := by decide +kernel
theorem dX0_seek_48 : decode cX0_seek 48 = .ok (.iand, 1) := by decide +kernel
theorem dX0_seek_49 : decode cX0_seek 49 = .ok (.ifCond .ne 7, 3) := by decide +kernel
theorem dX0_seek_52 : decode cX0_seek 52 = .ok (.iconst 1, 1) := by decide +kernel
theorem dX0_seek_53 : decode cX0_seek 53 = .ok (.goto 4, 3) := by decide +kernel
theorem dX0_seek_56 : decode cX0_seek 56 = .ok (.iconst 0, 1) := by decide +kernel
theorem dX0_seek_57 : decode cX0_seek 57 = .ok (.istore 4, 2) := by decide +kernel
theorem dX0_seek_59 : decode cX0_seek 59 = .ok (.iload 4, 2) := by decide +kernel
theorem dX0_seek_61 : decode cX0_seek 61 = .ok (.ifCond .eq 108, 3) := by decide +kernel
theorem dX0_seek_64 : decode cX0_seek 64 = .ok (.aload_n 0, 1) := by decide +kernel
theorem dX0_seek_65 : decode cX0_seek 65 = .ok (.getfield 45, 3) := by decide +kernel
theorem dX0_seek_68 : decode cX0_seek 68 = .ok (.aload_n 0, 1) := by decide +kernel
theorem dX0_seek_69 : decode cX0_seek 69 = .ok (.getfield 19, 3) := by decide +kernel
theorem dX0_seek_72 : decode cX0_seek 72 = .ok (.iload_n 3, 1) := by decide +kernel
theorem dX0_seek_73 : decode cX0_seek 73 = .ok (.iaload, 1) := by decide +kernel
theorem dX0_seek_74 : decode cX0_seek 74 = .ok (.aload_n 0, 1) := by decide +kernel
theorem dX0_seek_75 : decode cX0_seek 75 = .ok (.getfield 22, 3) := by decide +kernel
theorem dX0_seek_78 : decode cX0_seek 78 = .ok (.iload_n 3, 1) := by decide +kernel
theorem dX0_seek_79 : decode cX0_seek 79 = .ok (.iaload, 1) := by decide +kernel
theorem dX0_seek_80 : decode cX0_seek 80 = .ok (.invokevirtual 99, 3) := by decide +kernel
theorem dX0_seek_83 : decode cX0_seek 83 = .ok (.ifCond .eq 86, 3) := by decide +kernel
theorem dX0_seek_86 : decode cX0_seek 86 = .ok (.aload_n 0, 1) := by decide +kernel
theorem dX0_seek_87 : decode cX0_seek 87 = .ok (.getfield 45, 3) := by decide +kernel
theorem dX0_seek_90 : decode cX0_seek 90 = .ok (.getfield 68, 3) := by decide +kernel
theorem dX0_seek_93 : decode cX0_seek 93 = .ok (.aload_n 0, 1) := by decide +kernel
theorem dX0_seek_94 : decode cX0_seek 94 = .ok (.getfield 19, 3) := by decide +kernel
theorem dX0_seek_97 : decode cX0_seek 97 = .ok (.iload_n 3, 1) := by decide +kernel
theorem dX0_seek_98 : decode cX0_seek 98 = .ok (.iaload, 1) := by decide +kernel
theorem dX0_seek_99 : decode cX0_seek 99 = .ok (.iaload, 1) := by decide +kernel
theorem dX0_seek_100 : decode cX0_seek 100 = .ok (.istore 5, 2) := by decide +kernel
theorem dX0_seek_102 : decode cX0_seek 102 = .ok (.aload_n 0, 1) := by decide +kernel
theorem dX0_seek_103 : decode cX0_seek 103 = .ok (.getfield 45, 3) := by decide +kernel
theorem dX0_seek_106 : decode cX0_seek 106 = .ok (.aload_n 0, 1) := by decide +kernel
theorem dX0_seek_107 : decode cX0_seek 107 = .ok (.getfield 19, 3) := by decide +kernel
theorem dX0_seek_110 : decode cX0_seek 110 = .ok (.iload_n 3, 1) := by decide +kernel
theorem dX0_seek_111 : decode cX0_seek 111 = .ok (.iaload, 1) := by decide +kernel
theorem dX0_seek_112 : decode cX0_seek 112 = .ok (.aload_n 0, 1) := by decide +kernel
theorem dX0_seek_113 : decode cX0_seek 113 = .ok (.getfield 22, 3) := by decide +kernel
theorem dX0_seek_116 : decode cX0_seek 116 = .ok (.iload_n 3, 1) := by decide +kernel
theorem dX0_seek_117 : decode cX0_seek 117 = .ok (.iaload, 1) := by decide +kernel
theorem dX0_seek_118 : decode cX0_seek 118 = .ok (.invokevirtual 102, 3) := by decide +kernel
theorem dX0_seek_121 : decode cX0_seek 121 = .ok (.aload_n 0, 1) := by decide +kernel
theorem dX0_seek_122 : decode cX0_seek 122 = .ok (.getfield 15, 3) := by decide +kernel
theorem dX0_seek_125 : decode cX0_seek 125 = .ok (.iload_n 2, 1) := by decide +kernel
theorem dX0_seek_126 : decode cX0_seek 126 = .ok (.aload_n 0, 1) := by decide +kernel
theorem dX0_seek_127 : decode cX0_seek 127 = .ok (.getfield 19, 3) := by decide +kernel
theorem dX0_seek_130 : decode cX0_seek 130 = .ok (.iload_n 3, 1) := by decide +kernel
theorem dX0_seek_131 : decode cX0_seek 131 = .ok (.iaload, 1) := by decide +kernel
theorem dX0_seek_132 : decode cX0_seek 132 = .ok (.iastore, 1) := by decide +kernel
theorem dX0_seek_133 : decode cX0_seek 133 = .ok (.aload_n 0, 1) := by decide +kernel
theorem dX0_seek_134 : decode cX0_seek 134 = .ok (.iload_n 1, 1) := by decide +kernel
theorem dX0_seek_135 : decode cX0_seek 135 = .ok (.iconst 1, 1) := by decide +kernel
theorem dX0_seek_136 : decode cX0_seek 136 = .ok (.iload_n 3, 1) := by decide +kernel
theorem dX0_seek_137 : decode cX0_seek 137 = .ok (.ishl, 1) := by decide +kernel
theorem dX0_seek_138 : decode cX0_seek 138 = .ok (.ior, 1) := by decide +kernel
theorem dX0_seek_139 : decode cX0_seek 139 = .ok (.iload_n 2, 1) := by decide +kernel
theorem dX0_seek_140 : decode cX0_seek 140 = .ok (.iconst 1, 1) := by decide +kernel
theorem dX0_seek_141 : decode cX0_seek 141 = .ok (.iadd, 1) := by decide +kernel
theorem dX0_seek_142 : decode cX0_seek 142 = .ok (.invokevirtual 95, 3) := by decide +kernel
theorem dX0_seek_145 : decode cX0_seek 145 = .ok (.istore 6, 2) := by decide +kernel
theorem dX0_seek_147 : decode cX0_seek 147 = .ok (.aload_n 0, 1) := by decide +kernel
theorem dX0_seek_148 : decode cX0_seek 148 = .ok (.getfield 45, 3) := by decide +kernel
theorem dX0_seek_151 : decode cX0_seek 151 = .ok (.aload_n 0, 1) := by decide +kernel
theorem dX0_seek_152 : decode cX0_seek 152 = .ok (.getfield 19, 3) := by decide +kernel
theorem dX0_seek_155 : decode cX0_seek 155 = .ok (.iload_n 3, 1) := by decide +kernel
theorem dX0_seek_156 : decode cX0_seek 156 = .ok (.iaload, 1) := by decide +kernel
theorem dX0_seek_157 : decode cX0_seek 157 = .ok (.iload 5, 2) := by decide +kernel
theorem dX0_seek_159 : decode cX0_seek 159 = .ok (.invokevirtual 102, 3) := by decide +kernel
theorem dX0_seek_162 : decode cX0_seek 162 = .ok (.iload 6, 2) := by decide +kernel
theorem dX0_seek_164 : decode cX0_seek 164 = .ok (.ifCond .eq 5, 3) := by decide +kernel
theorem dX0_seek_167 : decode cX0_seek 167 = .ok (.iconst 1, 1) := by decide +kernel
theorem dX0_seek_168 : decode cX0_seek 168 = .ok (.ireturn, 1) := by decide +kernel
theorem dX0_seek_169 : decode cX0_seek 169 = .ok (.iinc 3 1, 3) := by decide +kernel
theorem dX0_seek_172 : decode cX0_seek 172 = .ok (.goto (-149), 3) := by decide +kernel
theorem dX0_seek_175 : decode cX0_seek 175 = .ok (.aload_n 0, 1) := by decide +kernel
theorem dX0_seek_176 : decode cX0_seek 176 = .ok (.getfield 28, 3) := by decide +kernel
theorem dX0_seek_179 : decode cX0_seek 179 = .ok (.iload_n 1, 1) := by decide +kernel
theorem dX0_seek_180 : decode cX0_seek 180 = .ok (.iconst 1, 1) := by decide +kernel
theorem dX0_seek_181 : decode cX0_seek 181 = .ok (.bastore, 1) := by decide +kernel
theorem dX0_seek_182 : decode cX0_seek 182 = .ok (.iconst 0, 1) := by decide +kernel
theorem dX0_seek_183 : decode cX0_seek 183 = .ok (.ireturn, 1) := by decide +kernel
theorem dX1_init_0 : decode cX1_init 0 = .ok (.aload_n 0, 1) := by decide +kernel
theorem dX1_init_1 : decode cX1_init 1 = .ok (.invokespecial 3, 3) := by decide +kernel
theorem dX1_init_4 : decode cX1_init 4 = .ok (.aload_n 0, 1) := by decide +kernel
theorem dX1_init_5 : decode cX1_init 5 = .ok (.bipush 8, 2) := by decide +kernel
theorem dX1_init_7 : decode cX1_init 7 = .ok (.newarray .int, 2) := by decide +kernel
theorem dX1_init_9 : decode cX1_init 9 = .ok (.putfield 9, 3) := by decide +kernel
theorem dX1_init_12 : decode cX1_init 12 = .ok (.aload_n 0, 1) := by decide +kernel
theorem dX1_init_13 : decode cX1_init 13 = .ok (.iconst 5, 1) := by decide +kernel
theorem dX1_init_14 : decode cX1_init 14 = .ok (.newarray .int, 2) := by decide +kernel
theorem dX1_init_16 : decode cX1_init 16 = .ok (.putfield 15, 3) := by decide +kernel
theorem dX1_init_19 : decode cX1_init 19 = .ok (.aload_n 0, 1) := by decide +kernel
theorem dX1_init_20 : decode cX1_init 20 = .ok (.iconst 5, 1) := by decide +kernel
theorem dX1_init_21 : decode cX1_init 21 = .ok (.newarray .int, 2) := by decide +kernel
theorem dX1_init_23 : decode cX1_init 23 = .ok (.putfield 18, 3) := by decide +kernel
theorem dX1_init_26 : decode cX1_init 26 = .ok (.aload_n 0, 1) := by decide +kernel
theorem dX1_init_27 : decode cX1_init 27 = .ok (.iconst 5, 1) := by decide +kernel
theorem dX1_init_28 : decode cX1_init 28 = .ok (.newarray .int, 2) := by decide +kernel
theorem dX1_init_30 : decode cX1_init 30 = .ok (.putfield 21, 3) := by decide +kernel
theorem dX1_init_33 : decode cX1_init 33 = .ok (.aload_n 0, 1) := by decide +kernel
theorem dX1_init_34 : decode cX1_init 34 = .ok (.iconst 5, 1) := by decide +kernel
theorem dX1_init_35 : decode cX1_init 35 = .ok (.newarray .int, 2) := by decide +kernel
theorem dX1_init_37 : decode cX1_init 37 = .ok (.putfield 24, 3) := by decide +kernel
theorem dX1_init_40 : decode cX1_init 40 = .ok (.aload_n 0, 1) := by decide +kernel
theorem dX1_init_41 : decode cX1_init 41 = .ok (.iconst 0, 1) := by decide +kernel
theorem dX1_init_42 : decode cX1_init 42 = .ok (.putfield 27, 3) := by decide +kernel
theorem dX1_init_45 : decode cX1_init 45 = .ok (.aload_n 0, 1) := by decide +kernel
theorem dX1_init_46 : decode cX1_init 46 = .ok (.aload_n 1, 1) := by decide +kernel
theorem dX1_init_47 : decode cX1_init 47 = .ok (.putfield 31, 3) := by decide +kernel
theorem dX1_init_50 : decode cX1_init 50 = .ok (.return_, 1) := by decide +kernel
theorem dX1_clear_0 : decode cX1_clear 0 = .ok (.iconst 0, 1) := by decide +kernel
theorem dX1_clear_1 : decode cX1_clear 1 = .ok (.istore_n 1, 1) := by decide +kernel
theorem dX1_clear_2 : decode cX1_clear 2 = .ok (.iload_n 1, 1) := by decide +kernel
theorem dX1_clear_3 : decode cX1_clear 3 = .ok (.bipush 8, 2) := by decide +kernel
theorem dX1_clear_5 : decode cX1_clear 5 = .ok (.if_icmp .ge 16, 3) := by decide +kernel
theorem dX1_clear_8 : decode cX1_clear 8 = .ok (.aload_n 0, 1) := by decide +kernel
theorem dX1_clear_9 : decode cX1_clear 9 = .ok (.getfield 9, 3) := by decide +kernel
theorem dX1_clear_12 : decode cX1_clear 12 = .ok (.iload_n 1, 1) := by decide +kernel
theorem dX1_clear_13 : decode cX1_clear 13 = .ok (.iconst (-1), 1) := by decide +kernel
theorem dX1_clear_14 : decode cX1_clear 14 = .ok (.iastore, 1) := by decide +kernel
theorem dX1_clear_15 : decode cX1_clear 15 = .ok (.iinc 1 1, 3) := by decide +kernel
theorem dX1_clear_18 : decode cX1_clear 18 = .ok (.goto (-16), 3) := by decide +kernel
theorem dX1_clear_21 : decode cX1_clear 21 = .ok (.iconst 0, 1) := by decide +kernel
theorem dX1_clear_22 : decode cX1_clear 22 = .ok (.istore_n 1, 1) := by decide +kernel
theorem dX1_clear_23 : decode cX1_clear 23 = .ok (.iload_n 1, 1) := by decide +kernel
theorem dX1_clear_24 : decode cX1_clear 24 = .ok (.iconst 5, 1) := by decide +kernel
theorem dX1_clear_25 : decode cX1_clear 25 = .ok (.if_icmp .ge 37, 3) := by decide +kernel
theorem dX1_clear_28 : decode cX1_clear 28 = .ok (.aload_n 0, 1) := by decide +kernel
theorem dX1_clear_29 : decode cX1_clear 29 = .ok (.getfield 15, 3) := by decide +kernel
theorem dX1_clear_32 : decode cX1_clear 32 = .ok (.iload_n 1, 1) := by decide +kernel
theorem dX1_clear_33 : decode cX1_clear 33 = .ok (.iconst 0, 1) := by decide +kernel
theorem dX1_clear_34 : decode cX1_clear 34 = .ok (.iastore, 1) := by decide +kernel
theorem dX1_clear_35 : decode cX1_clear 35 = .ok (.aload_n 0, 1) := by decide +kernel
theorem dX1_clear_36 : decode cX1_clear 36 = .ok (.getfield 18, 3) := by decide +kernel
theorem dX1_clear_39 : decode cX1_clear 39 = .ok (.iload_n 1, 1) := by decide +kernel
theorem dX1_clear_40 : decode cX1_clear 40 = .ok (.iconst 0, 1) := by decide +kernel
theorem dX1_clear_41 : decode cX1_clear 41 = .ok (.iastore, 1) := by decide +kernel
theorem dX1_clear_42 : decode cX1_clear 42 = .ok (.aload_n 0, 1) := by decide +kernel
theorem dX1_clear_43 : decode cX1_clear 43 = .ok (.getfield 21, 3) := by decide +kernel
theorem dX1_clear_46 : decode cX1_clear 46 = .ok (.iload_n 1, 1) := by decide +kernel
theorem dX1_clear_47 : decode cX1_clear 47 = .ok (.iconst 0, 1) := by decide +kernel
theorem dX1_clear_48 : decode cX1_clear 48 = .ok (.iastore, 1) := by decide +kernel
theorem dX1_clear_49 : decode cX1_clear 49 = .ok (.aload_n 0, 1) := by decide +kernel
theorem dX1_clear_50 : decode cX1_clear 50 = .ok (.getfield 24, 3) := by decide +kernel
theorem dX1_clear_53 : decode cX1_clear 53 = .ok (.iload_n 1, 1) := by decide +kernel
theorem dX1_clear_54 : decode cX1_clear 54 = .ok (.iconst 0, 1) := by decide +kernel
theorem dX1_clear_55 : decode cX1_clear 55 = .ok (.iastore, 1) := by decide +kernel
theorem dX1_clear_56 : decode cX1_clear 56 = .ok (.iinc 1 1, 3) := by decide +kernel
theorem dX1_clear_59 : decode cX1_clear 59 = .ok (.goto (-36), 3) := by decide +kernel
theorem dX1_clear_62 : decode cX1_clear 62 = .ok (.aload_n 0, 1) := by decide +kernel
theorem dX1_clear_63 : decode cX1_clear 63 = .ok (.iconst 0, 1) := by decide +kernel
theorem dX1_clear_64 : decode cX1_clear 64 = .ok (.putfield 27, 3) := by decide +kernel
theorem dX1_clear_67 : decode cX1_clear 67 = .ok (.return_, 1) := by decide +kernel
theorem dX1_copy_0 : decode cX1_copy 0 = .ok (.aload_n 1, 1) := by decide +kernel
theorem dX1_copy_1 : decode cX1_copy 1 = .ok (.getfield 9, 3) := by decide +kernel
theorem dX1_copy_4 : decode cX1_copy 4 = .ok (.iconst 0, 1) := by decide +kernel
theorem dX1_copy_5 : decode cX1_copy 5 = .ok (.aload_n 0, 1) := by decide +kernel
theorem dX1_copy_6 : decode cX1_copy 6 = .ok (.getfield 9, 3) := by decide +kernel
theorem dX1_copy_9 : decode cX1_copy 9 = .ok (.iconst 0, 1) := by decide +kernel
theorem dX1_copy_10 : decode cX1_copy 10 = .ok (.bipush 8, 2) := by decide +kernel
theorem dX1_copy_12 : decode cX1_copy 12 = .ok (.invokestatic 35, 3) := by decide +kernel
theorem dX1_copy_15 : decode cX1_copy 15 = .ok (.aload_n 1, 1) := by decide +kernel
theorem dX1_copy_16 : decode cX1_copy 16 = .ok (.getfield 15, 3) := by decide +kernel
theorem dX1_copy_19 : decode cX1_copy 19 = .ok (.iconst 0, 1) := by decide +kernel
theorem dX1_copy_20 : decode cX1_copy 20 = .ok (.aload_n 0, 1) := by decide +kernel
theorem dX1_copy_21 : decode cX1_copy 21 = .ok (.getfield 15, 3) := by decide +kernel
theorem dX1_copy_24 : decode cX1_copy 24 = .ok (.iconst 0, 1) := by decide +kernel
theorem dX1_copy_25 : decode cX1_copy 25 = .ok (.iconst 5, 1) := by decide +kernel
theorem dX1_copy_26 : decode cX1_copy 26 = .ok (.invokestatic 35, 3) := by decide +kernel
theorem dX1_copy_29 : decode cX1_copy 29 = .ok (.aload_n 1, 1) := by decide +kernel
theorem dX1_copy_30 : decode cX1_copy 30 = .ok (.getfield 18, 3) := by decide +kernel
theorem dX1_copy_33 : decode cX1_copy 33 = .ok (.iconst 0, 1) := by decide +kernel
theorem dX1_copy_34 : decode cX1_copy 34 = .ok (.aload_n 0, 1) := by decide +kernel
theorem dX1_copy_35 : decode cX1_copy 35 = .ok (.getfield 18, 3) := by decide +kernel
theorem dX1_copy_38 : decode cX1_copy 38 = .ok (.iconst 0, 1) := by decide +kernel
theorem dX1_copy_39 : decode cX1_copy 39 = .ok (.iconst 5, 1) := by decide +kernel
theorem dX1_copy_40 : decode cX1_copy 40 = .ok (.invokestatic 35, 3) := by decide +kernel
theorem dX1_copy_43 : decode cX1_copy 43 = .ok (.aload_n 1, 1) := by decide +kernel
theorem dX1_copy_44 : decode cX1_copy 44 = .ok (.getfield 21, 3) := by decide +kernel
theorem dX1_copy_47 : decode cX1_copy 47 = .ok (.iconst 0, 1) := by decide +kernel
theorem dX1_copy_48 : decode cX1_copy 48 = .ok (.aload_n 0, 1) := by decide +kernel
theorem dX1_copy_49 : decode cX1_copy 49 = .ok (.getfield 21, 3) := by decide +kernel
theorem dX1_copy_52 : decode cX1_copy 52 = .ok (.iconst 0, 1) := by decide +kernel
theorem dX1_copy_53 : decode cX1_copy 53 = .ok (.iconst 5, 1) := by decide +kernel
theorem dX1_copy_54 : decode cX1_copy 54 = .ok (.invokestatic 35, 3) := by decide +kernel
theorem dX1_copy_57 : decode cX1_copy 57 = .ok (.aload_n 1, 1) := by decide +kernel
theorem dX1_copy_58 : decode cX1_copy 58 = .ok (.getfield 24, 3) := by decide +kernel
theorem dX1_copy_61 : decode cX1_copy 61 = .ok (.iconst 0, 1) := by decide +kernel
theorem dX1_copy_62 : decode cX1_copy 62 = .ok (.aload_n 0, 1) := by decide +kernel
theorem dX1_copy_63 : decode cX1_copy 63 = .ok (.getfield 24, 3) := by decide +kernel
theorem dX1_copy_66 : decode cX1_copy 66 = .ok (.iconst 0, 1) := by decide +kernel
theorem dX1_copy_67 : decode cX1_copy 67 = .ok (.iconst 5, 1) := by decide +kernel
theorem dX1_copy_68 : decode cX1_copy 68 = .ok (.invokestatic 35, 3) := by decide +kernel
theorem dX1_copy_71 : decode cX1_copy 71 = .ok (.aload_n 0, 1) := by decide +kernel
theorem dX1_copy_72 : decode cX1_copy 72 = .ok (.aload_n 1, 1) := by decide +kernel
theorem dX1_copy_73 : decode cX1_copy 73 = .ok (.getfield 27, 3) := by decide +kernel
theorem dX1_copy_76 : decode cX1_copy 76 = .ok (.putfield 27, 3) := by decide +kernel
theorem dX1_copy_79 : decode cX1_copy 79 = .ok (.return_, 1) := by decide +kernel
theorem dX1_freeA_0 : decode cX1_freeA 0 = .ok (.aload_n 0, 1) := by decide +kernel
theorem dX1_freeA_1 : decode cX1_freeA 1 = .ok (.getfield 31, 3) := by decide +kernel
theorem dX1_freeA_4 : decode cX1_freeA 4 = .ok (.getfield 41, 3) := by decide +kernel
theorem dX1_freeA_7 : decode cX1_freeA 7 = .ok (.iload_n 1, 1) := by decide +kernel
theorem dX1_freeA_8 : decode cX1_freeA 8 = .ok (.iaload, 1) := by decide +kernel
theorem dX1_freeA_9 : decode cX1_freeA 9 = .ok (.aload_n 0, 1) := by decide +kernel
theorem dX1_freeA_10 : decode cX1_freeA 10 = .ok (.getfield 15, 3) := by decide +kernel
theorem dX1_freeA_13 : decode cX1_freeA 13 = .ok (.iload_n 1, 1) := by decide +kernel
theorem dX1_freeA_14 : decode cX1_freeA 14 = .ok (.iaload, 1) := by decide +kernel
theorem dX1_freeA_15 : decode cX1_freeA 15 = .ok (.isub, 1) := by decide +kernel
theorem dX1_freeA_16 : decode cX1_freeA 16 = .ok (.ireturn, 1) := by decide +kernel
theorem dX1_freeB_0 : decode cX1_freeB 0 = .ok (.aload_n 0, 1) := by decide +kernel
theorem dX1_freeB_1 : decode cX1_freeB 1 = .ok (.getfield 31, 3) := by decide +kernel
theorem dX1_freeB_4 : decode cX1_freeB 4 = .ok (.getfield 46, 3) := by decide +kernel
theorem dX1_freeB_7 : decode cX1_freeB 7 = .ok (.iload_n 1, 1) := by decide +kernel
theorem dX1_freeB_8 : decode cX1_freeB 8 = .ok (.iaload, 1) := by decide +kernel
theorem dX1_freeB_9 : decode cX1_freeB 9 = .ok (.aload_n 0, 1) := by decide +kernel
theorem dX1_freeB_10 : decode cX1_freeB 10 = .ok (.getfield 18, 3) := by decide +kernel
theorem dX1_freeB_13 : decode cX1_freeB 13 = .ok (.iload_n 1, 1) := by decide +kernel
theorem dX1_freeB_14 : decode cX1_freeB 14 = .ok (.iaload, 1) := by decide +kernel
theorem dX1_freeB_15 : decode cX1_freeB 15 = .ok (.isub, 1) := by decide +kernel
theorem dX1_freeB_16 : decode cX1_freeB 16 = .ok (.ireturn, 1) := by decide +kernel
theorem dX1_takes_0 : decode cX1_takes 0 = .ok (.aload_n 0, 1) := by decide +kernel
theorem dX1_takes_1 : decode cX1_takes 1 = .ok (.getfield 31, 3) := by decide +kernel
theorem dX1_takes_4 : decode cX1_takes 4 = .ok (.getfield 49, 3) := by decide +kernel
theorem dX1_takes_7 : decode cX1_takes 7 = .ok (.iload_n 1, 1) := by decide +kernel
theorem dX1_takes_8 : decode cX1_takes 8 = .ok (.iaload, 1) := by decide +kernel
theorem dX1_takes_9 : decode cX1_takes 9 = .ok (.istore_n 3, 1) := by decide +kernel
theorem dX1_takes_10 : decode cX1_takes 10 = .ok (.aload_n 0, 1) := by decide +kernel
theorem dX1_takes_11 : decode cX1_takes 11 = .ok (.getfield 31, 3) := by decide +kernel
theorem dX1_takes_14 : decode cX1_takes 14 = .ok (.getfield 52, 3) := by decide +kernel
theorem dX1_takes_17 : decode cX1_takes 17 = .ok (.iload_n 1, 1) := by decide +kernel
theorem dX1_takes_18 : decode cX1_takes 18 = .ok (.iaload, 1) := by decide +kernel
theorem dX1_takes_19 : decode cX1_takes 19 = .ok (.aload_n 0, 1) := by decide +kernel
theorem dX1_takes_20 : decode cX1_takes 20 = .ok (.iload_n 2, 1) := by decide +kernel
theorem dX1_takes_21 : decode cX1_takes 21 = .ok (.invokevirtual 55, 3) := by decide +kernel
theorem dX1_takes_24 : decode cX1_takes 24 = .ok (.if_icmp .gt 58, 3) := by decide +kernel
theorem dX1_takes_27 : decode cX1_takes 27 = .ok (.aload_n 0, 1) := by decide +kernel
theorem dX1_takes_28 : decode cX1_takes 28 = .ok (.getfield 31, 3) := by decide +kernel
theorem dX1_takes_31 : decode cX1_takes 31 = .ok (.getfield 59, 3) := by decide +kernel
theorem dX1_takes_34 : decode cX1_takes 34 = .ok (.iload_n 1, 1) := by decide +kernel
theorem dX1_takes_35 : decode cX1_takes 35 = .ok (.iaload, 1) := by decide +kernel
theorem dX1_takes_36 : decode cX1_takes 36 = .ok (.aload_n 0, 1) := by decide +kernel
theorem dX1_takes_37 : decode cX1_takes 37 = .ok (.iload_n 2, 1) := by decide +kernel
theorem dX1_takes_38 : decode cX1_takes 38 = .ok (.invokevirtual 62, 3) := by decide +kernel
theorem dX1_takes_41 : decode cX1_takes 41 = .ok (.if_icmp .gt 41, 3) := by decide +kernel
theorem dX1_takes_44 : decode cX1_takes 44 = .ok (.aload_n 0, 1) := by decide +kernel
theorem dX1_takes_45 : decode cX1_takes 45 = .ok (.getfield 24, 3) := by decide +kernel
theorem dX1_takes_48 : decode cX1_takes 48 = .ok (.iload_n 2, 1) := by decide +kernel
theorem dX1_takes_49 : decode cX1_takes 49 = .ok (.iaload, 1) := by decide +kernel
theorem dX1_takes_50 : decode cX1_takes 50 = .ok (.aload_n 0, 1) := by decide +kernel
theorem dX1_takes_51 : decode cX1_takes 51 = .ok (.getfield 31, 3) := by decide +kernel
theorem dX1_takes_54 : decode cX1_takes 54 = .ok (.getfield 65, 3) := by decide +kernel
theorem dX1_takes_57 : decode cX1_takes 57 = .ok (.iload_n 1, 1) := by decide +kernel
theorem dX1_takes_58 : decode cX1_takes 58 = .ok (.iaload, 1) := by decide +kernel
theorem dX1_takes_59 : decode cX1_takes 59 = .ok (.iand, 1) := by decide +kernel
theorem dX1_takes_60 : decode cX1_takes 60 = .ok (.ifCond .ne 22, 3) := by decide +kernel
theorem dX1_takes_63 : decode cX1_takes 63 = .ok (.iload_n 3, 1) := by decide +kernel
theorem dX1_takes_64 : decode cX1_takes 64 = .ok (.iload_n 1, 1) := by decide +kernel
theorem dX1_takes_65 : decode cX1_takes 65 = .ok (.if_icmp .eq 13, 3) := by decide +kernel
theorem dX1_takes_68 : decode cX1_takes 68 = .ok (.aload_n 0, 1) := by decide +kernel
theorem dX1_takes_69 : decode cX1_takes 69 = .ok (.getfield 9, 3) := by decide +kernel
theorem dX1_takes_72 : decode cX1_takes 72 = .ok (.iload_n 3, 1) := by decide +kernel
theorem dX1_takes_73 : decode cX1_takes 73 = .ok (.iaload, 1) := by decide +kernel
theorem dX1_takes_74 : decode cX1_takes 74 = .ok (.iload_n 2, 1) := by decide +kernel
theorem dX1_takes_75 : decode cX1_takes 75 = .ok (.if_icmp .ne 7, 3) := by decide +kernel
theorem dX1_takes_78 : decode cX1_takes 78 = .ok (.iconst 1, 1) := by decide +kernel
theorem dX1_takes_79 : decode cX1_takes 79 = .ok (.goto 4, 3) := by decide +kernel
theorem dX1_takes_82 : decode cX1_takes 82 = .ok (.iconst 0, 1) := by decide +kernel
theorem dX1_takes_83 : decode cX1_takes 83 = .ok (.ireturn, 1) := by decide +kernel
theorem dX1_takesBlock_0 : decode cX1_takesBlock 0 = .ok (.aload_n 0, 1) := by decide +kernel
theorem dX1_takesBlock_1 : decode cX1_takesBlock 1 = .ok (.getfield 31, 3) := by decide +kernel
theorem dX1_takesBlock_4 : decode cX1_takesBlock 4 = .ok (.getfield 68, 3) := by decide +kernel
theorem dX1_takesBlock_7 : decode cX1_takesBlock 7 = .ok (.iload_n 1, 1) := by decide +kernel
theorem dX1_takesBlock_8 : decode cX1_takesBlock 8 = .ok (.iaload, 1) := by decide +kernel
theorem dX1_takesBlock_9 : decode cX1_takesBlock 9 = .ok (.aload_n 0, 1) := by decide +kernel
theorem dX1_takesBlock_10 : decode cX1_takesBlock 10 = .ok (.iload_n 2, 1) := by decide +kernel
theorem dX1_takesBlock_11 : decode cX1_takesBlock 11 = .ok (.invokevirtual 55, 3) := by decide +kernel
theorem dX1_takesBlock_14 : decode cX1_takesBlock 14 = .ok (.if_icmp .gt 43, 3) := by decide +kernel
theorem dX1_takesBlock_17 : decode cX1_takesBlock 17 = .ok (.aload_n 0, 1) := by decide +kernel
theorem dX1_takesBlock_18 : decode cX1_takesBlock 18 = .ok (.getfield 31, 3) := by decide +kernel
theorem dX1_takesBlock_21 : decode cX1_takesBlock 21 = .ok (.getfield 71, 3) := by decide +kernel
theorem dX1_takesBlock_24 : decode cX1_takesBlock 24 = .ok (.iload_n 1, 1) := by decide +kernel
theorem dX1_takesBlock_25 : decode cX1_takesBlock 25 = .ok (.iaload, 1) := by decide +kernel
theorem dX1_takesBlock_26 : decode cX1_takesBlock 26 = .ok (.aload_n 0, 1) := by decide +kernel
theorem dX1_takesBlock_27 : decode cX1_takesBlock 27 = .ok (.iload_n 2, 1) := by decide +kernel
theorem dX1_takesBlock_28 : decode cX1_takesBlock 28 = .ok (.invokevirtual 62, 3) := by decide +kernel
theorem dX1_takesBlock_31 : decode cX1_takesBlock 31 = .ok (.if_icmp .gt 26, 3) := by decide +kernel
theorem dX1_takesBlock_34 : decode cX1_takesBlock 34 = .ok (.aload_n 0, 1) := by decide +kernel
theorem dX1_takesBlock_35 : decode cX1_takesBlock 35 = .ok (.getfield 24, 3) := by decide +kernel
theorem dX1_takesBlock_38 : decode cX1_takesBlock 38 = .ok (.iload_n 2, 1) := by decide +kernel
theorem dX1_takesBlock_39 : decode cX1_takesBlock 39 = .ok (.iaload, 1) := by decide +kernel
theorem dX1_takesBlock_40 : decode cX1_takesBlock 40 = .ok (.aload_n 0, 1) := by decide +kernel
theorem dX1_takesBlock_41 : decode cX1_takesBlock 41 = .ok (.getfield 31, 3) := by decide +kernel
theorem dX1_takesBlock_44 : decode cX1_takesBlock 44 = .ok (.getfield 65, 3) := by decide +kernel
theorem dX1_takesBlock_47 : decode cX1_takesBlock 47 = .ok (.iload_n 1, 1) := by decide +kernel
theorem dX1_takesBlock_48 : decode cX1_takesBlock 48 = .ok (.iaload, 1) := by decide +kernel
theorem dX1_takesBlock_49 : decode cX1_takesBlock 49 = .ok (.iand, 1) := by decide +kernel
theorem dX1_takesBlock_50 : decode cX1_takesBlock 50 = .ok (.ifCond .ne 7, 3) := by decide +kernel
theorem dX1_takesBlock_53 : decode cX1_takesBlock 53 = .ok (.iconst 1, 1) := by decide +kernel
theorem dX1_takesBlock_54 : decode cX1_takesBlock 54 = .ok (.goto 4, 3) := by decide +kernel
theorem dX1_takesBlock_57 : decode cX1_takesBlock 57 = .ok (.iconst 0, 1) := by decide +kernel
theorem dX1_takesBlock_58 : decode cX1_takesBlock 58 = .ok (.ireturn, 1) := by decide +kernel
theorem dX1_put_0 : decode cX1_put 0 = .ok (.aload_n 0, 1) := by decide +kernel
theorem dX1_put_1 : decode cX1_put 1 = .ok (.getfield 9, 3) := by decide +kernel
theorem dX1_put_4 : decode cX1_put 4 = .ok (.iload_n 1, 1) := by decide +kernel
theorem dX1_put_5 : decode cX1_put 5 = .ok (.iload_n 2, 1) := by decide +kernel
theorem dX1_put_6 : decode cX1_put 6 = .ok (.iastore, 1) := by decide +kernel
theorem dX1_put_7 : decode cX1_put 7 = .ok (.aload_n 0, 1) := by decide +kernel
theorem dX1_put_8 : decode cX1_put 8 = .ok (.getfield 15, 3) := by decide +kernel
theorem dX1_put_11 : decode cX1_put 11 = .ok (.iload_n 2, 1) := by decide +kernel
theorem dX1_put_12 : decode cX1_put 12 = .ok (.dup2, 1) := by decide +kernel
theorem dX1_put_13 : decode cX1_put 13 = .ok (.iaload, 1) := by decide +kernel
theorem dX1_put_14 : decode cX1_put 14 = .ok (.aload_n 0, 1) := by decide +kernel
theorem dX1_put_15 : decode cX1_put 15 = .ok (.getfield 31, 3) := by decide +kernel
theorem dX1_put_18 : decode cX1_put 18 = .ok (.getfield 52, 3) := by decide +kernel
theorem dX1_put_21 : decode cX1_put 21 = .ok (.iload_n 1, 1) := by decide +kernel
theorem dX1_put_22 : decode cX1_put 22 = .ok (.iaload, 1) := by decide +kernel
theorem dX1_put_23 : decode cX1_put 23 = .ok (.iadd, 1) := by decide +kernel
theorem dX1_put_24 : decode cX1_put 24 = .ok (.iastore, 1) := by decide +kernel
theorem dX1_put_25 : decode cX1_put 25 = .ok (.aload_n 0, 1) := by decide +kernel
theorem dX1_put_26 : decode cX1_put 26 = .ok (.getfield 18, 3) := by decide +kernel
theorem dX1_put_29 : decode cX1_put 29 = .ok (.iload_n 2, 1) := by decide +kernel
theorem dX1_put_30 : decode cX1_put 30 = .ok (.dup2, 1) := by decide +kernel
theorem dX1_put_31 : decode cX1_put 31 = .ok (.iaload, 1) := by decide +kernel
theorem dX1_put_32 : decode cX1_put 32 = .ok (.aload_n 0, 1) := by decide +kernel
theorem dX1_put_33 : decode cX1_put 33 = .ok (.getfield 31, 3) := by decide +kernel
theorem dX1_put_36 : decode cX1_put 36 = .ok (.getfield 59, 3) := by decide +kernel
theorem dX1_put_39 : decode cX1_put 39 = .ok (.iload_n 1, 1) := by decide +kernel
theorem dX1_put_40 : decode cX1_put 40 = .ok (.iaload, 1) := by decide +kernel
theorem dX1_put_41 : decode cX1_put 41 = .ok (.iadd, 1) := by decide +kernel
theorem dX1_put_42 : decode cX1_put 42 = .ok (.iastore, 1) := by decide +kernel
theorem dX1_put_43 : decode cX1_put 43 = .ok (.aload_n 0, 1) := by decide +kernel
theorem dX1_put_44 : decode cX1_put 44 = .ok (.getfield 24, 3) := by decide +kernel
theorem dX1_put_47 : decode cX1_put 47 = .ok (.iload_n 2, 1) := by decide +kernel
theorem dX1_put_48 : decode cX1_put 48 = .ok (.dup2, 1) := by decide +kernel
theorem dX1_put_49 : decode cX1_put 49 = .ok (.iaload, 1) := by decide +kernel
theorem dX1_put_50 : decode cX1_put 50 = .ok (.aload_n 0, 1) := by decide +kernel
theorem dX1_put_51 : decode cX1_put 51 = .ok (.getfield 31, 3) := by decide +kernel
theorem dX1_put_54 : decode cX1_put 54 = .ok (.getfield 65, 3) := by decide +kernel
theorem dX1_put_57 : decode cX1_put 57 = .ok (.iload_n 1, 1) := by decide +kernel
theorem dX1_put_58 : decode cX1_put 58 = .ok (.iaload, 1) := by decide +kernel
theorem dX1_put_59 : decode cX1_put 59 = .ok (.ior, 1) := by decide +kernel
theorem dX1_put_60 : decode cX1_put 60 = .ok (.iastore, 1) := by decide +kernel
theorem dX1_put_61 : decode cX1_put 61 = .ok (.aload_n 0, 1) := by decide +kernel
theorem dX1_put_62 : decode cX1_put 62 = .ok (.getfield 21, 3) := by decide +kernel
theorem dX1_put_65 : decode cX1_put 65 = .ok (.iload_n 2, 1) := by decide +kernel
theorem dX1_put_66 : decode cX1_put 66 = .ok (.iaload, 1) := by decide +kernel
theorem dX1_put_67 : decode cX1_put 67 = .ok (.ifCond .ne 13, 3) := by decide +kernel
theorem dX1_put_70 : decode cX1_put 70 = .ok (.aload_n 0, 1) := by decide +kernel
theorem dX1_put_71 : decode cX1_put 71 = .ok (.dup, 1) := by decide +kernel
theorem dX1_put_72 : decode cX1_put 72 = .ok (.getfield 27, 3) := by decide +kernel
theorem dX1_put_75 : decode cX1_put 75 = .ok (.iconst 1, 1) := by decide +kernel
theorem dX1_put_76 : decode cX1_put 76 = .ok (.iadd, 1) := by decide +kernel
theorem dX1_put_77 : decode cX1_put 77 = .ok (.putfield 27, 3) := by decide +kernel
theorem dX1_put_80 : decode cX1_put 80 = .ok (.aload_n 0, 1) := by decide +kernel
theorem dX1_put_81 : decode cX1_put 81 = .ok (.getfield 21, 3) := by decide +kernel
theorem dX1_put_84 : decode cX1_put 84 = .ok (.iload_n 2, 1) := by decide +kernel
theorem dX1_put_85 : decode cX1_put 85 = .ok (.dup2, 1) := by decide +kernel
theorem dX1_put_86 : decode cX1_put 86 = .ok (.iaload, 1) := by decide +kernel
theorem dX1_put_87 : decode cX1_put 87 = .ok (.iconst 1, 1) := by decide +kernel
theorem dX1_put_88 : decode cX1_put 88 = .ok (.iadd, 1) := by decide +kernel
theorem dX1_put_89 : decode cX1_put 89 = .ok (.iastore, 1) := by decide +kernel
theorem dX1_put_90 : decode cX1_put 90 = .ok (.return_, 1) := by decide +kernel
theorem dX1_remove_0 : decode cX1_remove 0 = .ok (.aload_n 0, 1) := by decide +kernel
theorem dX1_remove_1 : decode cX1_remove 1 = .ok (.getfield 9, 3) := by decide +kernel
theorem dX1_remove_4 : decode cX1_remove 4 = .ok (.iload_n 1, 1) := by decide +kernel
theorem dX1_remove_5 : decode cX1_remove 5 = .ok (.iaload, 1) := by decide +kernel
theorem dX1_remove_6 : decode cX1_remove 6 = .ok (.istore_n 2, 1) := by decide +kernel
theorem dX1_remove_7 : decode cX1_remove 7 = .ok (.iload_n 2, 1) := by decide +kernel
theorem dX1_remove_8 : decode cX1_remove 8 = .ok (.iconst (-1), 1) := by decide +kernel
theorem dX1_remove_9 : decode cX1_remove 9 = .ok (.if_icmp .ne 4, 3) := by decide +kernel
theorem dX1_remove_12 : decode cX1_remove 12 = .ok (.return_, 1) := by decide +kernel
theorem dX1_remove_13 : decode cX1_remove 13 = .ok (.aload_n 0, 1) := by decide +kernel
theorem dX1_remove_14 : decode cX1_remove 14 = .ok (.getfield 9, 3) := by decide +kernel
theorem dX1_remove_17 : decode cX1_remove 17 = .ok (.iload_n 1, 1) := by decide +kernel
theorem dX1_remove_18 : decode cX1_remove 18 = .ok (.iconst (-1), 1) := by decide +kernel
theorem dX1_remove_19 : decode cX1_remove 19 = .ok (.iastore, 1) := by decide +kernel
theorem dX1_remove_20 : decode cX1_remove 20 = .ok (.aload_n 0, 1) := by decide +kernel
theorem dX1_remove_21 : decode cX1_remove 21 = .ok (.getfield 15, 3) := by decide +kernel
theorem dX1_remove_24 : decode cX1_remove 24 = .ok (.iload_n 2, 1) := by decide +kernel
theorem dX1_remove_25 : decode cX1_remove 25 = .ok (.dup2, 1) := by decide +kernel
theorem dX1_remove_26 : decode cX1_remove 26 = .ok (.iaload, 1) := by decide +kernel
theorem dX1_remove_27 : decode cX1_remove 27 = .ok (.aload_n 0, 1) := by decide +kernel
theorem dX1_remove_28 : decode cX1_remove 28 = .ok (.getfield 31, 3) := by decide +kernel
theorem dX1_remove_31 : decode cX1_remove 31 = .ok (.getfield 52, 3) := by decide +kernel
theorem dX1_remove_34 : decode cX1_remove 34 = .ok (.iload_n 1, 1) := by decide +kernel
theorem dX1_remove_35 : decode cX1_remove 35 = .ok (.iaload, 1) := by decide +kernel
theorem dX1_remove_36 : decode cX1_remove 36 = .ok (.isub, 1) := by decide +kernel
theorem dX1_remove_37 : decode cX1_remove 37 = .ok (.iastore, 1) := by decide +kernel
theorem dX1_remove_38 : decode cX1_remove 38 = .ok (.aload_n 0, 1) := by decide +kernel
theorem dX1_remove_39 : decode cX1_remove 39 = .ok (.getfield 18, 3) := by decide +kernel
theorem dX1_remove_42 : decode cX1_remove 42 = .ok (.iload_n 2, 1) := by decide +kernel
theorem dX1_remove_43 : decode cX1_remove 43 = .ok (.dup2, 1) := by decide +kernel
theorem dX1_remove_44 : decode cX1_remove 44 = .ok (.iaload, 1) := by decide +kernel
theorem dX1_remove_45 : decode cX1_remove 45 = .ok (.aload_n 0, 1) := by decide +kernel
theorem dX1_remove_46 : decode cX1_remove 46 = .ok (.getfield 31, 3) := by decide +kernel
theorem dX1_remove_49 : decode cX1_remove 49 = .ok (.getfield 59, 3) := by decide +kernel
theorem dX1_remove_52 : decode cX1_remove 52 = .ok (.iload_n 1, 1) := by decide +kernel
theorem dX1_remove_53 : decode cX1_remove 53 = .ok (.iaload, 1) := by decide +kernel
theorem dX1_remove_54 : decode cX1_remove 54 = .ok (.isub, 1) := by decide +kernel
theorem dX1_remove_55 : decode cX1_remove 55 = .ok (.iastore, 1) := by decide +kernel
theorem dX1_remove_56 : decode cX1_remove 56 = .ok (.aload_n 0, 1) := by decide +kernel
theorem dX1_remove_57 : decode cX1_remove 57 = .ok (.getfield 24, 3) := by decide +kernel
theorem dX1_remove_60 : decode cX1_remove 60 = .ok (.iload_n 2, 1) := by decide +kernel
theorem dX1_remove_61 : decode cX1_remove 61 = .ok (.dup2, 1) := by decide +kernel
theorem dX1_remove_62 : decode cX1_remove 62 = .ok (.iaload, 1) := by decide +kernel
theorem dX1_remove_63 : decode cX1_remove 63 = .ok (.aload_n 0, 1) := by decide +kernel
theorem dX1_remove_64 : decode cX1_remove 64 = .ok (.getfield 31, 3) := by decide +kernel
theorem dX1_remove_67 : decode cX1_remove 67 = .ok (.getfield 65, 3) := by decide +kernel
theorem dX1_remove_70 : decode cX1_remove 70 = .ok (.iload_n 1, 1) := by decide +kernel
theorem dX1_remove_71 : decode cX1_remove 71 = .ok (.iaload, 1) := by decide +kernel
theorem dX1_remove_72 : decode cX1_remove 72 = .ok (.iconst (-1), 1) := by decide +kernel
theorem dX1_remove_73 : decode cX1_remove 73 = .ok (.ixor, 1) := by decide +kernel
theorem dX1_remove_74 : decode cX1_remove 74 = .ok (.iand, 1) := by decide +kernel
theorem dX1_remove_75 : decode cX1_remove 75 = .ok (.iastore, 1) := by decide +kernel
theorem dX1_remove_76 : decode cX1_remove 76 = .ok (.aload_n 0, 1) := by decide +kernel
theorem dX1_remove_77 : decode cX1_remove 77 = .ok (.getfield 21, 3) := by decide +kernel
theorem dX1_remove_80 : decode cX1_remove 80 = .ok (.iload_n 2, 1) := by decide +kernel
theorem dX1_remove_81 : decode cX1_remove 81 = .ok (.dup2, 1) := by decide +kernel
theorem dX1_remove_82 : decode cX1_remove 82 = .ok (.iaload, 1) := by decide +kernel
theorem dX1_remove_83 : decode cX1_remove 83 = .ok (.iconst 1, 1) := by decide +kernel
theorem dX1_remove_84 : decode cX1_remove 84 = .ok (.isub, 1) := by decide +kernel
theorem dX1_remove_85 : decode cX1_remove 85 = .ok (.iastore, 1) := by decide +kernel
theorem dX1_remove_86 : decode cX1_remove 86 = .ok (.aload_n 0, 1) := by decide +kernel
theorem dX1_remove_87 : decode cX1_remove 87 = .ok (.getfield 21, 3) := by decide +kernel
theorem dX1_remove_90 : decode cX1_remove 90 = .ok (.iload_n 2, 1) := by decide +kernel
theorem dX1_remove_91 : decode cX1_remove 91 = .ok (.iaload, 1) := by decide +kernel
theorem dX1_remove_92 : decode cX1_remove 92 = .ok (.ifCond .ne 13, 3) := by decide +kernel
theorem dX1_remove_95 : decode cX1_remove 95 = .ok (.aload_n 0, 1) := by decide +kernel
theorem dX1_remove_96 : decode cX1_remove 96 = .ok (.dup, 1) := by decide +kernel
theorem dX1_remove_97 : decode cX1_remove 97 = .ok (.getfield 27, 3) := by decide +kernel
theorem dX1_remove_100 : decode cX1_remove 100 = .ok (.iconst 1, 1) := by decide +kernel
theorem dX1_remove_101 : decode cX1_remove 101 = .ok (.isub, 1) := by decide +kernel
theorem dX1_remove_102 : decode cX1_remove 102 = .ok (.putfield 27, 3) := by decide +kernel
theorem dX1_remove_105 : decode cX1_remove 105 = .ok (.return_, 1) := by decide +kernel
theorem dX1_removeBlock_0 : decode cX1_removeBlock 0 = .ok (.iload_n 1, 1) := by decide +kernel
theorem dX1_removeBlock_1 : decode cX1_removeBlock 1 = .ok (.istore_n 2, 1) := by decide +kernel
theorem dX1_removeBlock_2 : decode cX1_removeBlock 2 = .ok (.iload_n 2, 1) := by decide +kernel
theorem dX1_removeBlock_3 : decode cX1_removeBlock 3 = .ok (.aload_n 0, 1) := by decide +kernel
theorem dX1_removeBlock_4 : decode cX1_removeBlock 4 = .ok (.getfield 31, 3) := by decide +kernel
theorem dX1_removeBlock_7 : decode cX1_removeBlock 7 = .ok (.getfield 74, 3) := by decide +kernel
theorem dX1_removeBlock_10 : decode cX1_removeBlock 10 = .ok (.if_icmp .ge 27, 3) := by decide +kernel
theorem dX1_removeBlock_13 : decode cX1_removeBlock 13 = .ok (.aload_n 0, 1) := by decide +kernel
theorem dX1_removeBlock_14 : decode cX1_removeBlock 14 = .ok (.getfield 31, 3) := by decide +kernel
theorem dX1_removeBlock_17 : decode cX1_removeBlock 17 = .ok (.getfield 49, 3) := by decide +kernel
theorem dX1_removeBlock_20 : decode cX1_removeBlock 20 = .ok (.iload_n 2, 1) := by decide +kernel
theorem dX1_removeBlock_21 : decode cX1_removeBlock 21 = .ok (.iaload, 1) := by decide +kernel
theorem dX1_removeBlock_22 : decode cX1_removeBlock 22 = .ok (.iload_n 1, 1) := by decide +kernel
theorem dX1_removeBlock_23 : decode cX1_removeBlock 23 = .ok (.if_icmp .ne 8, 3) := by decide +kernel
theorem dX1_removeBlock_26 : decode cX1_removeBlock 26 = .ok (.aload_n 0, 1) := by decide +kernel
theorem dX1_removeBlock_27 : decode cX1_removeBlock 27 = .ok (.iload_n 2, 1) := by decide +kernel
theorem dX1_removeBlock_28 : decode cX1_removeBlock 28 = .ok (.invokevirtual 77, 3) := by decide +kernel
theorem dX1_removeBlock_31 : decode cX1_removeBlock 31 = .ok (.iinc 2 1, 3) := by decide +kernel
theorem dX1_removeBlock_34 : decode cX1_removeBlock 34 = .ok (.goto (-32), 3) := by decide +kernel
theorem dX1_removeBlock_37 : decode cX1_removeBlock 37 = .ok (.return_, 1) := by decide +kernel
theorem dX1_shift_0 : decode cX1_shift 0 = .ok (.iload_n 1, 1) := by decide +kernel
theorem dX1_shift_1 : decode cX1_shift 1 = .ok (.istore_n 3, 1) := by decide +kernel
theorem dX1_shift_2 : decode cX1_shift 2 = .ok (.iload_n 3, 1) := by decide +kernel
theorem dX1_shift_3 : decode cX1_shift 3 = .ok (.aload_n 0, 1) := by decide +kernel
theorem dX1_shift_4 : decode cX1_shift 4 = .ok (.getfield 31, 3) := by decide +kernel
theorem dX1_shift_7 : decode cX1_shift 7 = .ok (.getfield 74, 3) := by decide +kernel
theorem dX1_shift_10 : decode cX1_shift 10 = .ok (.if_icmp .ge 33, 3) := by decide +kernel
theorem dX1_shift_13 : decode cX1_shift 13 = .ok (.aload_n 0, 1) := by decide +kernel
theorem dX1_shift_14 : decode cX1_shift 14 = .ok (.getfield 31, 3) := by decide +kernel
theorem dX1_shift_17 : decode cX1_shift 17 = .ok (.getfield 49, 3) := by decide +kernel
theorem dX1_shift_20 : decode cX1_shift 20 = .ok (.iload_n 3, 1) := by decide +kernel
theorem dX1_shift_21 : decode cX1_shift 21 = .ok (.iaload, 1) := by decide +kernel
theorem dX1_shift_22 : decode cX1_shift 22 = .ok (.iload_n 1, 1) := by decide +kernel
theorem dX1_shift_23 : decode cX1_shift 23 = .ok (.if_icmp .ne 14, 3) := by decide +kernel
theorem dX1_shift_26 : decode cX1_shift 26 = .ok (.aload_n 0, 1) := by decide +kernel
theorem dX1_shift_27 : decode cX1_shift 27 = .ok (.iload_n 3, 1) := by decide +kernel
theorem dX1_shift_28 : decode cX1_shift 28 = .ok (.invokevirtual 77, 3) := by decide +kernel
theorem dX1_shift_31 : decode cX1_shift 31 = .ok (.aload_n 0, 1) := by decide +kernel
theorem dX1_shift_32 : decode cX1_shift 32 = .ok (.iload_n 3, 1) := by decide +kernel
theorem dX1_shift_33 : decode cX1_shift 33 = .ok (.iload_n 2, 1) := by decide +kernel
theorem dX1_shift_34 : decode cX1_shift 34 = .ok (.invokevirtual 81, 3) := by decide +kernel
theorem dX1_shift_37 : decode cX1_shift 37 = .ok (.iinc 3 1, 3) := by decide +kernel
theorem dX1_shift_40 : decode cX1_shift 40 = .ok (.goto (-38), 3) := by decide +kernel
theorem dX1_shift_43 : decode cX1_shift 43 = .ok (.return_, 1) := by decide +kernel
theorem dX1_isMovedIn_0 : decode cX1_isMovedIn 0 = .ok (.aload_n 0, 1) := by decide +kernel
theorem dX1_isMovedIn_1 : decode cX1_isMovedIn 1 = .ok (.getfield 31, 3) := by decide +kernel
theorem dX1_isMovedIn_4 : decode cX1_isMovedIn 4 = .ok (.getfield 49, 3) := by decide +kernel
theorem dX1_isMovedIn_7 : decode cX1_isMovedIn 7 = .ok (.iload_n 1, 1) := by decide +kernel
theorem dX1_isMovedIn_8 : decode cX1_isMovedIn 8 = .ok (.iaload, 1) := by decide +kernel
theorem dX1_isMovedIn_9 : decode cX1_isMovedIn 9 = .ok (.iload_n 1, 1) := by decide +kernel
theorem dX1_isMovedIn_10 : decode cX1_isMovedIn 10 = .ok (.if_icmp .ne 36, 3) := by decide +kernel
theorem dX1_isMovedIn_13 : decode cX1_isMovedIn 13 = .ok (.aload_n 0, 1) := by decide +kernel
theorem dX1_isMovedIn_14 : decode cX1_isMovedIn 14 = .ok (.getfield 9, 3) := by decide +kernel
theorem dX1_isMovedIn_17 : decode cX1_isMovedIn 17 = .ok (.iload_n 1, 1) := by decide +kernel
theorem dX1_isMovedIn_18 : decode cX1_isMovedIn 18 = .ok (.iaload, 1) := by decide +kernel
theorem dX1_isMovedIn_19 : decode cX1_isMovedIn 19 = .ok (.iconst (-1), 1) := by decide +kernel
theorem dX1_isMovedIn_20 : decode cX1_isMovedIn 20 = .ok (.if_icmp .eq 26, 3) := by decide +kernel
theorem dX1_isMovedIn_23 : decode cX1_isMovedIn 23 = .ok (.aload_n 2, 1) := by decide +kernel
theorem dX1_isMovedIn_24 : decode cX1_isMovedIn 24 = .ok (.iload_n 1, 1) := by decide +kernel
theorem dX1_isMovedIn_25 : decode cX1_isMovedIn 25 = .ok (.iaload, 1) := by decide +kernel
theorem dX1_isMovedIn_26 : decode cX1_isMovedIn 26 = .ok (.iconst (-1), 1) := by decide +kernel
theorem dX1_isMovedIn_27 : decode cX1_isMovedIn 27 = .ok (.if_icmp .eq 19, 3) := by decide +kernel
theorem dX1_isMovedIn_30 : decode cX1_isMovedIn 30 = .ok (.aload_n 2, 1) := by decide +kernel
theorem dX1_isMovedIn_31 : decode cX1_isMovedIn 31 = .ok (.iload_n 1, 1) := by decide +kernel
theorem dX1_isMovedIn_32 : decode cX1_isMovedIn 32 = .ok (.iaload, 1) := by decide +kernel
theorem dX1_isMovedIn_33 : decode cX1_isMovedIn 33 = .ok (.aload_n 0, 1) := by decide +kernel
theorem dX1_isMovedIn_34 : decode cX1_isMovedIn 34 = .ok (.getfield 9, 3) := by decide +kernel
theorem dX1_isMovedIn_37 : decode cX1_isMovedIn 37 = .ok (.iload_n 1, 1) := by decide +kernel
theorem dX1_isMovedIn_38 : decode cX1_isMovedIn 38 = .ok (.iaload, 1) := by decide +kernel
theorem dX1_isMovedIn_39 : decode cX1_isMovedIn 39 = .ok (.if_icmp .eq 7, 3) := by decide +kernel
theorem dX1_isMovedIn_42 : decode cX1_isMovedIn 42 = .ok (.iconst 1, 1) := by decide +kernel
theorem dX1_isMovedIn_43 : decode cX1_isMovedIn 43 = .ok (.goto 4, 3) := by decide +kernel
theorem dX1_isMovedIn_46 : decode cX1_isMovedIn 46 = .ok (.iconst 0, 1) := by decide +kernel
theorem dX1_isMovedIn_47 : decode cX1_isMovedIn 47 = .ok (.ireturn, 1) := by decide +kernel
theorem dX1_costTo_0 : decode cX1_costTo 0 = .ok (.iconst 0, 1) := by decide +kernel
theorem dX1_costTo_1 : decode cX1_costTo 1 = .ok (.istore_n 2, 1) := by decide +kernel
theorem dX1_costTo_2 : decode cX1_costTo 2 = .ok (.iconst 0, 1) := by decide +kernel
theorem dX1_costTo_3 : decode cX1_costTo 3 = .ok (.istore_n 3, 1) := by decide +kernel
theorem dX1_costTo_4 : decode cX1_costTo 4 = .ok (.iload_n 3, 1) := by decide +kernel
theorem dX1_costTo_5 : decode cX1_costTo 5 = .ok (.aload_n 0, 1) := by decide +kernel
theorem dX1_costTo_6 : decode cX1_costTo 6 = .ok (.getfield 31, 3) := by decide +kernel
theorem dX1_costTo_9 : decode cX1_costTo 9 = .ok (.getfield 74, 3) := by decide +kernel
theorem dX1_costTo_12 : decode cX1_costTo 12 = .ok (.if_icmp .ge 29, 3) := by decide +kernel
theorem dX1_costTo_15 : decode cX1_costTo 15 = .ok (.aload_n 0, 1) := by decide +kernel
theorem dX1_costTo_16 : decode cX1_costTo 16 = .ok (.iload_n 3, 1) := by decide +kernel
theorem dX1_costTo_17 : decode cX1_costTo 17 = .ok (.aload_n 1, 1) := by decide +kernel
theorem dX1_costTo_18 : decode cX1_costTo 18 = .ok (.invokevirtual 85, 3) := by decide +kernel
theorem dX1_costTo_21 : decode cX1_costTo 21 = .ok (.ifCond .eq 14, 3) := by decide +kernel
theorem dX1_costTo_24 : decode cX1_costTo 24 = .ok (.iload_n 2, 1) := by decide +kernel
theorem dX1_costTo_25 : decode cX1_costTo 25 = .ok (.aload_n 0, 1) := by decide +kernel
theorem dX1_costTo_26 : decode cX1_costTo 26 = .ok (.getfield 31, 3) := by decide +kernel
theorem dX1_costTo_29 : decode cX1_costTo 29 = .ok (.iload_n 3, 1) := by decide +kernel
theorem dX1_costTo_30 : decode cX1_costTo 30 = .ok (.invokevirtual 89, 3) := by decide +kernel
theorem dX1_costTo_33 : decode cX1_costTo 33 = .ok (.iadd, 1) := by decide +kernel
theorem dX1_costTo_34 : decode cX1_costTo 34 = .ok (.istore_n 2, 1) := by decide +kernel
theorem dX1_costTo_35 : decode cX1_costTo 35 = .ok (.iinc 3 1, 3) := by decide +kernel
theorem dX1_costTo_38 : decode cX1_costTo 38 = .ok (.goto (-34), 3) := by decide +kernel
theorem dX1_costTo_41 : decode cX1_costTo 41 = .ok (.iload_n 2, 1) := by decide +kernel
theorem dX1_costTo_42 : decode cX1_costTo 42 = .ok (.ireturn, 1) := by decide +kernel
theorem dX1_working_0 : decode cX1_working 0 = .ok (.iconst 0, 1) := by decide +kernel
theorem dX1_working_1 : decode cX1_working 1 = .ok (.istore_n 1, 1) := by decide +kernel
theorem dX1_working_2 : decode cX1_working 2 = .ok (.iconst 0, 1) := by decide +kernel
theorem dX1_working_3 : decode cX1_working 3 = .ok (.istore_n 2, 1) := by decide +kernel
theorem dX1_working_4 : decode cX1_working 4 = .ok (.iload_n 2, 1) := by decide +kernel
theorem dX1_working_5 : decode cX1_working 5 = .ok (.aload_n 0, 1) := by decide +kernel
theorem dX1_working_6 : decode cX1_working 6 = .ok (.getfield 31, 3) := by decide +kernel
theorem dX1_working_9 : decode cX1_working 9 = .ok (.getfield 74, 3) := by decide +kernel
theorem dX1_working_12 : decode cX1_working 12 = .ok (.if_icmp .ge 22, 3) := by decide +kernel
theorem dX1_working_15 : decode cX1_working 15 = .ok (.aload_n 0, 1) := by decide +kernel
theorem dX1_working_16 : decode cX1_working 16 = .ok (.getfield 9, 3) := by decide +kernel
theorem dX1_working_19 : decode cX1_working 19 = .ok (.iload_n 2, 1) := by decide +kernel
theorem dX1_working_20 : decode cX1_working 20 = .ok (.iaload, 1) := by decide +kernel
theorem dX1_working_21 : decode cX1_working 21 = .ok (.iconst (-1), 1) := by decide +kernel
theorem dX1_working_22 : decode cX1_working 22 = .ok (.if_icmp .eq 6, 3) := by decide +kernel
theorem dX1_working_25 : decode cX1_working 25 = .ok (.iinc 1 1, 3) := by decide +kernel
theorem dX1_working_28 : decode cX1_working 28 = .ok (.iinc 2 1, 3) := by decide +kernel
theorem dX1_working_31 : decode cX1_working 31 = .ok (.goto (-27), 3) := by decide +kernel
theorem dX1_working_34 : decode cX1_working 34 = .ok (.iload_n 1, 1) := by decide +kernel
theorem dX1_working_35 : decode cX1_working 35 = .ok (.ireturn, 1) := by decide +kernel
theorem dX2_init_0 : decode cX2_init 0 = .ok (.aload_n 0, 1) := by decide +kernel
theorem dX2_init_1 : decode cX2_init 1 = .ok (.invokespecial 3, 3) := by decide +kernel
theorem dX2_init_4 : decode cX2_init 4 = .ok (.aload_n 0, 1) := by decide +kernel
theorem dX2_init_5 : decode cX2_init 5 = .ok (.bipush 8, 2) := by decide +kernel
theorem dX2_init_7 : decode cX2_init 7 = .ok (.newarray .int, 2) := by decide +kernel
theorem dX2_init_9 : decode cX2_init 9 = .ok (.putfield 9, 3) := by decide +kernel
theorem dX2_init_12 : decode cX2_init 12 = .ok (.aload_n 0, 1) := by decide +kernel
theorem dX2_init_13 : decode cX2_init 13 = .ok (.iconst 0, 1) := by decide +kernel
theorem dX2_init_14 : decode cX2_init 14 = .ok (.putfield 15, 3) := by decide +kernel
theorem dX2_init_17 : decode cX2_init 17 = .ok (.aload_n 0, 1) := by decide +kernel
theorem dX2_init_18 : decode cX2_init 18 = .ok (.iconst 0, 1) := by decide +kernel
theorem dX2_init_19 : decode cX2_init 19 = .ok (.putfield 19, 3) := by decide +kernel
theorem dX2_init_22 : decode cX2_init 22 = .ok (.aload_n 0, 1) := by decide +kernel
theorem dX2_init_23 : decode cX2_init 23 = .ok (.iconst (-1), 1) := by decide +kernel
theorem dX2_init_24 : decode cX2_init 24 = .ok (.putfield 23, 3) := by decide +kernel
theorem dX2_init_27 : decode cX2_init 27 = .ok (.aload_n 0, 1) := by decide +kernel
theorem dX2_init_28 : decode cX2_init 28 = .ok (.iconst (-1), 1) := by decide +kernel
theorem dX2_init_29 : decode cX2_init 29 = .ok (.putfield 26, 3) := by decide +kernel
theorem dX2_init_32 : decode cX2_init 32 = .ok (.aload_n 0, 1) := by decide +kernel
theorem dX2_init_33 : decode cX2_init 33 = .ok (.iconst 3, 1) := by decide +kernel
theorem dX2_init_34 : decode cX2_init 34 = .ok (.putfield 29, 3) := by decide +kernel
theorem dX2_init_37 : decode cX2_init 37 = .ok (.aload_n 0, 1) := by decide +kernel
theorem dX2_init_38 : decode cX2_init 38 = .ok (.iconst (-1), 1) := by decide +kernel
theorem dX2_init_39 : decode cX2_init 39 = .ok (.putfield 32, 3) := by decide +kernel
theorem dX2_init_42 : decode cX2_init 42 = .ok (.aload_n 0, 1) := by decide +kernel
theorem dX2_init_43 : decode cX2_init 43 = .ok (.iconst 0, 1) := by decide +kernel
theorem dX2_init_44 : decode cX2_init 44 = .ok (.putfield 35, 3) := by decide +kernel
theorem dX2_init_47 : decode cX2_init 47 = .ok (.aload_n 0, 1) := by decide +kernel
theorem dX2_init_48 : decode cX2_init 48 = .ok (.iconst 0, 1) := by decide +kernel
theorem dX2_init_49 : decode cX2_init 49 = .ok (.putfield 38, 3) := by decide +kernel
theorem dX2_init_52 : decode cX2_init 52 = .ok (.aload_n 0, 1) := by decide +kernel
theorem dX2_init_53 : decode cX2_init 53 = .ok (.iconst 0, 1) := by decide +kernel
theorem dX2_init_54 : decode cX2_init 54 = .ok (.putfield 41, 3) := by decide +kernel
theorem dX2_init_57 : decode cX2_init 57 = .ok (.aload_n 0, 1) := by decide +kernel
theorem dX2_init_58 : decode cX2_init 58 = .ok (.aload_n 1, 1) := by decide +kernel
theorem dX2_init_59 : decode cX2_init 59 = .ok (.putfield 44, 3) := by decide +kernel
theorem dX2_init_62 : decode cX2_init 62 = .ok (.aload_n 0, 1) := by decide +kernel
theorem dX2_init_63 : decode cX2_init 63 = .ok (.aload_n 2, 1) := by decide +kernel
theorem dX2_init_64 : decode cX2_init 64 = .ok (.putfield 48, 3) := by decide +kernel
theorem dX2_init_67 : decode cX2_init 67 = .ok (.aload_n 0, 1) := by decide +kernel
theorem dX2_init_68 : decode cX2_init 68 = .ok (.new 52, 3) := by decide +kernel
theorem dX2_init_71 : decode cX2_init 71 = .ok (.dup, 1) := by decide +kernel
theorem dX2_init_72 : decode cX2_init 72 = .ok (.aload_n 1, 1) := by decide +kernel
theorem dX2_init_73 : decode cX2_init 73 = .ok (.invokespecial 54, 3) := by decide +kernel
theorem dX2_init_76 : decode cX2_init 76 = .ok (.putfield 57, 3) := by decide +kernel
theorem dX2_init_79 : decode cX2_init 79 = .ok (.return_, 1) := by decide +kernel
theorem dX2_aim_0 : decode cX2_aim 0 = .ok (.aload_n 0, 1) := by decide +kernel
theorem dX2_aim_1 : decode cX2_aim 1 = .ok (.iload_n 1, 1) := by decide +kernel
theorem dX2_aim_2 : decode cX2_aim 2 = .ok (.putfield 29, 3) := by decide +kernel
theorem dX2_aim_5 : decode cX2_aim 5 = .ok (.aload_n 0, 1) := by decide +kernel
theorem dX2_aim_6 : decode cX2_aim 6 = .ok (.iload_n 2, 1) := by decide +kernel
theorem dX2_aim_7 : decode cX2_aim 7 = .ok (.putfield 32, 3) := by decide +kernel
theorem dX2_aim_10 : decode cX2_aim 10 = .ok (.aload_n 0, 1) := by decide +kernel
theorem dX2_aim_11 : decode cX2_aim 11 = .ok (.iload_n 3, 1) := by decide +kernel
theorem dX2_aim_12 : decode cX2_aim 12 = .ok (.putfield 35, 3) := by decide +kernel
theorem dX2_aim_15 : decode cX2_aim 15 = .ok (.aload_n 0, 1) := by decide +kernel
theorem dX2_aim_16 : decode cX2_aim 16 = .ok (.iload 4, 2) := by decide +kernel
theorem dX2_aim_18 : decode cX2_aim 18 = .ok (.putfield 38, 3) := by decide +kernel
theorem dX2_aim_21 : decode cX2_aim 21 = .ok (.return_, 1) := by decide +kernel
theorem dX2_run_0 : decode cX2_run 0 = .ok (.aload_n 0, 1) := by decide +kernel
theorem dX2_run_1 : decode cX2_run 1 = .ok (.iload_n 1, 1) := by decide +kernel
theorem dX2_run_2 : decode cX2_run 2 = .ok (.putfield 41, 3) := by decide +kernel
theorem dX2_run_5 : decode cX2_run 5 = .ok (.aload_n 0, 1) := by decide +kernel
theorem dX2_run_6 : decode cX2_run 6 = .ok (.iconst 0, 1) := by decide +kernel
theorem dX2_run_7 : decode cX2_run 7 = .ok (.putfield 15, 3) := by decide +kernel
theorem dX2_run_10 : decode cX2_run 10 = .ok (.aload_n 0, 1) := by decide +kernel
theorem dX2_run_11 : decode cX2_run 11 = .ok (.iconst 0, 1) := by decide +kernel
theorem dX2_run_12 : decode cX2_run 12 = .ok (.putfield 19, 3) := by decide +kernel
theorem dX2_run_15 : decode cX2_run 15 = .ok (.aload_n 0, 1) := by decide +kernel
theorem dX2_run_16 : decode cX2_run 16 = .ok (.iconst (-1), 1) := by decide +kernel
theorem dX2_run_17 : decode cX2_run 17 = .ok (.putfield 23, 3) := by decide +kernel
theorem dX2_run_20 : decode cX2_run 20 = .ok (.aload_n 0, 1) := by decide +kernel
theorem dX2_run_21 : decode cX2_run 21 = .ok (.iconst (-1), 1) := by decide +kernel
theorem dX2_run_22 : decode cX2_run 22 = .ok (.putfield 26, 3) := by decide +kernel
theorem dX2_run_25 : decode cX2_run 25 = .ok (.aload_n 0, 1) := by decide +kernel
theorem dX2_run_26 : decode cX2_run 26 = .ok (.getfield 57, 3) := by decide +kernel
theorem dX2_run_29 : decode cX2_run 29 = .ok (.invokevirtual 60, 3) := by decide +kernel
theorem dX2_run_32 : decode cX2_run 32 = .ok (.aload_n 0, 1) := by decide +kernel
theorem dX2_run_33 : decode cX2_run 33 = .ok (.invokevirtual 63, 3) := by decide +kernel
theorem dX2_run_36 : decode cX2_run 36 = .ok (.ifCond .eq 9, 3) := by decide +kernel
theorem dX2_run_39 : decode cX2_run 39 = .ok (.aload_n 0, 1) := by decide +kernel
theorem dX2_run_40 : decode cX2_run 40 = .ok (.iconst 0, 1) := by decide +kernel
theorem dX2_run_41 : decode cX2_run 41 = .ok (.iconst 0, 1) := by decide +kernel
theorem dX2_run_42 : decode cX2_run 42 = .ok (.invokevirtual 67, 3) := by decide +kernel
theorem dX2_run_45 : decode cX2_run 45 = .ok (.return_, 1) := by decide +kernel
theorem dX2_giveFrom_0 : decode cX2_giveFrom 0 = .ok (.aload_n 0, 1) := by decide +kernel
theorem dX2_giveFrom_1 : decode cX2_giveFrom 1 = .ok (.iload_n 1, 1) := by decide +kernel
theorem dX2_giveFrom_2 : decode cX2_giveFrom 2 = .ok (.invokevirtual 71, 3) := by decide +kernel
theorem dX2_giveFrom_5 : decode cX2_giveFrom 5 = .ok (.istore_n 3, 1) := by decide +kernel
theorem dX2_giveFrom_6 : decode cX2_giveFrom 6 = .ok (.iload_n 3, 1) := by decide +kernel
theorem dX2_giveFrom_7 : decode cX2_giveFrom 7 = .ok (.aload_n 0, 1) := by decide +kernel
theorem dX2_giveFrom_8 : decode cX2_giveFrom 8 = .ok (.getfield 44, 3) := by decide +kernel
theorem dX2_giveFrom_11 : decode cX2_giveFrom 11 = .ok (.getfield 75, 3) := by decide +kernel
theorem dX2_giveFrom_14 : decode cX2_giveFrom 14 = .ok (.if_icmp .lt 9, 3) := by decide +kernel
theorem dX2_giveFrom_17 : decode cX2_giveFrom 17 = .ok (.aload_n 0, 1) := by decide +kernel
theorem dX2_giveFrom_18 : decode cX2_giveFrom 18 = .ok (.iload_n 2, 1) := by decide +kernel
theorem dX2_giveFrom_19 : decode cX2_giveFrom 19 = .ok (.invokevirtual 80, 3) := by decide +kernel
theorem dX2_giveFrom_22 : decode cX2_giveFrom 22 = .ok (.return_, 1) := by decide +kernel
theorem dX2_giveFrom_23 : decode cX2_giveFrom 23 = .ok (.aload_n 0, 1) := by decide +kernel
theorem dX2_giveFrom_24 : decode cX2_giveFrom 24 = .ok (.getfield 44, 3) := by decide +kernel
theorem dX2_giveFrom_27 : decode cX2_giveFrom 27 = .ok (.getfield 84, 3) := by decide +kernel
theorem dX2_giveFrom_30 : decode cX2_giveFrom 30 = .ok (.iload_n 3, 1) := by decide +kernel
theorem dX2_giveFrom_31 : decode cX2_giveFrom 31 = .ok (.iaload, 1) := by decide +kernel
theorem dX2_giveFrom_32 : decode cX2_giveFrom 32 = .ok (.iload_n 3, 1) := by decide +kernel
theorem dX2_giveFrom_33 : decode cX2_giveFrom 33 = .ok (.if_icmp .ne 7, 3) := by decide +kernel
theorem dX2_giveFrom_36 : decode cX2_giveFrom 36 = .ok (.iconst 1, 1) := by decide +kernel
theorem dX2_giveFrom_37 : decode cX2_giveFrom 37 = .ok (.goto 4, 3) := by decide +kernel
theorem dX2_giveFrom_40 : decode cX2_giveFrom 40 = .ok (.iconst 0, 1) := by decide +kernel
theorem dX2_giveFrom_41 : decode cX2_giveFrom 41 = .ok (.istore 4, 2) := by decide +kernel
theorem dX2_giveFrom_43 : decode cX2_giveFrom 43 = .ok (.iconst 0, 1) := by decide +kernel
theorem dX2_giveFrom_44 : decode cX2_giveFrom 44 = .ok (.istore 5, 2) := by decide +kernel
theorem dX2_giveFrom_46 : decode cX2_giveFrom 46 = .ok (.iload 5, 2) := by decide +kernel
theorem dX2_giveFrom_48 : decode cX2_giveFrom 48 = .ok (.aload_n 0, 1) := by decide +kernel
theorem dX2_giveFrom_49 : decode cX2_giveFrom 49 = .ok (.getfield 44, 3) := by decide +kernel
theorem dX2_giveFrom_52 : decode cX2_giveFrom 52 = .ok (.getfield 87, 3) := by decide +kernel
theorem dX2_giveFrom_55 : decode cX2_giveFrom 55 = .ok (.if_icmp .ge 127, 3) := by decide +kernel
theorem dX2_giveFrom_58 : decode cX2_giveFrom 58 = .ok (.aload_n 0, 1) := by decide +kernel
theorem dX2_giveFrom_59 : decode cX2_giveFrom 59 = .ok (.getfield 19, 3) := by decide +kernel
theorem dX2_giveFrom_62 : decode cX2_giveFrom 62 = .ok (.ifCond .ne 120, 3) := by decide +kernel
theorem dX2_giveFrom_65 : decode cX2_giveFrom 65 = .ok (.iload 5, 2) := by decide +kernel
theorem dX2_giveFrom_67 : decode cX2_giveFrom 67 = .ok (.aload_n 0, 1) := by decide +kernel
theorem dX2_giveFrom_68 : decode cX2_giveFrom 68 = .ok (.getfield 48, 3) := by decide +kernel
theorem dX2_giveFrom_71 : decode cX2_giveFrom 71 = .ok (.getfield 90, 3) := by decide +kernel
theorem dX2_giveFrom_74 : decode cX2_giveFrom 74 = .ok (.iload_n 3, 1) := by decide +kernel
theorem dX2_giveFrom_75 : decode cX2_giveFrom 75 = .ok (.iaload, 1) := by decide +kernel
theorem dX2_giveFrom_76 : decode cX2_giveFrom 76 = .ok (.if_icmp .eq 7, 3) := by decide +kernel
theorem dX2_giveFrom_79 : decode cX2_giveFrom 79 = .ok (.iconst 1, 1) := by decide +kernel
theorem dX2_giveFrom_80 : decode cX2_giveFrom 80 = .ok (.goto 4, 3) := by decide +kernel
theorem dX2_giveFrom_83 : decode cX2_giveFrom 83 = .ok (.iconst 0, 1) := by decide +kernel
theorem dX2_giveFrom_84 : decode cX2_giveFrom 84 = .ok (.istore 6, 2) := by decide +kernel
theorem dX2_giveFrom_86 : decode cX2_giveFrom 86 = .ok (.aload_n 0, 1) := by decide +kernel
theorem dX2_giveFrom_87 : decode cX2_giveFrom 87 = .ok (.getfield 44, 3) := by decide +kernel
theorem dX2_giveFrom_90 : decode cX2_giveFrom 90 = .ok (.getfield 93, 3) := by decide +kernel
theorem dX2_giveFrom_93 : decode cX2_giveFrom 93 = .ok (.iload_n 3, 1) := by decide +kernel
theorem dX2_giveFrom_94 : decode cX2_giveFrom 94 = .ok (.iaload, 1) := by decide +kernel
theorem dX2_giveFrom_95 : decode cX2_giveFrom 95 = .ok (.iconst 3, 1) := by decide +kernel
theorem dX2_giveFrom_96 : decode cX2_giveFrom 96 = .ok (.if_icmp .ne 8, 3) := by decide +kernel
theorem dX2_giveFrom_99 : decode cX2_giveFrom 99 = .ok (.iload 6, 2) := by decide +kernel
theorem dX2_giveFrom_101 : decode cX2_giveFrom 101 = .ok (.ifCond .ne 75, 3) := by decide +kernel
theorem dX2_giveFrom_104 : decode cX2_giveFrom 104 = .ok (.aload_n 0, 1) := by decide +kernel
theorem dX2_giveFrom_105 : decode cX2_giveFrom 105 = .ok (.getfield 57, 3) := by decide +kernel
theorem dX2_giveFrom_108 : decode cX2_giveFrom 108 = .ok (.iload_n 3, 1) := by decide +kernel
theorem dX2_giveFrom_109 : decode cX2_giveFrom 109 = .ok (.iload 5, 2) := by decide +kernel
theorem dX2_giveFrom_111 : decode cX2_giveFrom 111 = .ok (.invokevirtual 96, 3) := by decide +kernel
theorem dX2_giveFrom_114 : decode cX2_giveFrom 114 = .ok (.ifCond .ne 6, 3) := by decide +kernel
theorem dX2_giveFrom_117 : decode cX2_giveFrom 117 = .ok (.goto 59, 3) := by decide +kernel
theorem dX2_giveFrom_120 : decode cX2_giveFrom 120 = .ok (.aload_n 0, 1) := by decide +kernel
theorem dX2_giveFrom_121 : decode cX2_giveFrom 121 = .ok (.getfield 57, 3) := by decide +kernel
theorem dX2_giveFrom_124 : decode cX2_giveFrom 124 = .ok (.iload_n 3, 1) := by decide +kernel
theorem dX2_giveFrom_125 : decode cX2_giveFrom 125 = .ok (.iload 5, 2) := by decide +kernel
theorem dX2_giveFrom_127 : decode cX2_giveFrom 127 = .ok (.invokevirtual 100, 3) := by decide +kernel
theorem dX2_giveFrom_130 : decode cX2_giveFrom 130 = .ok (.aload_n 0, 1) := by decide +kernel
theorem dX2_giveFrom_131 : decode cX2_giveFrom 131 = .ok (.invokevirtual 63, 3) := by decide +kernel
theorem dX2_giveFrom_134 : decode cX2_giveFrom 134 = .ok (.ifCond .eq 34, 3) := by decide +kernel
theorem dX2_giveFrom_137 : decode cX2_giveFrom 137 = .ok (.aload_n 0, 1) := by decide +kernel
theorem dX2_giveFrom_138 : decode cX2_giveFrom 138 = .ok (.invokevirtual 103, 3) := by decide +kernel
theorem dX2_giveFrom_141 : decode cX2_giveFrom 141 = .ok (.ifCond .eq 27, 3) := by decide +kernel
theorem dX2_giveFrom_144 : decode cX2_giveFrom 144 = .ok (.aload_n 0, 1) := by decide +kernel
theorem dX2_giveFrom_145 : decode cX2_giveFrom 145 = .ok (.iload_n 3, 1) := by decide +kernel
theorem dX2_giveFrom_146 : decode cX2_giveFrom 146 = .ok (.iconst 1, 1) := by decide +kernel
theorem dX2_giveFrom_147 : decode cX2_giveFrom 147 = .ok (.iadd, 1) := by decide +kernel
theorem dX2_giveFrom_148 : decode cX2_giveFrom 148 = .ok (.iload 4, 2) := by decide +kernel
theorem dX2_giveFrom_150 : decode cX2_giveFrom 150 = .ok (.ifCond .eq 14, 3) := by decide +kernel
theorem dX2_giveFrom_153 : decode cX2_giveFrom 153 = .ok (.iload 6, 2) := by decide +kernel
theorem dX2_giveFrom_155 : decode cX2_giveFrom 155 = .ok (.ifCond .eq 9, 3) := by decide +kernel
theorem dX2_giveFrom_158 : decode cX2_giveFrom 158 = .ok (.iload_n 2, 1) := by decide +kernel
theorem dX2_giveFrom_159 : decode cX2_giveFrom 159 = .ok (.iconst 1, 1) := by decide +kernel
theorem dX2_giveFrom_160 : decode cX2_giveFrom 160 = .ok (.iadd, 1) := by decide +kernel
theorem dX2_giveFrom_161 : decode cX2_giveFrom 161 = .ok (.goto 4, 3) := by decide +kernel
theorem dX2_giveFrom_164 : decode cX2_giveFrom 164 = .ok (.iload_n 2, 1) := by decide +kernel
theorem dX2_giveFrom_165 : decode cX2_giveFrom 165 = .ok (.invokevirtual 67, 3) := by decide +kernel
theorem dX2_giveFrom_168 : decode cX2_giveFrom 168 = .ok (.aload_n 0, 1) := by decide +kernel
theorem dX2_giveFrom_169 : decode cX2_giveFrom 169 = .ok (.getfield 57, 3) := by decide +kernel
theorem dX2_giveFrom_172 : decode cX2_giveFrom 172 = .ok (.iload_n 3, 1) := by decide +kernel
theorem dX2_giveFrom_173 : decode cX2_giveFrom 173 = .ok (.invokevirtual 106, 3) := by decide +kernel
theorem dX2_giveFrom_176 : decode cX2_giveFrom 176 = .ok (.iinc 5 1, 3) := by decide +kernel
theorem dX2_giveFrom_179 : decode cX2_giveFrom 179 = .ok (.goto (-133), 3) := by decide +kernel
theorem dX2_giveFrom_182 : decode cX2_giveFrom 182 = .ok (.return_, 1) := by decide +kernel
theorem dX2_nextWork_0 : decode cX2_nextWork 0 = .ok (.iload_n 1, 1) := by decide +kernel
theorem dX2_nextWork_1 : decode cX2_nextWork 1 = .ok (.istore_n 2, 1) := by decide +kernel
theorem dX2_nextWork_2 : decode cX2_nextWork 2 = .ok (.iload_n 2, 1) := by decide +kernel
theorem dX2_nextWork_3 : decode cX2_nextWork 3 = .ok (.aload_n 0, 1) := by decide +kernel
theorem dX2_nextWork_4 : decode cX2_nextWork 4 = .ok (.getfield 44, 3) := by decide +kernel
theorem dX2_nextWork_7 : decode cX2_nextWork 7 = .ok (.getfield 75, 3) := by decide +kernel
theorem dX2_nextWork_10 : decode cX2_nextWork 10 = .ok (.if_icmp .ge 37, 3) := by decide +kernel
theorem dX2_nextWork_13 : decode cX2_nextWork 13 = .ok (.aload_n 0, 1) := by decide +kernel
theorem dX2_nextWork_14 : decode cX2_nextWork 14 = .ok (.getfield 48, 3) := by decide +kernel
theorem dX2_nextWork_17 : decode cX2_nextWork 17 = .ok (.getfield 90, 3) := by decide +kernel
theorem dX2_nextWork_20 : decode cX2_nextWork 20 = .ok (.iload_n 2, 1) := by decide +kernel
theorem dX2_nextWork_21 : decode cX2_nextWork 21 = .ok (.iaload, 1) := by decide +kernel
theorem dX2_nextWork_22 : decode cX2_nextWork 22 = .ok (.iconst (-1), 1) := by decide +kernel
theorem dX2_nextWork_23 : decode cX2_nextWork 23 = .ok (.if_icmp .eq 18, 3) := by decide +kernel
theorem dX2_nextWork_26 : decode cX2_nextWork 26 = .ok (.aload_n 0, 1) := by decide +kernel
theorem dX2_nextWork_27 : decode cX2_nextWork 27 = .ok (.getfield 44, 3) := by decide +kernel
theorem dX2_nextWork_30 : decode cX2_nextWork 30 = .ok (.iload_n 2, 1) := by decide +kernel
theorem dX2_nextWork_31 : decode cX2_nextWork 31 = .ok (.aload_n 0, 1) := by decide +kernel
theorem dX2_nextWork_32 : decode cX2_nextWork 32 = .ok (.getfield 41, 3) := by decide +kernel
theorem dX2_nextWork_35 : decode cX2_nextWork 35 = .ok (.invokevirtual 109, 3) := by decide +kernel
theorem dX2_nextWork_38 : decode cX2_nextWork 38 = .ok (.ifCond .eq 9, 3) := by decide +kernel
theorem dX2_nextWork_41 : decode cX2_nextWork 41 = .ok (.iinc 2 1, 3) := by decide +kernel
theorem dX2_nextWork_44 : decode cX2_nextWork 44 = .ok (.goto (-42), 3) := by decide +kernel
theorem dX2_nextWork_47 : decode cX2_nextWork 47 = .ok (.iload_n 2, 1) := by decide +kernel
theorem dX2_nextWork_48 : decode cX2_nextWork 48 = .ok (.ireturn, 1) := by decide +kernel
theorem dX2_countTry_0 : decode cX2_countTry 0 = .ok (.aload_n 0, 1) := by decide +kernel
theorem dX2_countTry_1 : decode cX2_countTry 1 = .ok (.getfield 15, 3) := by decide +kernel
theorem dX2_countTry_4 : decode cX2_countTry 4 = .ok (.ldc 112, 2) := by decide +kernel
theorem dX2_countTry_6 : decode cX2_countTry 6 = .ok (.if_icmp .lt 10, 3) := by decide +kernel
theorem dX2_countTry_9 : decode cX2_countTry 9 = .ok (.aload_n 0, 1) := by decide +kernel
theorem dX2_countTry_10 : decode cX2_countTry 10 = .ok (.iconst 1, 1) := by decide +kernel
theorem dX2_countTry_11 : decode cX2_countTry 11 = .ok (.putfield 19, 3) := by decide +kernel
theorem dX2_countTry_14 : decode cX2_countTry 14 = .ok (.iconst 0, 1) := by decide +kernel
theorem dX2_countTry_15 : decode cX2_countTry 15 = .ok (.ireturn, 1) := by decide +kernel
theorem dX2_countTry_16 : decode cX2_countTry 16 = .ok (.aload_n 0, 1) := by decide +kernel
theorem dX2_countTry_17 : decode cX2_countTry 17 = .ok (.dup, 1) := by decide +kernel
theorem dX2_countTry_18 : decode cX2_countTry 18 = .ok (.getfield 15, 3) := by decide +kernel
theorem dX2_countTry_21 : decode cX2_countTry 21 = .ok (.iconst 1, 1) := by decide +kernel
theorem dX2_countTry_22 : decode cX2_countTry 22 = .ok (.iadd, 1) := by decide +kernel
theorem dX2_countTry_23 : decode cX2_countTry 23 = .ok (.putfield 15, 3) := by decide +kernel
theorem dX2_countTry_26 : decode cX2_countTry 26 = .ok (.iconst 1, 1) := by decide +kernel
theorem dX2_countTry_27 : decode cX2_countTry 27 = .ok (.ireturn, 1) := by decide +kernel
theorem dX2_goalHolds_0 : decode cX2_goalHolds 0 = .ok (.aload_n 0, 1) := by decide +kernel
theorem dX2_goalHolds_1 : decode cX2_goalHolds 1 = .ok (.getfield 29, 3) := by decide +kernel
theorem dX2_goalHolds_4 : decode cX2_goalHolds 4 = .ok (.tableswitch 111 0 2 #[28, 49, 91], 28) := by decide +kernel
theorem dX2_goalHolds_32 : decode cX2_goalHolds 32 = .ok (.aload_n 0, 1) := by decide +kernel
theorem dX2_goalHolds_33 : decode cX2_goalHolds 33 = .ok (.getfield 57, 3) := by decide +kernel
theorem dX2_goalHolds_36 : decode cX2_goalHolds 36 = .ok (.getfield 113, 3) := by decide +kernel
theorem dX2_goalHolds_39 : decode cX2_goalHolds 39 = .ok (.aload_n 0, 1) := by decide +kernel
theorem dX2_goalHolds_40 : decode cX2_goalHolds 40 = .ok (.getfield 32, 3) := by decide +kernel
theorem dX2_goalHolds_43 : decode cX2_goalHolds 43 = .ok (.iaload, 1) := by decide +kernel
theorem dX2_goalHolds_44 : decode cX2_goalHolds 44 = .ok (.ifCond .ne 7, 3) := by decide +kernel
theorem dX2_goalHolds_47 : decode cX2_goalHolds 47 = .ok (.iconst 1, 1) := by decide +kernel
theorem dX2_goalHolds_48 : decode cX2_goalHolds 48 = .ok (.goto 4, 3) := by decide +kernel
theorem dX2_goalHolds_51 : decode cX2_goalHolds 51 = .ok (.iconst 0, 1) := by decide +kernel
theorem dX2_goalHolds_52 : decode cX2_goalHolds 52 = .ok (.ireturn, 1) := by decide +kernel
theorem dX2_goalHolds_53 : decode cX2_goalHolds 53 = .ok (.aload_n 0, 1) := by decide +kernel
theorem dX2_goalHolds_54 : decode cX2_goalHolds 54 = .ok (.getfield 57, 3) := by decide +kernel
theorem dX2_goalHolds_57 : decode cX2_goalHolds 57 = .ok (.aload_n 0, 1) := by decide +kernel
theorem dX2_goalHolds_58 : decode cX2_goalHolds 58 = .ok (.getfield 32, 3) := by decide +kernel
theorem dX2_goalHolds_61 : decode cX2_goalHolds 61 = .ok (.invokevirtual 116, 3) := by decide +kernel
theorem dX2_goalHolds_64 : decode cX2_goalHolds 64 = .ok (.aload_n 0, 1) := by decide +kernel
theorem dX2_goalHolds_65 : decode cX2_goalHolds 65 = .ok (.getfield 35, 3) := by decide +kernel
theorem dX2_goalHolds_68 : decode cX2_goalHolds 68 = .ok (.if_icmp .lt 25, 3) := by decide +kernel
theorem dX2_goalHolds_71 : decode cX2_goalHolds 71 = .ok (.aload_n 0, 1) := by decide +kernel
theorem dX2_goalHolds_72 : decode cX2_goalHolds 72 = .ok (.getfield 57, 3) := by decide +kernel
theorem dX2_goalHolds_75 : decode cX2_goalHolds 75 = .ok (.aload_n 0, 1) := by decide +kernel
theorem dX2_goalHolds_76 : decode cX2_goalHolds 76 = .ok (.getfield 32, 3) := by decide +kernel
theorem dX2_goalHolds_79 : decode cX2_goalHolds 79 = .ok (.invokevirtual 119, 3) := by decide +kernel
theorem dX2_goalHolds_82 : decode cX2_goalHolds 82 = .ok (.aload_n 0, 1) := by decide +kernel
theorem dX2_goalHolds_83 : decode cX2_goalHolds 83 = .ok (.getfield 38, 3) := by decide +kernel
theorem dX2_goalHolds_86 : decode cX2_goalHolds 86 = .ok (.if_icmp .lt 7, 3) := by decide +kernel
theorem dX2_goalHolds_89 : decode cX2_goalHolds 89 = .ok (.iconst 1, 1) := by decide +kernel
theorem dX2_goalHolds_90 : decode cX2_goalHolds 90 = .ok (.goto 4, 3) := by decide +kernel
theorem dX2_goalHolds_93 : decode cX2_goalHolds 93 = .ok (.iconst 0, 1) := by decide +kernel
theorem dX2_goalHolds_94 : decode cX2_goalHolds 94 = .ok (.ireturn, 1) := by decide +kernel
theorem dX2_goalHolds_95 : decode cX2_goalHolds 95 = .ok (.aload_n 0, 1) := by decide +kernel
theorem dX2_goalHolds_96 : decode cX2_goalHolds 96 = .ok (.getfield 57, 3) := by decide +kernel
theorem dX2_goalHolds_99 : decode cX2_goalHolds 99 = .ok (.getfield 122, 3) := by decide +kernel
theorem dX2_goalHolds_102 : decode cX2_goalHolds 102 = .ok (.aload_n 0, 1) := by decide +kernel
theorem dX2_goalHolds_103 : decode cX2_goalHolds 103 = .ok (.getfield 35, 3) := by decide +kernel
theorem dX2_goalHolds_106 : decode cX2_goalHolds 106 = .ok (.if_icmp .gt 7, 3) := by decide +kernel
theorem dX2_goalHolds_109 : decode cX2_goalHolds 109 = .ok (.iconst 1, 1) := by decide +kernel
theorem dX2_goalHolds_110 : decode cX2_goalHolds 110 = .ok (.goto 4, 3) := by decide +kernel
theorem dX2_goalHolds_113 : decode cX2_goalHolds 113 = .ok (.iconst 0, 1) := by decide +kernel
theorem dX2_goalHolds_114 : decode cX2_goalHolds 114 = .ok (.ireturn, 1) := by decide +kernel
theorem dX2_goalHolds_115 : decode cX2_goalHolds 115 = .ok (.iconst 1, 1) := by decide +kernel
theorem dX2_goalHolds_116 : decode cX2_goalHolds 116 = .ok (.ireturn, 1) := by decide +kernel
theorem dX2_keep_0 : decode cX2_keep 0 = .ok (.aload_n 0, 1) := by decide +kernel
theorem dX2_keep_1 : decode cX2_keep 1 = .ok (.getfield 23, 3) := by decide +kernel
theorem dX2_keep_4 : decode cX2_keep 4 = .ok (.iconst (-1), 1) := by decide +kernel
theorem dX2_keep_5 : decode cX2_keep 5 = .ok (.if_icmp .eq 11, 3) := by decide +kernel
theorem dX2_keep_8 : decode cX2_keep 8 = .ok (.iload_n 1, 1) := by decide +kernel
theorem dX2_keep_9 : decode cX2_keep 9 = .ok (.aload_n 0, 1) := by decide +kernel
theorem dX2_keep_10 : decode cX2_keep 10 = .ok (.getfield 23, 3) := by decide +kernel
theorem dX2_keep_13 : decode cX2_keep 13 = .ok (.if_icmp .ge 26, 3) := by decide +kernel
theorem dX2_keep_16 : decode cX2_keep 16 = .ok (.aload_n 0, 1) := by decide +kernel
theorem dX2_keep_17 : decode cX2_keep 17 = .ok (.iload_n 1, 1) := by decide +kernel
theorem dX2_keep_18 : decode cX2_keep 18 = .ok (.putfield 23, 3) := by decide +kernel
theorem dX2_keep_21 : decode cX2_keep 21 = .ok (.aload_n 0, 1) := by decide +kernel
theorem dX2_keep_22 : decode cX2_keep 22 = .ok (.getfield 57, 3) := by decide +kernel
theorem dX2_keep_25 : decode cX2_keep 25 = .ok (.getfield 90, 3) := by decide +kernel
theorem dX2_keep_28 : decode cX2_keep 28 = .ok (.iconst 0, 1) := by decide +kernel
theorem dX2_keep_29 : decode cX2_keep 29 = .ok (.aload_n 0, 1) := by decide +kernel
theorem dX2_keep_30 : decode cX2_keep 30 = .ok (.getfield 9, 3) := by decide +kernel
theorem dX2_keep_33 : decode cX2_keep 33 = .ok (.iconst 0, 1) := by decide +kernel
theorem dX2_keep_34 : decode cX2_keep 34 = .ok (.bipush 8, 2) := by decide +kernel
theorem dX2_keep_36 : decode cX2_keep 36 = .ok (.invokestatic 125, 3) := by decide +kernel
theorem dX2_keep_39 : decode cX2_keep 39 = .ok (.aload_n 0, 1) := by decide +kernel
theorem dX2_keep_40 : decode cX2_keep 40 = .ok (.getfield 26, 3) := by decide +kernel
theorem dX2_keep_43 : decode cX2_keep 43 = .ok (.iconst (-1), 1) := by decide +kernel
theorem dX2_keep_44 : decode cX2_keep 44 = .ok (.if_icmp .eq 17, 3) := by decide +kernel
theorem dX2_keep_47 : decode cX2_keep 47 = .ok (.aload_n 0, 1) := by decide +kernel
theorem dX2_keep_48 : decode cX2_keep 48 = .ok (.getfield 57, 3) := by decide +kernel
theorem dX2_keep_51 : decode cX2_keep 51 = .ok (.getfield 122, 3) := by decide +kernel
theorem dX2_keep_54 : decode cX2_keep 54 = .ok (.aload_n 0, 1) := by decide +kernel
theorem dX2_keep_55 : decode cX2_keep 55 = .ok (.getfield 26, 3) := by decide +kernel
theorem dX2_keep_58 : decode cX2_keep 58 = .ok (.if_icmp .ge 14, 3) := by decide +kernel
theorem dX2_keep_61 : decode cX2_keep 61 = .ok (.aload_n 0, 1) := by decide +kernel
theorem dX2_keep_62 : decode cX2_keep 62 = .ok (.aload_n 0, 1) := by decide +kernel
theorem dX2_keep_63 : decode cX2_keep 63 = .ok (.getfield 57, 3) := by decide +kernel
theorem dX2_keep_66 : decode cX2_keep 66 = .ok (.getfield 122, 3) := by decide +kernel
theorem dX2_keep_69 : decode cX2_keep 69 = .ok (.putfield 26, 3) := by decide +kernel
theorem dX2_keep_72 : decode cX2_keep 72 = .ok (.return_, 1) := by decide +kernel
theorem dX3_init_0 : decode cX3_init 0 = .ok (.aload_n 0, 1) := by decide +kernel
theorem dX3_init_1 : decode cX3_init 1 = .ok (.invokespecial 3, 3) := by decide +kernel
theorem dX3_init_4 : decode cX3_init 4 = .ok (.aload_n 0, 1) := by decide +kernel
theorem dX3_init_5 : decode cX3_init 5 = .ok (.iconst 0, 1) := by decide +kernel
theorem dX3_init_6 : decode cX3_init 6 = .ok (.putfield 9, 3) := by decide +kernel
theorem dX3_init_9 : decode cX3_init 9 = .ok (.aload_n 0, 1) := by decide +kernel
theorem dX3_init_10 : decode cX3_init 10 = .ok (.iconst 0, 1) := by decide +kernel
theorem dX3_init_11 : decode cX3_init 11 = .ok (.putfield 15, 3) := by decide +kernel
theorem dX3_init_14 : decode cX3_init 14 = .ok (.aload_n 0, 1) := by decide +kernel
theorem dX3_init_15 : decode cX3_init 15 = .ok (.iconst 5, 1) := by decide +kernel
theorem dX3_init_16 : decode cX3_init 16 = .ok (.newarray .int, 2) := by decide +kernel
theorem dX3_init_18 : decode cX3_init 18 = .ok (.putfield 18, 3) := by decide +kernel
theorem dX3_init_21 : decode cX3_init 21 = .ok (.aload_n 0, 1) := by decide +kernel
theorem dX3_init_22 : decode cX3_init 22 = .ok (.iconst 5, 1) := by decide +kernel
theorem dX3_init_23 : decode cX3_init 23 = .ok (.newarray .int, 2) := by decide +kernel
theorem dX3_init_25 : decode cX3_init 25 = .ok (.putfield 22, 3) := by decide +kernel
theorem dX3_init_28 : decode cX3_init 28 = .ok (.aload_n 0, 1) := by decide +kernel
theorem dX3_init_29 : decode cX3_init 29 = .ok (.bipush 9, 2) := by decide +kernel
theorem dX3_init_31 : decode cX3_init 31 = .ok (.newarray .int, 2) := by decide +kernel
theorem dX3_init_33 : decode cX3_init 33 = .ok (.putfield 25, 3) := by decide +kernel
theorem dX3_init_36 : decode cX3_init 36 = .ok (.aload_n 0, 1) := by decide +kernel
theorem dX3_init_37 : decode cX3_init 37 = .ok (.bipush 9, 2) := by decide +kernel
theorem dX3_init_39 : decode cX3_init 39 = .ok (.newarray .int, 2) := by decide +kernel
theorem dX3_init_41 : decode cX3_init 41 = .ok (.putfield 28, 3) := by decide +kernel
theorem dX3_init_44 : decode cX3_init 44 = .ok (.aload_n 0, 1) := by decide +kernel
theorem dX3_init_45 : decode cX3_init 45 = .ok (.bipush 9, 2) := by decide +kernel
theorem dX3_init_47 : decode cX3_init 47 = .ok (.newarray .int, 2) := by decide +kernel
theorem dX3_init_49 : decode cX3_init 49 = .ok (.putfield 31, 3) := by decide +kernel
theorem dX3_init_52 : decode cX3_init 52 = .ok (.aload_n 0, 1) := by decide +kernel
theorem dX3_init_53 : decode cX3_init 53 = .ok (.bipush 9, 2) := by decide +kernel
theorem dX3_init_55 : decode cX3_init 55 = .ok (.newarray .int, 2) := by decide +kernel
theorem dX3_init_57 : decode cX3_init 57 = .ok (.putfield 34, 3) := by decide +kernel
theorem dX3_init_60 : decode cX3_init 60 = .ok (.aload_n 0, 1) := by decide +kernel
theorem dX3_init_61 : decode cX3_init 61 = .ok (.bipush 9, 2) := by decide +kernel
theorem dX3_init_63 : decode cX3_init 63 = .ok (.newarray .int, 2) := by decide +kernel
theorem dX3_init_65 : decode cX3_init 65 = .ok (.putfield 37, 3) := by decide +kernel
theorem dX3_init_68 : decode cX3_init 68 = .ok (.aload_n 0, 1) := by decide +kernel
theorem dX3_init_69 : decode cX3_init 69 = .ok (.bipush 9, 2) := by decide +kernel
theorem dX3_init_71 : decode cX3_init 71 = .ok (.newarray .int, 2) := by decide +kernel
theorem dX3_init_73 : decode cX3_init 73 = .ok (.putfield 40, 3) := by decide +kernel
theorem dX3_init_76 : decode cX3_init 76 = .ok (.aload_n 0, 1) := by decide +kernel
theorem dX3_init_77 : decode cX3_init 77 = .ok (.bipush 9, 2) := by decide +kernel
theorem dX3_init_79 : decode cX3_init 79 = .ok (.newarray .int, 2) := by decide +kernel
theorem dX3_init_81 : decode cX3_init 81 = .ok (.putfield 43, 3) := by decide +kernel
theorem dX3_init_84 : decode cX3_init 84 = .ok (.aload_n 0, 1) := by decide +kernel
theorem dX3_init_85 : decode cX3_init 85 = .ok (.bipush 9, 2) := by decide +kernel
theorem dX3_init_87 : decode cX3_init 87 = .ok (.newarray .int, 2) := by decide +kernel
theorem dX3_init_89 : decode cX3_init 89 = .ok (.putfield 46, 3) := by decide +kernel
theorem dX3_init_92 : decode cX3_init 92 = .ok (.aload_n 0, 1) := by decide +kernel
theorem dX3_init_93 : decode cX3_init 93 = .ok (.bipush 9, 2) := by decide +kernel
theorem dX3_init_95 : decode cX3_init 95 = .ok (.newarray .int, 2) := by decide +kernel
theorem dX3_init_97 : decode cX3_init 97 = .ok (.putfield 49, 3) := by decide +kernel
theorem dX3_init_100 : decode cX3_init 100 = .ok (.return_, 1) := by decide +kernel
theorem dX3_hasMachine_0 : decode cX3_hasMachine 0 = .ok (.iload_n 1, 1) := by decide +kernel
theorem dX3_hasMachine_1 : decode cX3_hasMachine 1 = .ok (.ifCond .lt 15, 3) := by decide +kernel
theorem dX3_hasMachine_4 : decode cX3_hasMachine 4 = .ok (.iload_n 1, 1) := by decide +kernel
theorem dX3_hasMachine_5 : decode cX3_hasMachine 5 = .ok (.aload_n 0, 1) := by decide +kernel
theorem dX3_hasMachine_6 : decode cX3_hasMachine 6 = .ok (.getfield 9, 3) := by decide +kernel
theorem dX3_hasMachine_9 : decode cX3_hasMachine 9 = .ok (.if_icmp .ge 7, 3) := by decide +kernel
theorem dX3_hasMachine_12 : decode cX3_hasMachine 12 = .ok (.iconst 1, 1) := by decide +kernel
theorem dX3_hasMachine_13 : decode cX3_hasMachine 13 = .ok (.goto 4, 3) := by decide +kernel
theorem dX3_hasMachine_16 : decode cX3_hasMachine 16 = .ok (.iconst 0, 1) := by decide +kernel
theorem dX3_hasMachine_17 : decode cX3_hasMachine 17 = .ok (.ireturn, 1) := by decide +kernel
theorem dX3_hasWork_0 : decode cX3_hasWork 0 = .ok (.iload_n 1, 1) := by decide +kernel
theorem dX3_hasWork_1 : decode cX3_hasWork 1 = .ok (.ifCond .lt 15, 3) := by decide +kernel
theorem dX3_hasWork_4 : decode cX3_hasWork 4 = .ok (.iload_n 1, 1) := by decide +kernel
theorem dX3_hasWork_5 : decode cX3_hasWork 5 = .ok (.aload_n 0, 1) := by decide +kernel
theorem dX3_hasWork_6 : decode cX3_hasWork 6 = .ok (.getfield 15, 3) := by decide +kernel
theorem dX3_hasWork_9 : decode cX3_hasWork 9 = .ok (.if_icmp .ge 7, 3) := by decide +kernel
theorem dX3_hasWork_12 : decode cX3_hasWork 12 = .ok (.iconst 1, 1) := by decide +kernel
theorem dX3_hasWork_13 : decode cX3_hasWork 13 = .ok (.goto 4, 3) := by decide +kernel
theorem dX3_hasWork_16 : decode cX3_hasWork 16 = .ok (.iconst 0, 1) := by decide +kernel
theorem dX3_hasWork_17 : decode cX3_hasWork 17 = .ok (.ireturn, 1) := by decide +kernel
theorem dX3_addMachine_0 : decode cX3_addMachine 0 = .ok (.aload_n 0, 1) := by decide +kernel
theorem dX3_addMachine_1 : decode cX3_addMachine 1 = .ok (.getfield 9, 3) := by decide +kernel
theorem dX3_addMachine_4 : decode cX3_addMachine 4 = .ok (.istore_n 3, 1) := by decide +kernel
theorem dX3_addMachine_5 : decode cX3_addMachine 5 = .ok (.aload_n 0, 1) := by decide +kernel
theorem dX3_addMachine_6 : decode cX3_addMachine 6 = .ok (.getfield 18, 3) := by decide +kernel
theorem dX3_addMachine_9 : decode cX3_addMachine 9 = .ok (.iload_n 3, 1) := by decide +kernel
theorem dX3_addMachine_10 : decode cX3_addMachine 10 = .ok (.iload_n 1, 1) := by decide +kernel
theorem dX3_addMachine_11 : decode cX3_addMachine 11 = .ok (.iastore, 1) := by decide +kernel
theorem dX3_addMachine_12 : decode cX3_addMachine 12 = .ok (.aload_n 0, 1) := by decide +kernel
theorem dX3_addMachine_13 : decode cX3_addMachine 13 = .ok (.getfield 22, 3) := by decide +kernel
theorem dX3_addMachine_16 : decode cX3_addMachine 16 = .ok (.iload_n 3, 1) := by decide +kernel
theorem dX3_addMachine_17 : decode cX3_addMachine 17 = .ok (.iload_n 2, 1) := by decide +kernel
theorem dX3_addMachine_18 : decode cX3_addMachine 18 = .ok (.iastore, 1) := by decide +kernel
theorem dX3_addMachine_19 : decode cX3_addMachine 19 = .ok (.aload_n 0, 1) := by decide +kernel
theorem dX3_addMachine_20 : decode cX3_addMachine 20 = .ok (.dup, 1) := by decide +kernel
theorem dX3_addMachine_21 : decode cX3_addMachine 21 = .ok (.getfield 9, 3) := by decide +kernel
theorem dX3_addMachine_24 : decode cX3_addMachine 24 = .ok (.iconst 1, 1) := by decide +kernel
theorem dX3_addMachine_25 : decode cX3_addMachine 25 = .ok (.iadd, 1) := by decide +kernel
theorem dX3_addMachine_26 : decode cX3_addMachine 26 = .ok (.putfield 9, 3) := by decide +kernel
theorem dX3_addMachine_29 : decode cX3_addMachine 29 = .ok (.iload_n 3, 1) := by decide +kernel
theorem dX3_addMachine_30 : decode cX3_addMachine 30 = .ok (.ireturn, 1) := by decide +kernel
theorem dX3_describeNewcomer_0 : decode cX3_describeNewcomer 0 = .ok (.aload_n 0, 1) := by decide +kernel
theorem dX3_describeNewcomer_1 : decode cX3_describeNewcomer 1 = .ok (.getfield 15, 3) := by decide +kernel
theorem dX3_describeNewcomer_4 : decode cX3_describeNewcomer 4 = .ok (.istore 5, 2) := by decide +kernel
theorem dX3_describeNewcomer_6 : decode cX3_describeNewcomer 6 = .ok (.aload_n 0, 1) := by decide +kernel
theorem dX3_describeNewcomer_7 : decode cX3_describeNewcomer 7 = .ok (.getfield 25, 3) := by decide +kernel
theorem dX3_describeNewcomer_10 : decode cX3_describeNewcomer 10 = .ok (.iload 5, 2) := by decide +kernel
theorem dX3_describeNewcomer_12 : decode cX3_describeNewcomer 12 = .ok (.iload_n 1, 1) := by decide +kernel
theorem dX3_describeNewcomer_13 : decode cX3_describeNewcomer 13 = .ok (.iastore, 1) := by decide +kernel
theorem dX3_describeNewcomer_14 : decode cX3_describeNewcomer 14 = .ok (.aload_n 0, 1) := by decide +kernel
theorem dX3_describeNewcomer_15 : decode cX3_describeNewcomer 15 = .ok (.getfield 28, 3) := by decide +kernel
theorem dX3_describeNewcomer_18 : decode cX3_describeNewcomer 18 = .ok (.iload 5, 2) := by decide +kernel
theorem dX3_describeNewcomer_20 : decode cX3_describeNewcomer 20 = .ok (.iload_n 2, 1) := by decide +kernel
theorem dX3_describeNewcomer_21 : decode cX3_describeNewcomer 21 = .ok (.iastore, 1) := by decide +kernel
theorem dX3_describeNewcomer_22 : decode cX3_describeNewcomer 22 = .ok (.aload_n 0, 1) := by decide +kernel
theorem dX3_describeNewcomer_23 : decode cX3_describeNewcomer 23 = .ok (.getfield 31, 3) := by decide +kernel
theorem dX3_describeNewcomer_26 : decode cX3_describeNewcomer 26 = .ok (.iload 5, 2) := by decide +kernel
theorem dX3_describeNewcomer_28 : decode cX3_describeNewcomer 28 = .ok (.iload_n 3, 1) := by decide +kernel
theorem dX3_describeNewcomer_29 : decode cX3_describeNewcomer 29 = .ok (.iastore, 1) := by decide +kernel
theorem dX3_describeNewcomer_30 : decode cX3_describeNewcomer 30 = .ok (.aload_n 0, 1) := by decide +kernel
theorem dX3_describeNewcomer_31 : decode cX3_describeNewcomer 31 = .ok (.getfield 34, 3) := by decide +kernel
theorem dX3_describeNewcomer_34 : decode cX3_describeNewcomer 34 = .ok (.iload 5, 2) := by decide +kernel
theorem dX3_describeNewcomer_36 : decode cX3_describeNewcomer 36 = .ok (.iload_n 3, 1) := by decide +kernel
theorem dX3_describeNewcomer_37 : decode cX3_describeNewcomer 37 = .ok (.iconst 2, 1) := by decide +kernel
theorem dX3_describeNewcomer_38 : decode cX3_describeNewcomer 38 = .ok (.if_icmp .ne 8, 3) := by decide +kernel
theorem dX3_describeNewcomer_41 : decode cX3_describeNewcomer 41 = .ok (.iload 4, 2) := by decide +kernel
theorem dX3_describeNewcomer_43 : decode cX3_describeNewcomer 43 = .ok (.goto 4, 3) := by decide +kernel
theorem dX3_describeNewcomer_46 : decode cX3_describeNewcomer 46 = .ok (.iconst (-1), 1) := by decide +kernel
theorem dX3_describeNewcomer_47 : decode cX3_describeNewcomer 47 = .ok (.iastore, 1) := by decide +kernel
theorem dX3_describeNewcomer_48 : decode cX3_describeNewcomer 48 = .ok (.aload_n 0, 1) := by decide +kernel
theorem dX3_describeNewcomer_49 : decode cX3_describeNewcomer 49 = .ok (.getfield 37, 3) := by decide +kernel
theorem dX3_describeNewcomer_52 : decode cX3_describeNewcomer 52 = .ok (.iload 5, 2) := by decide +kernel
theorem dX3_describeNewcomer_54 : decode cX3_describeNewcomer 54 = .ok (.iload_n 3, 1) := by decide +kernel
theorem dX3_describeNewcomer_55 : decode cX3_describeNewcomer 55 = .ok (.iconst 1, 1) := by decide +kernel
theorem dX3_describeNewcomer_56 : decode cX3_describeNewcomer 56 = .ok (.if_icmp .ne 10, 3) := by decide +kernel
theorem dX3_describeNewcomer_59 : decode cX3_describeNewcomer 59 = .ok (.iconst 1, 1) := by decide +kernel
theorem dX3_describeNewcomer_60 : decode cX3_describeNewcomer 60 = .ok (.iload 4, 2) := by decide +kernel
theorem dX3_describeNewcomer_62 : decode cX3_describeNewcomer 62 = .ok (.ishl, 1) := by decide +kernel
theorem dX3_describeNewcomer_63 : decode cX3_describeNewcomer 63 = .ok (.goto 4, 3) := by decide +kernel
theorem dX3_describeNewcomer_66 : decode cX3_describeNewcomer 66 = .ok (.iconst 0, 1) := by decide +kernel
theorem dX3_describeNewcomer_67 : decode cX3_describeNewcomer 67 = .ok (.iastore, 1) := by decide +kernel
theorem dX3_describeNewcomer_68 : decode cX3_describeNewcomer 68 = .ok (.aload_n 0, 1) := by decide +kernel
theorem dX3_describeNewcomer_69 : decode cX3_describeNewcomer 69 = .ok (.getfield 40, 3) := by decide +kernel
theorem dX3_describeNewcomer_72 : decode cX3_describeNewcomer 72 = .ok (.iload 5, 2) := by decide +kernel
theorem dX3_describeNewcomer_74 : decode cX3_describeNewcomer 74 = .ok (.iload_n 3, 1) := by decide +kernel
theorem dX3_describeNewcomer_75 : decode cX3_describeNewcomer 75 = .ok (.iconst 4, 1) := by decide +kernel
theorem dX3_describeNewcomer_76 : decode cX3_describeNewcomer 76 = .ok (.if_icmp .ne 8, 3) := by decide +kernel
theorem dX3_describeNewcomer_79 : decode cX3_describeNewcomer 79 = .ok (.iload 4, 2) := by decide +kernel
theorem dX3_describeNewcomer_81 : decode cX3_describeNewcomer 81 = .ok (.goto 4, 3) := by decide +kernel
theorem dX3_describeNewcomer_84 : decode cX3_describeNewcomer 84 = .ok (.iconst (-1), 1) := by decide +kernel
theorem dX3_describeNewcomer_85 : decode cX3_describeNewcomer 85 = .ok (.iastore, 1) := by decide +kernel
theorem dX3_describeNewcomer_86 : decode cX3_describeNewcomer 86 = .ok (.aload_n 0, 1) := by decide +kernel
theorem dX3_describeNewcomer_87 : decode cX3_describeNewcomer 87 = .ok (.getfield 43, 3) := by decide +kernel
theorem dX3_describeNewcomer_90 : decode cX3_describeNewcomer 90 = .ok (.iload 5, 2) := by decide +kernel
theorem dX3_describeNewcomer_92 : decode cX3_describeNewcomer 92 = .ok (.iload_n 3, 1) := by decide +kernel
theorem dX3_describeNewcomer_93 : decode cX3_describeNewcomer 93 = .ok (.iconst 2, 1) := by decide +kernel
theorem dX3_describeNewcomer_94 : decode cX3_describeNewcomer 94 = .ok (.if_icmp .ne 14, 3) := by decide +kernel
theorem dX3_describeNewcomer_97 : decode cX3_describeNewcomer 97 = .ok (.aload_n 0, 1) := by decide +kernel
theorem dX3_describeNewcomer_98 : decode cX3_describeNewcomer 98 = .ok (.iload 4, 2) := by decide +kernel
theorem dX3_describeNewcomer_100 : decode cX3_describeNewcomer 100 = .ok (.iload 5, 2) := by decide +kernel
theorem dX3_describeNewcomer_102 : decode cX3_describeNewcomer 102 = .ok (.invokevirtual 52, 3) := by decide +kernel
theorem dX3_describeNewcomer_105 : decode cX3_describeNewcomer 105 = .ok (.goto 5, 3) := by decide +kernel
theorem dX3_describeNewcomer_108 : decode cX3_describeNewcomer 108 = .ok (.iload 5, 2) := by decide +kernel
theorem dX3_describeNewcomer_110 : decode cX3_describeNewcomer 110 = .ok (.iastore, 1) := by decide +kernel
theorem dX3_describeNewcomer_111 : decode cX3_describeNewcomer 111 = .ok (.iload 5, 2) := by decide +kernel
theorem dX3_describeNewcomer_113 : decode cX3_describeNewcomer 113 = .ok (.ireturn, 1) := by decide +kernel
theorem dX3_addNewcomer_0 : decode cX3_addNewcomer 0 = .ok (.aload_n 0, 1) := by decide +kernel
theorem dX3_addNewcomer_1 : decode cX3_addNewcomer 1 = .ok (.getfield 15, 3) := by decide +kernel
theorem dX3_addNewcomer_4 : decode cX3_addNewcomer 4 = .ok (.istore_n 1, 1) := by decide +kernel
theorem dX3_addNewcomer_5 : decode cX3_addNewcomer 5 = .ok (.aload_n 0, 1) := by decide +kernel
theorem dX3_addNewcomer_6 : decode cX3_addNewcomer 6 = .ok (.getfield 43, 3) := by decide +kernel
theorem dX3_addNewcomer_9 : decode cX3_addNewcomer 9 = .ok (.iload_n 1, 1) := by decide +kernel
theorem dX3_addNewcomer_10 : decode cX3_addNewcomer 10 = .ok (.iaload, 1) := by decide +kernel
theorem dX3_addNewcomer_11 : decode cX3_addNewcomer 11 = .ok (.istore_n 2, 1) := by decide +kernel
theorem dX3_addNewcomer_12 : decode cX3_addNewcomer 12 = .ok (.aload_n 0, 1) := by decide +kernel
theorem dX3_addNewcomer_13 : decode cX3_addNewcomer 13 = .ok (.getfield 46, 3) := by decide +kernel
theorem dX3_addNewcomer_16 : decode cX3_addNewcomer 16 = .ok (.iload_n 2, 1) := by decide +kernel
theorem dX3_addNewcomer_17 : decode cX3_addNewcomer 17 = .ok (.dup2, 1) := by decide +kernel
theorem dX3_addNewcomer_18 : decode cX3_addNewcomer 18 = .ok (.iaload, 1) := by decide +kernel
theorem dX3_addNewcomer_19 : decode cX3_addNewcomer 19 = .ok (.aload_n 0, 1) := by decide +kernel
theorem dX3_addNewcomer_20 : decode cX3_addNewcomer 20 = .ok (.getfield 25, 3) := by decide +kernel
theorem dX3_addNewcomer_23 : decode cX3_addNewcomer 23 = .ok (.iload_n 1, 1) := by decide +kernel
theorem dX3_addNewcomer_24 : decode cX3_addNewcomer 24 = .ok (.iaload, 1) := by decide +kernel
theorem dX3_addNewcomer_25 : decode cX3_addNewcomer 25 = .ok (.iadd, 1) := by decide +kernel
theorem dX3_addNewcomer_26 : decode cX3_addNewcomer 26 = .ok (.iastore, 1) := by decide +kernel
theorem dX3_addNewcomer_27 : decode cX3_addNewcomer 27 = .ok (.aload_n 0, 1) := by decide +kernel
theorem dX3_addNewcomer_28 : decode cX3_addNewcomer 28 = .ok (.getfield 49, 3) := by decide +kernel
theorem dX3_addNewcomer_31 : decode cX3_addNewcomer 31 = .ok (.iload_n 2, 1) := by decide +kernel
theorem dX3_addNewcomer_32 : decode cX3_addNewcomer 32 = .ok (.dup2, 1) := by decide +kernel
theorem dX3_addNewcomer_33 : decode cX3_addNewcomer 33 = .ok (.iaload, 1) := by decide +kernel
theorem dX3_addNewcomer_34 : decode cX3_addNewcomer 34 = .ok (.aload_n 0, 1) := by decide +kernel
theorem dX3_addNewcomer_35 : decode cX3_addNewcomer 35 = .ok (.getfield 28, 3) := by decide +kernel
theorem dX3_addNewcomer_38 : decode cX3_addNewcomer 38 = .ok (.iload_n 1, 1) := by decide +kernel
theorem dX3_addNewcomer_39 : decode cX3_addNewcomer 39 = .ok (.iaload, 1) := by decide +kernel
theorem dX3_addNewcomer_40 : decode cX3_addNewcomer 40 = .ok (.iadd, 1) := by decide +kernel
theorem dX3_addNewcomer_41 : decode cX3_addNewcomer 41 = .ok (.iastore, 1) := by decide +kernel
theorem dX3_addNewcomer_42 : decode cX3_addNewcomer 42 = .ok (.aload_n 0, 1) := by decide +kernel
theorem dX3_addNewcomer_43 : decode cX3_addNewcomer 43 = .ok (.dup, 1) := by decide +kernel
theorem dX3_addNewcomer_44 : decode cX3_addNewcomer 44 = .ok (.getfield 15, 3) := by decide +kernel
theorem dX3_addNewcomer_47 : decode cX3_addNewcomer 47 = .ok (.iconst 1, 1) := by decide +kernel
theorem dX3_addNewcomer_48 : decode cX3_addNewcomer 48 = .ok (.iadd, 1) := by decide +kernel
theorem dX3_addNewcomer_49 : decode cX3_addNewcomer 49 = .ok (.putfield 15, 3) := by decide +kernel
theorem dX3_addNewcomer_52 : decode cX3_addNewcomer 52 = .ok (.return_, 1) := by decide +kernel
theorem dX3_moveCost_0 : decode cX3_moveCost 0 = .ok (.aload_n 0, 1) := by decide +kernel
theorem dX3_moveCost_1 : decode cX3_moveCost 1 = .ok (.getfield 46, 3) := by decide +kernel
theorem dX3_moveCost_4 : decode cX3_moveCost 4 = .ok (.iload_n 1, 1) := by decide +kernel
theorem dX3_moveCost_5 : decode cX3_moveCost 5 = .ok (.iaload, 1) := by decide +kernel
theorem dX3_moveCost_6 : decode cX3_moveCost 6 = .ok (.aload_n 0, 1) := by decide +kernel
theorem dX3_moveCost_7 : decode cX3_moveCost 7 = .ok (.getfield 49, 3) := by decide +kernel
theorem dX3_moveCost_10 : decode cX3_moveCost 10 = .ok (.iload_n 1, 1) := by decide +kernel
theorem dX3_moveCost_11 : decode cX3_moveCost 11 = .ok (.iaload, 1) := by decide +kernel
theorem dX3_moveCost_12 : decode cX3_moveCost 12 = .ok (.iadd, 1) := by decide +kernel
theorem dX3_moveCost_13 : decode cX3_moveCost 13 = .ok (.ireturn, 1) := by decide +kernel
theorem dX3_endsBy_0 : decode cX3_endsBy 0 = .ok (.aload_n 0, 1) := by decide +kernel
theorem dX3_endsBy_1 : decode cX3_endsBy 1 = .ok (.getfield 31, 3) := by decide +kernel
theorem dX3_endsBy_4 : decode cX3_endsBy 4 = .ok (.iload_n 1, 1) := by decide +kernel
theorem dX3_endsBy_5 : decode cX3_endsBy 5 = .ok (.iaload, 1) := by decide +kernel
theorem dX3_endsBy_6 : decode cX3_endsBy 6 = .ok (.iconst 4, 1) := by decide +kernel
theorem dX3_endsBy_7 : decode cX3_endsBy 7 = .ok (.if_icmp .ne 17, 3) := by decide +kernel
theorem dX3_endsBy_10 : decode cX3_endsBy 10 = .ok (.aload_n 0, 1) := by decide +kernel
theorem dX3_endsBy_11 : decode cX3_endsBy 11 = .ok (.getfield 40, 3) := by decide +kernel
theorem dX3_endsBy_14 : decode cX3_endsBy 14 = .ok (.iload_n 1, 1) := by decide +kernel
theorem dX3_endsBy_15 : decode cX3_endsBy 15 = .ok (.iaload, 1) := by decide +kernel
theorem dX3_endsBy_16 : decode cX3_endsBy 16 = .ok (.iload_n 2, 1) := by decide +kernel
theorem dX3_endsBy_17 : decode cX3_endsBy 17 = .ok (.if_icmp .gt 7, 3) := by decide +kernel
theorem dX3_endsBy_20 : decode cX3_endsBy 20 = .ok (.iconst 1, 1) := by decide +kernel
theorem dX3_endsBy_21 : decode cX3_endsBy 21 = .ok (.goto 4, 3) := by decide +kernel
theorem dX3_endsBy_24 : decode cX3_endsBy 24 = .ok (.iconst 0, 1) := by decide +kernel
theorem dX3_endsBy_25 : decode cX3_endsBy 25 = .ok (.ireturn, 1) := by decide +kernel
theorem dX3_leastFriend_0 : decode cX3_leastFriend 0 = .ok (.iconst 0, 1) := by decide +kernel
theorem dX3_leastFriend_1 : decode cX3_leastFriend 1 = .ok (.istore_n 3, 1) := by decide +kernel
theorem dX3_leastFriend_2 : decode cX3_leastFriend 2 = .ok (.iload_n 3, 1) := by decide +kernel
theorem dX3_leastFriend_3 : decode cX3_leastFriend 3 = .ok (.iload_n 2, 1) := by decide +kernel
theorem dX3_leastFriend_4 : decode cX3_leastFriend 4 = .ok (.if_icmp .ge 31, 3) := by decide +kernel
theorem dX3_leastFriend_7 : decode cX3_leastFriend 7 = .ok (.aload_n 0, 1) := by decide +kernel
theorem dX3_leastFriend_8 : decode cX3_leastFriend 8 = .ok (.getfield 31, 3) := by decide +kernel
theorem dX3_leastFriend_11 : decode cX3_leastFriend 11 = .ok (.iload_n 3, 1) := by decide +kernel
theorem dX3_leastFriend_12 : decode cX3_leastFriend 12 = .ok (.iaload, 1) := by decide +kernel
theorem dX3_leastFriend_13 : decode cX3_leastFriend 13 = .ok (.iconst 2, 1) := by decide +kernel
theorem dX3_leastFriend_14 : decode cX3_leastFriend 14 = .ok (.if_icmp .ne 15, 3) := by decide +kernel
theorem dX3_leastFriend_17 : decode cX3_leastFriend 17 = .ok (.aload_n 0, 1) := by decide +kernel
theorem dX3_leastFriend_18 : decode cX3_leastFriend 18 = .ok (.getfield 34, 3) := by decide +kernel
theorem dX3_leastFriend_21 : decode cX3_leastFriend 21 = .ok (.iload_n 3, 1) := by decide +kernel
theorem dX3_leastFriend_22 : decode cX3_leastFriend 22 = .ok (.iaload, 1) := by decide +kernel
theorem dX3_leastFriend_23 : decode cX3_leastFriend 23 = .ok (.iload_n 1, 1) := by decide +kernel
theorem dX3_leastFriend_24 : decode cX3_leastFriend 24 = .ok (.if_icmp .ne 5, 3) := by decide +kernel
theorem dX3_leastFriend_27 : decode cX3_leastFriend 27 = .ok (.iload_n 3, 1) := by decide +kernel
theorem dX3_leastFriend_28 : decode cX3_leastFriend 28 = .ok (.ireturn, 1) := by decide +kernel
theorem dX3_leastFriend_29 : decode cX3_leastFriend 29 = .ok (.iinc 3 1, 3) := by decide +kernel
theorem dX3_leastFriend_32 : decode cX3_leastFriend 32 = .ok (.goto (-30), 3) := by decide +kernel
theorem dX3_leastFriend_35 : decode cX3_leastFriend 35 = .ok (.iload_n 2, 1) := by decide +kernel
theorem dX3_leastFriend_36 : decode cX3_leastFriend 36 = .ok (.ireturn, 1) := by decide +kernel
theorem dX4_init_0 : decode cX4_init 0 = .ok (.aload_n 0, 1) := by decide +kernel
theorem dX4_init_1 : decode cX4_init 1 = .ok (.invokespecial 3, 3) := by decide +kernel
theorem dX4_init_4 : decode cX4_init 4 = .ok (.aload_n 0, 1) := by decide +kernel
theorem dX4_init_5 : decode cX4_init 5 = .ok (.iconst (-1), 1) := by decide +kernel
theorem dX4_init_6 : decode cX4_init 6 = .ok (.putfield 9, 3) := by decide +kernel
theorem dX4_init_9 : decode cX4_init 9 = .ok (.aload_n 0, 1) := by decide +kernel
theorem dX4_init_10 : decode cX4_init 10 = .ok (.lconst 0, 1) := by decide +kernel
theorem dX4_init_11 : decode cX4_init 11 = .ok (.putfield 15, 3) := by decide +kernel
theorem dX4_init_14 : decode cX4_init 14 = .ok (.aload_n 0, 1) := by decide +kernel
theorem dX4_init_15 : decode cX4_init 15 = .ok (.aload_n 1, 1) := by decide +kernel
theorem dX4_init_16 : decode cX4_init 16 = .ok (.putfield 19, 3) := by decide +kernel
theorem dX4_init_19 : decode cX4_init 19 = .ok (.aload_n 0, 1) := by decide +kernel
theorem dX4_init_20 : decode cX4_init 20 = .ok (.aload_n 2, 1) := by decide +kernel
theorem dX4_init_21 : decode cX4_init 21 = .ok (.putfield 23, 3) := by decide +kernel
theorem dX4_init_24 : decode cX4_init 24 = .ok (.aload_n 0, 1) := by decide +kernel
theorem dX4_init_25 : decode cX4_init 25 = .ok (.aload_n 3, 1) := by decide +kernel
theorem dX4_init_26 : decode cX4_init 26 = .ok (.putfield 27, 3) := by decide +kernel
theorem dX4_init_29 : decode cX4_init 29 = .ok (.return_, 1) := by decide +kernel
theorem dX4_least_0 : decode cX4_least 0 = .ok (.aload_n 0, 1) := by decide +kernel
theorem dX4_least_1 : decode cX4_least 1 = .ok (.getfield 27, 3) := by decide +kernel
theorem dX4_least_4 : decode cX4_least 4 = .ok (.iconst 0, 1) := by decide +kernel
theorem dX4_least_5 : decode cX4_least 5 = .ok (.iload_n 1, 1) := by decide +kernel
theorem dX4_least_6 : decode cX4_least 6 = .ok (.iconst 0, 1) := by decide +kernel
theorem dX4_least_7 : decode cX4_least 7 = .ok (.iconst 0, 1) := by decide +kernel
theorem dX4_least_8 : decode cX4_least 8 = .ok (.invokevirtual 31, 3) := by decide +kernel
theorem dX4_least_11 : decode cX4_least 11 = .ok (.aload_n 0, 1) := by decide +kernel
theorem dX4_least_12 : decode cX4_least 12 = .ok (.iconst (-1), 1) := by decide +kernel
theorem dX4_least_13 : decode cX4_least 13 = .ok (.putfield 9, 3) := by decide +kernel
theorem dX4_least_16 : decode cX4_least 16 = .ok (.aload_n 0, 1) := by decide +kernel
theorem dX4_least_17 : decode cX4_least 17 = .ok (.iload_n 2, 1) := by decide +kernel
theorem dX4_least_18 : decode cX4_least 18 = .ok (.iconst 0, 1) := by decide +kernel
theorem dX4_least_19 : decode cX4_least 19 = .ok (.iload_n 3, 1) := by decide +kernel
theorem dX4_least_20 : decode cX4_least 20 = .ok (.invokevirtual 37, 3) := by decide +kernel
theorem dX4_least_23 : decode cX4_least 23 = .ok (.istore 4, 2) := by decide +kernel
theorem dX4_least_25 : decode cX4_least 25 = .ok (.iconst 0, 1) := by decide +kernel
theorem dX4_least_26 : decode cX4_least 26 = .ok (.istore 5, 2) := by decide +kernel
theorem dX4_least_28 : decode cX4_least 28 = .ok (.iload 5, 2) := by decide +kernel
theorem dX4_least_30 : decode cX4_least 30 = .ok (.aload_n 0, 1) := by decide +kernel
theorem dX4_least_31 : decode cX4_least 31 = .ok (.getfield 19, 3) := by decide +kernel
theorem dX4_least_34 : decode cX4_least 34 = .ok (.getfield 41, 3) := by decide +kernel
theorem dX4_least_37 : decode cX4_least 37 = .ok (.if_icmp .ge 71, 3) := by decide +kernel
theorem dX4_least_40 : decode cX4_least 40 = .ok (.iload 4, 2) := by decide +kernel
theorem dX4_least_42 : decode cX4_least 42 = .ok (.ifCond .ne 66, 3) := by decide +kernel
theorem dX4_least_45 : decode cX4_least 45 = .ok (.aload_n 0, 1) := by decide +kernel
theorem dX4_least_46 : decode cX4_least 46 = .ok (.getfield 23, 3) := by decide +kernel
theorem dX4_least_49 : decode cX4_least 49 = .ok (.getfield 46, 3) := by decide +kernel
theorem dX4_least_52 : decode cX4_least 52 = .ok (.iload 5, 2) := by decide +kernel
theorem dX4_least_54 : decode cX4_least 54 = .ok (.iaload, 1) := by decide +kernel
theorem dX4_least_55 : decode cX4_least 55 = .ok (.iconst (-1), 1) := by decide +kernel
theorem dX4_least_56 : decode cX4_least 56 = .ok (.if_icmp .eq 46, 3) := by decide +kernel
theorem dX4_least_59 : decode cX4_least 59 = .ok (.aload_n 0, 1) := by decide +kernel
theorem dX4_least_60 : decode cX4_least 60 = .ok (.getfield 19, 3) := by decide +kernel
theorem dX4_least_63 : decode cX4_least 63 = .ok (.getfield 52, 3) := by decide +kernel
theorem dX4_least_66 : decode cX4_least 66 = .ok (.iload 5, 2) := by decide +kernel
theorem dX4_least_68 : decode cX4_least 68 = .ok (.iaload, 1) := by decide +kernel
theorem dX4_least_69 : decode cX4_least 69 = .ok (.iconst 4, 1) := by decide +kernel
theorem dX4_least_70 : decode cX4_least 70 = .ok (.if_icmp .ne 32, 3) := by decide +kernel
theorem dX4_least_73 : decode cX4_least 73 = .ok (.aload_n 0, 1) := by decide +kernel
theorem dX4_least_74 : decode cX4_least 74 = .ok (.aload_n 0, 1) := by decide +kernel
theorem dX4_least_75 : decode cX4_least 75 = .ok (.getfield 19, 3) := by decide +kernel
theorem dX4_least_78 : decode cX4_least 78 = .ok (.getfield 55, 3) := by decide +kernel
theorem dX4_least_81 : decode cX4_least 81 = .ok (.iload 5, 2) := by decide +kernel
theorem dX4_least_83 : decode cX4_least 83 = .ok (.iaload, 1) := by decide +kernel
theorem dX4_least_84 : decode cX4_least 84 = .ok (.aload_n 0, 1) := by decide +kernel
theorem dX4_least_85 : decode cX4_least 85 = .ok (.getfield 19, 3) := by decide +kernel
theorem dX4_least_88 : decode cX4_least 88 = .ok (.getfield 55, 3) := by decide +kernel
theorem dX4_least_91 : decode cX4_least 91 = .ok (.iload 5, 2) := by decide +kernel
theorem dX4_least_93 : decode cX4_least 93 = .ok (.iaload, 1) := by decide +kernel
theorem dX4_least_94 : decode cX4_least 94 = .ok (.iload_n 2, 1) := by decide +kernel
theorem dX4_least_95 : decode cX4_least 95 = .ok (.isub, 1) := by decide +kernel
theorem dX4_least_96 : decode cX4_least 96 = .ok (.iload_n 3, 1) := by decide +kernel
theorem dX4_least_97 : decode cX4_least 97 = .ok (.invokevirtual 37, 3) := by decide +kernel
theorem dX4_least_100 : decode cX4_least 100 = .ok (.istore 4, 2) := by decide +kernel
theorem dX4_least_102 : decode cX4_least 102 = .ok (.iinc 5 1, 3) := by decide +kernel
theorem dX4_least_105 : decode cX4_least 105 = .ok (.goto (-77), 3) := by decide +kernel
theorem dX4_least_108 : decode cX4_least 108 = .ok (.iload 4, 2) := by decide +kernel
theorem dX4_least_110 : decode cX4_least 110 = .ok (.ifCond .eq 8, 3) := by decide +kernel
theorem dX4_least_113 : decode cX4_least 113 = .ok (.bipush (-5), 2) := by decide +kernel
theorem dX4_least_115 : decode cX4_least 115 = .ok (.goto 7, 3) := by decide +kernel
theorem dX4_least_118 : decode cX4_least 118 = .ok (.aload_n 0, 1) := by decide +kernel
theorem dX4_least_119 : decode cX4_least 119 = .ok (.getfield 9, 3) := by decide +kernel
theorem dX4_least_122 : decode cX4_least 122 = .ok (.ireturn, 1) := by decide +kernel
theorem dX4_weigh_0 : decode cX4_weigh 0 = .ok (.aload_n 0, 1) := by decide +kernel
theorem dX4_weigh_1 : decode cX4_weigh 1 = .ok (.getfield 27, 3) := by decide +kernel
theorem dX4_weigh_4 : decode cX4_weigh 4 = .ok (.iload_n 1, 1) := by decide +kernel
theorem dX4_weigh_5 : decode cX4_weigh 5 = .ok (.invokevirtual 58, 3) := by decide +kernel
theorem dX4_weigh_8 : decode cX4_weigh 8 = .ok (.aload_n 0, 1) := by decide +kernel
theorem dX4_weigh_9 : decode cX4_weigh 9 = .ok (.getfield 27, 3) := by decide +kernel
theorem dX4_weigh_12 : decode cX4_weigh 12 = .ok (.getfield 62, 3) := by decide +kernel
theorem dX4_weigh_15 : decode cX4_weigh 15 = .ok (.ifCond .ne 14, 3) := by decide +kernel
theorem dX4_weigh_18 : decode cX4_weigh 18 = .ok (.aload_n 0, 1) := by decide +kernel
theorem dX4_weigh_19 : decode cX4_weigh 19 = .ok (.getfield 27, 3) := by decide +kernel
theorem dX4_weigh_22 : decode cX4_weigh 22 = .ok (.getfield 66, 3) := by decide +kernel
theorem dX4_weigh_25 : decode cX4_weigh 25 = .ok (.iconst (-1), 1) := by decide +kernel
theorem dX4_weigh_26 : decode cX4_weigh 26 = .ok (.if_icmp .ne 11, 3) := by decide +kernel
theorem dX4_weigh_29 : decode cX4_weigh 29 = .ok (.aload_n 0, 1) := by decide +kernel
theorem dX4_weigh_30 : decode cX4_weigh 30 = .ok (.getfield 27, 3) := by decide +kernel
theorem dX4_weigh_33 : decode cX4_weigh 33 = .ok (.getfield 62, 3) := by decide +kernel
theorem dX4_weigh_36 : decode cX4_weigh 36 = .ok (.ireturn, 1) := by decide +kernel
theorem dX4_weigh_37 : decode cX4_weigh 37 = .ok (.iload_n 2, 1) := by decide +kernel
theorem dX4_weigh_38 : decode cX4_weigh 38 = .ok (.i2l, 1) := by decide +kernel
theorem dX4_weigh_39 : decode cX4_weigh 39 = .ok (.iload_n 3, 1) := by decide +kernel
theorem dX4_weigh_40 : decode cX4_weigh 40 = .ok (.i2l, 1) := by decide +kernel
theorem dX4_weigh_41 : decode cX4_weigh 41 = .ok (.lmul, 1) := by decide +kernel
theorem dX4_weigh_42 : decode cX4_weigh 42 = .ok (.aload_n 0, 1) := by decide +kernel
theorem dX4_weigh_43 : decode cX4_weigh 43 = .ok (.getfield 23, 3) := by decide +kernel
theorem dX4_weigh_46 : decode cX4_weigh 46 = .ok (.aload_n 0, 1) := by decide +kernel
theorem dX4_weigh_47 : decode cX4_weigh 47 = .ok (.getfield 27, 3) := by decide +kernel
theorem dX4_weigh_50 : decode cX4_weigh 50 = .ok (.getfield 69, 3) := by decide +kernel
theorem dX4_weigh_53 : decode cX4_weigh 53 = .ok (.invokevirtual 72, 3) := by decide +kernel
theorem dX4_weigh_56 : decode cX4_weigh 56 = .ok (.i2l, 1) := by decide +kernel
theorem dX4_weigh_57 : decode cX4_weigh 57 = .ok (.ladd, 1) := by decide +kernel
theorem dX4_weigh_58 : decode cX4_weigh 58 = .ok (.lstore 4, 2) := by decide +kernel
theorem dX4_weigh_60 : decode cX4_weigh 60 = .ok (.lload 4, 2) := by decide +kernel
theorem dX4_weigh_62 : decode cX4_weigh 62 = .ok (.aload_n 0, 1) := by decide +kernel
theorem dX4_weigh_63 : decode cX4_weigh 63 = .ok (.getfield 15, 3) := by decide +kernel
theorem dX4_weigh_66 : decode cX4_weigh 66 = .ok (.lcmp, 1) := by decide +kernel
theorem dX4_weigh_67 : decode cX4_weigh 67 = .ok (.ifCond .lt 21, 3) := by decide +kernel
theorem dX4_weigh_70 : decode cX4_weigh 70 = .ok (.lload 4, 2) := by decide +kernel
theorem dX4_weigh_72 : decode cX4_weigh 72 = .ok (.aload_n 0, 1) := by decide +kernel
theorem dX4_weigh_73 : decode cX4_weigh 73 = .ok (.getfield 15, 3) := by decide +kernel
theorem dX4_weigh_76 : decode cX4_weigh 76 = .ok (.lcmp, 1) := by decide +kernel
theorem dX4_weigh_77 : decode cX4_weigh 77 = .ok (.ifCond .ne 15, 3) := by decide +kernel
theorem dX4_weigh_80 : decode cX4_weigh 80 = .ok (.iload_n 2, 1) := by decide +kernel
theorem dX4_weigh_81 : decode cX4_weigh 81 = .ok (.aload_n 0, 1) := by decide +kernel
theorem dX4_weigh_82 : decode cX4_weigh 82 = .ok (.getfield 9, 3) := by decide +kernel
theorem dX4_weigh_85 : decode cX4_weigh 85 = .ok (.if_icmp .ge 7, 3) := by decide +kernel
theorem dX4_weigh_88 : decode cX4_weigh 88 = .ok (.iconst 1, 1) := by decide +kernel
theorem dX4_weigh_89 : decode cX4_weigh 89 = .ok (.goto 4, 3) := by decide +kernel
theorem dX4_weigh_92 : decode cX4_weigh 92 = .ok (.iconst 0, 1) := by decide +kernel
theorem dX4_weigh_93 : decode cX4_weigh 93 = .ok (.istore 6, 2) := by decide +kernel
theorem dX4_weigh_95 : decode cX4_weigh 95 = .ok (.aload_n 0, 1) := by decide +kernel
theorem dX4_weigh_96 : decode cX4_weigh 96 = .ok (.getfield 9, 3) := by decide +kernel
theorem dX4_weigh_99 : decode cX4_weigh 99 = .ok (.iconst (-1), 1) := by decide +kernel
theorem dX4_weigh_100 : decode cX4_weigh 100 = .ok (.if_icmp .eq 8, 3) := by decide +kernel
theorem dX4_weigh_103 : decode cX4_weigh 103 = .ok (.iload 6, 2) := by decide +kernel
theorem dX4_weigh_105 : decode cX4_weigh 105 = .ok (.ifCond .eq 14, 3) := by decide +kernel
theorem dX4_weigh_108 : decode cX4_weigh 108 = .ok (.aload_n 0, 1) := by decide +kernel
theorem dX4_weigh_109 : decode cX4_weigh 109 = .ok (.iload_n 2, 1) := by decide +kernel
theorem dX4_weigh_110 : decode cX4_weigh 110 = .ok (.putfield 9, 3) := by decide +kernel
theorem dX4_weigh_113 : decode cX4_weigh 113 = .ok (.aload_n 0, 1) := by decide +kernel
theorem dX4_weigh_114 : decode cX4_weigh 114 = .ok (.lload 4, 2) := by decide +kernel
theorem dX4_weigh_116 : decode cX4_weigh 116 = .ok (.putfield 15, 3) := by decide +kernel
theorem dX4_weigh_119 : decode cX4_weigh 119 = .ok (.iconst 0, 1) := by decide +kernel
theorem dX4_weigh_120 : decode cX4_weigh 120 = .ok (.ireturn, 1) := by decide +kernel
theorem dL_law_0 : decode cL_law 0 = .ok (.new 7, 3) := by decide +kernel
theorem dL_law_3 : decode cL_law 3 = .ok (.dup, 1) := by decide +kernel
theorem dL_law_4 : decode cL_law 4 = .ok (.invokespecial 9, 3) := by decide +kernel
theorem dL_law_7 : decode cL_law 7 = .ok (.astore_n 1, 1) := by decide +kernel
theorem dL_law_8 : decode cL_law 8 = .ok (.new 10, 3) := by decide +kernel
theorem dL_law_11 : decode cL_law 11 = .ok (.dup, 1) := by decide +kernel
theorem dL_law_12 : decode cL_law 12 = .ok (.invokespecial 12, 3) := by decide +kernel
theorem dL_law_15 : decode cL_law 15 = .ok (.astore_n 2, 1) := by decide +kernel
theorem dL_law_16 : decode cL_law 16 = .ok (.iconst 0, 1) := by decide +kernel
theorem dL_law_17 : decode cL_law 17 = .ok (.istore_n 3, 1) := by decide +kernel
theorem dL_law_18 : decode cL_law 18 = .ok (.iload_n 3, 1) := by decide +kernel
theorem dL_law_19 : decode cL_law 19 = .ok (.aload_n 0, 1) := by decide +kernel
theorem dL_law_20 : decode cL_law 20 = .ok (.arraylength, 1) := by decide +kernel
theorem dL_law_21 : decode cL_law 21 = .ok (.bipush 6, 2) := by decide +kernel
theorem dL_law_23 : decode cL_law 23 = .ok (.isub, 1) := by decide +kernel
theorem dL_law_24 : decode cL_law 24 = .ok (.if_icmp .gt 627, 3) := by decide +kernel
theorem dL_law_27 : decode cL_law 27 = .ok (.aload_n 0, 1) := by decide +kernel
theorem dL_law_28 : decode cL_law 28 = .ok (.iload_n 3, 1) := by decide +kernel
theorem dL_law_29 : decode cL_law 29 = .ok (.iaload, 1) := by decide +kernel
theorem dL_law_30 : decode cL_law 30 = .ok (.bipush 31, 2) := by decide +kernel
theorem dL_law_32 : decode cL_law 32 = .ok (.iand, 1) := by decide +kernel
theorem dL_law_33 : decode cL_law 33 = .ok (.tableswitch 612 0 19 #[95, 128, 191, 224, 247, 280, 313, 326, 379, 402, 415, 428, 441, 464, 477, 490, 529, 552, 575, 598], 95) := by decide +kernel
theorem dL_law_128 : decode cL_law 128 = .ok (.aload_n 1, 1) := by decide +kernel
theorem dL_law_129 : decode cL_law 129 = .ok (.aload_n 0, 1) := by decide +kernel
theorem dL_law_130 : decode cL_law 130 = .ok (.iload_n 3, 1) := by decide +kernel
theorem dL_law_131 : decode cL_law 131 = .ok (.iconst 1, 1) := by decide +kernel
theorem dL_law_132 : decode cL_law 132 = .ok (.iadd, 1) := by decide +kernel
theorem dL_law_133 : decode cL_law 133 = .ok (.iaload, 1) := by decide +kernel
theorem dL_law_134 : decode cL_law 134 = .ok (.aload_n 0, 1) := by decide +kernel
theorem dL_law_135 : decode cL_law 135 = .ok (.iload_n 3, 1) := by decide +kernel
theorem dL_law_136 : decode cL_law 136 = .ok (.iconst 2, 1) := by decide +kernel
theorem dL_law_137 : decode cL_law 137 = .ok (.iadd, 1) := by decide +kernel
theorem dL_law_138 : decode cL_law 138 = .ok (.iaload, 1) := by decide +kernel
theorem dL_law_139 : decode cL_law 139 = .ok (.invokevirtual 13, 3) := by decide +kernel
theorem dL_law_142 : decode cL_law 142 = .ok (.aload_n 2, 1) := by decide +kernel
theorem dL_law_143 : decode cL_law 143 = .ok (.aload_n 0, 1) := by decide +kernel
theorem dL_law_144 : decode cL_law 144 = .ok (.iload_n 3, 1) := by decide +kernel
theorem dL_law_145 : decode cL_law 145 = .ok (.iconst 1, 1) := by decide +kernel
theorem dL_law_146 : decode cL_law 146 = .ok (.iadd, 1) := by decide +kernel
theorem dL_law_147 : decode cL_law 147 = .ok (.iaload, 1) := by decide +kernel
theorem dL_law_148 : decode cL_law 148 = .ok (.aload_n 0, 1) := by decide +kernel
theorem dL_law_149 : decode cL_law 149 = .ok (.iload_n 3, 1) := by decide +kernel
theorem dL_law_150 : decode cL_law 150 = .ok (.iconst 2, 1) := by decide +kernel
theorem dL_law_151 : decode cL_law 151 = .ok (.iadd, 1) := by decide +kernel
theorem dL_law_152 : decode cL_law 152 = .ok (.iaload, 1) := by decide +kernel
theorem dL_law_153 : decode cL_law 153 = .ok (.invokevirtual 17, 3) := by decide +kernel
theorem dL_law_156 : decode cL_law 156 = .ok (.if_icmp .eq 489, 3) := by decide +kernel
theorem dL_law_159 : decode cL_law 159 = .ok (.iconst 0, 1) := by decide +kernel
theorem dL_law_160 : decode cL_law 160 = .ok (.ireturn, 1) := by decide +kernel
theorem dL_law_161 : decode cL_law 161 = .ok (.aload_n 1, 1) := by decide +kernel
theorem dL_law_162 : decode cL_law 162 = .ok (.aload_n 0, 1) := by decide +kernel
theorem dL_law_163 : decode cL_law 163 = .ok (.iload_n 3, 1) := by decide +kernel
theorem dL_law_164 : decode cL_law 164 = .ok (.iconst 1, 1) := by decide +kernel
theorem dL_law_165 : decode cL_law 165 = .ok (.iadd, 1) := by decide +kernel
theorem dL_law_166 : decode cL_law 166 = .ok (.iaload, 1) := by decide +kernel
theorem dL_law_167 : decode cL_law 167 = .ok (.aload_n 0, 1) := by decide +kernel
theorem dL_law_168 : decode cL_law 168 = .ok (.iload_n 3, 1) := by decide +kernel
theorem dL_law_169 : decode cL_law 169 = .ok (.iconst 2, 1) := by decide +kernel
theorem dL_law_170 : decode cL_law 170 = .ok (.iadd, 1) := by decide +kernel
theorem dL_law_171 : decode cL_law 171 = .ok (.iaload, 1) := by decide +kernel
theorem dL_law_172 : decode cL_law 172 = .ok (.aload_n 0, 1) := by decide +kernel
theorem dL_law_173 : decode cL_law 173 = .ok (.iload_n 3, 1) := by decide +kernel
theorem dL_law_174 : decode cL_law 174 = .ok (.iconst 3, 1) := by decide +kernel
theorem dL_law_175 : decode cL_law 175 = .ok (.iadd, 1) := by decide +kernel
theorem dL_law_176 : decode cL_law 176 = .ok (.iaload, 1) := by decide +kernel
theorem dL_law_177 : decode cL_law 177 = .ok (.aload_n 0, 1) := by decide +kernel
theorem dL_law_178 : decode cL_law 178 = .ok (.iload_n 3, 1) := by decide +kernel
theorem dL_law_179 : decode cL_law 179 = .ok (.iconst 4, 1) := by decide +kernel
theorem dL_law_180 : decode cL_law 180 = .ok (.iadd, 1) := by decide +kernel
theorem dL_law_181 : decode cL_law 181 = .ok (.iaload, 1) := by decide +kernel
theorem dL_law_182 : decode cL_law 182 = .ok (.aload_n 0, 1) := by decide +kernel
theorem dL_law_183 : decode cL_law 183 = .ok (.iload_n 3, 1) := by decide +kernel
theorem dL_law_184 : decode cL_law 184 = .ok (.iconst 5, 1) := by decide +kernel
theorem dL_law_185 : decode cL_law 185 = .ok (.iadd, 1) := by decide +kernel
theorem dL_law_186 : decode cL_law 186 = .ok (.iaload, 1) := by decide +kernel
theorem dL_law_187 : decode cL_law 187 = .ok (.invokevirtual 18, 3) := by decide +kernel
theorem dL_law_190 : decode cL_law 190 = .ok (.aload_n 2, 1) := by decide +kernel
theorem dL_law_191 : decode cL_law 191 = .ok (.aload_n 0, 1) := by decide +kernel
theorem dL_law_192 : decode cL_law 192 = .ok (.iload_n 3, 1) := by decide +kernel
theorem dL_law_193 : decode cL_law 193 = .ok (.iconst 1, 1) := by decide +kernel
theorem dL_law_194 : decode cL_law 194 = .ok (.iadd, 1) := by decide +kernel
theorem dL_law_195 : decode cL_law 195 = .ok (.iaload, 1) := by decide +kernel
theorem dL_law_196 : decode cL_law 196 = .ok (.aload_n 0, 1) := by decide +kernel
theorem dL_law_197 : decode cL_law 197 = .ok (.iload_n 3, 1) := by decide +kernel
theorem dL_law_198 : decode cL_law 198 = .ok (.iconst 2, 1) := by decide +kernel
theorem dL_law_199 : decode cL_law 199 = .ok (.iadd, 1) := by decide +kernel
theorem dL_law_200 : decode cL_law 200 = .ok (.iaload, 1) := by decide +kernel
theorem dL_law_201 : decode cL_law 201 = .ok (.aload_n 0, 1) := by decide +kernel
theorem dL_law_202 : decode cL_law 202 = .ok (.iload_n 3, 1) := by decide +kernel
theorem dL_law_203 : decode cL_law 203 = .ok (.iconst 3, 1) := by decide +kernel
theorem dL_law_204 : decode cL_law 204 = .ok (.iadd, 1) := by decide +kernel
theorem dL_law_205 : decode cL_law 205 = .ok (.iaload, 1) := by decide +kernel
theorem dL_law_206 : decode cL_law 206 = .ok (.aload_n 0, 1) := by decide +kernel
theorem dL_law_207 : decode cL_law 207 = .ok (.iload_n 3, 1) := by decide +kernel
theorem dL_law_208 : decode cL_law 208 = .ok (.iconst 4, 1) := by decide +kernel
theorem dL_law_209 : decode cL_law 209 = .ok (.iadd, 1) := by decide +kernel
theorem dL_law_210 : decode cL_law 210 = .ok (.iaload, 1) := by decide +kernel
theorem dL_law_211 : decode cL_law 211 = .ok (.aload_n 0, 1) := by decide +kernel
theorem dL_law_212 : decode cL_law 212 = .ok (.iload_n 3, 1) := by decide +kernel
theorem dL_law_213 : decode cL_law 213 = .ok (.iconst 5, 1) := by decide +kernel
theorem dL_law_214 : decode cL_law 214 = .ok (.iadd, 1) := by decide +kernel
theorem dL_law_215 : decode cL_law 215 = .ok (.iaload, 1) := by decide +kernel
theorem dL_law_216 : decode cL_law 216 = .ok (.invokevirtual 22, 3) := by decide +kernel
theorem dL_law_219 : decode cL_law 219 = .ok (.if_icmp .eq 426, 3) := by decide +kernel
theorem dL_law_222 : decode cL_law 222 = .ok (.iconst 0, 1) := by decide +kernel
theorem dL_law_223 : decode cL_law 223 = .ok (.ireturn, 1) := by decide +kernel
theorem dL_law_224 : decode cL_law 224 = .ok (.aload_n 1, 1) := by decide +kernel
theorem dL_law_225 : decode cL_law 225 = .ok (.aload_n 0, 1) := by decide +kernel
theorem dL_law_226 : decode cL_law 226 = .ok (.iload_n 3, 1) := by decide +kernel
theorem dL_law_227 : decode cL_law 227 = .ok (.iconst 1, 1) := by decide +kernel
theorem dL_law_228 : decode cL_law 228 = .ok (.iadd, 1) := by decide +kernel
theorem dL_law_229 : decode cL_law 229 = .ok (.iaload, 1) := by decide +kernel
theorem dL_law_230 : decode cL_law 230 = .ok (.aload_n 0, 1) := by decide +kernel
theorem dL_law_231 : decode cL_law 231 = .ok (.iload_n 3, 1) := by decide +kernel
theorem dL_law_232 : decode cL_law 232 = .ok (.iconst 2, 1) := by decide +kernel
theorem dL_law_233 : decode cL_law 233 = .ok (.iadd, 1) := by decide +kernel
theorem dL_law_234 : decode cL_law 234 = .ok (.iaload, 1) := by decide +kernel
theorem dL_law_235 : decode cL_law 235 = .ok (.invokevirtual 23, 3) := by decide +kernel
theorem dL_law_238 : decode cL_law 238 = .ok (.aload_n 2, 1) := by decide +kernel
theorem dL_law_239 : decode cL_law 239 = .ok (.aload_n 0, 1) := by decide +kernel
theorem dL_law_240 : decode cL_law 240 = .ok (.iload_n 3, 1) := by decide +kernel
theorem dL_law_241 : decode cL_law 241 = .ok (.iconst 1, 1) := by decide +kernel
theorem dL_law_242 : decode cL_law 242 = .ok (.iadd, 1) := by decide +kernel
theorem dL_law_243 : decode cL_law 243 = .ok (.iaload, 1) := by decide +kernel
theorem dL_law_244 : decode cL_law 244 = .ok (.aload_n 0, 1) := by decide +kernel
theorem dL_law_245 : decode cL_law 245 = .ok (.iload_n 3, 1) := by decide +kernel
theorem dL_law_246 : decode cL_law 246 = .ok (.iconst 2, 1) := by decide +kernel
theorem dL_law_247 : decode cL_law 247 = .ok (.iadd, 1) := by decide +kernel
theorem dL_law_248 : decode cL_law 248 = .ok (.iaload, 1) := by decide +kernel
theorem dL_law_249 : decode cL_law 249 = .ok (.invokevirtual 26, 3) := by decide +kernel
theorem dL_law_252 : decode cL_law 252 = .ok (.if_icmp .eq 393, 3) := by decide +kernel
theorem dL_law_255 : decode cL_law 255 = .ok (.iconst 0, 1) := by decide +kernel
theorem dL_law_256 : decode cL_law 256 = .ok (.ireturn, 1) := by decide +kernel
theorem dL_law_257 : decode cL_law 257 = .ok (.aload_n 1, 1) := by decide +kernel
theorem dL_law_258 : decode cL_law 258 = .ok (.aload_n 0, 1) := by decide +kernel
theorem dL_law_259 : decode cL_law 259 = .ok (.iload_n 3, 1) := by decide +kernel
theorem dL_law_260 : decode cL_law 260 = .ok (.iconst 1, 1) := by decide +kernel
theorem dL_law_261 : decode cL_law 261 = .ok (.iadd, 1) := by decide +kernel
theorem dL_law_262 : decode cL_law 262 = .ok (.iaload, 1) := by decide +kernel
theorem dL_law_263 : decode cL_law 263 = .ok (.invokevirtual 27, 3) := by decide +kernel
theorem dL_law_266 : decode cL_law 266 = .ok (.aload_n 2, 1) := by decide +kernel
theorem dL_law_267 : decode cL_law 267 = .ok (.aload_n 0, 1) := by decide +kernel
theorem dL_law_268 : decode cL_law 268 = .ok (.iload_n 3, 1) := by decide +kernel
theorem dL_law_269 : decode cL_law 269 = .ok (.iconst 1, 1) := by decide +kernel
theorem dL_law_270 : decode cL_law 270 = .ok (.iadd, 1) := by decide +kernel
theorem dL_law_271 : decode cL_law 271 = .ok (.iaload, 1) := by decide +kernel
theorem dL_law_272 : decode cL_law 272 = .ok (.invokevirtual 31, 3) := by decide +kernel
theorem dL_law_275 : decode cL_law 275 = .ok (.if_icmp .eq 370, 3) := by decide +kernel
theorem dL_law_278 : decode cL_law 278 = .ok (.iconst 0, 1) := by decide +kernel
theorem dL_law_279 : decode cL_law 279 = .ok (.ireturn, 1) := by decide +kernel
theorem dL_law_280 : decode cL_law 280 = .ok (.aload_n 1, 1) := by decide +kernel
theorem dL_law_281 : decode cL_law 281 = .ok (.aload_n 0, 1) := by decide +kernel
theorem dL_law_282 : decode cL_law 282 = .ok (.iload_n 3, 1) := by decide +kernel
theorem dL_law_283 : decode cL_law 283 = .ok (.iconst 1, 1) := by decide +kernel
theorem dL_law_284 : decode cL_law 284 = .ok (.iadd, 1) := by decide +kernel
theorem dL_law_285 : decode cL_law 285 = .ok (.iaload, 1) := by decide +kernel
theorem dL_law_286 : decode cL_law 286 = .ok (.aload_n 0, 1) := by decide +kernel
theorem dL_law_287 : decode cL_law 287 = .ok (.iload_n 3, 1) := by decide +kernel
theorem dL_law_288 : decode cL_law 288 = .ok (.iconst 2, 1) := by decide +kernel
theorem dL_law_289 : decode cL_law 289 = .ok (.iadd, 1) := by decide +kernel
theorem dL_law_290 : decode cL_law 290 = .ok (.iaload, 1) := by decide +kernel
theorem dL_law_291 : decode cL_law 291 = .ok (.invokevirtual 32, 3) := by decide +kernel
theorem dL_law_294 : decode cL_law 294 = .ok (.aload_n 2, 1) := by decide +kernel
theorem dL_law_295 : decode cL_law 295 = .ok (.aload_n 0, 1) := by decide +kernel
theorem dL_law_296 : decode cL_law 296 = .ok (.iload_n 3, 1) := by decide +kernel
theorem dL_law_297 : decode cL_law 297 = .ok (.iconst 1, 1) := by decide +kernel
theorem dL_law_298 : decode cL_law 298 = .ok (.iadd, 1) := by decide +kernel
theorem dL_law_299 : decode cL_law 299 = .ok (.iaload, 1) := by decide +kernel
theorem dL_law_300 : decode cL_law 300 = .ok (.aload_n 0, 1) := by decide +kernel
theorem dL_law_301 : decode cL_law 301 = .ok (.iload_n 3, 1) := by decide +kernel
theorem dL_law_302 : decode cL_law 302 = .ok (.iconst 2, 1) := by decide +kernel
theorem dL_law_303 : decode cL_law 303 = .ok (.iadd, 1) := by decide +kernel
theorem dL_law_304 : decode cL_law 304 = .ok (.iaload, 1) := by decide +kernel
theorem dL_law_305 : decode cL_law 305 = .ok (.invokevirtual 35, 3) := by decide +kernel
theorem dL_law_308 : decode cL_law 308 = .ok (.if_icmp .eq 337, 3) := by decide +kernel
theorem dL_law_311 : decode cL_law 311 = .ok (.iconst 0, 1) := by decide +kernel
theorem dL_law_312 : decode cL_law 312 = .ok (.ireturn, 1) := by decide +kernel
theorem dL_law_313 : decode cL_law 313 = .ok (.aload_n 1, 1) := by decide +kernel
theorem dL_law_314 : decode cL_law 314 = .ok (.aload_n 0, 1) := by decide +kernel
theorem dL_law_315 : decode cL_law 315 = .ok (.iload_n 3, 1) := by decide +kernel
theorem dL_law_316 : decode cL_law 316 = .ok (.iconst 1, 1) := by decide +kernel
theorem dL_law_317 : decode cL_law 317 = .ok (.iadd, 1) := by decide +kernel
theorem dL_law_318 : decode cL_law 318 = .ok (.iaload, 1) := by decide +kernel
theorem dL_law_319 : decode cL_law 319 = .ok (.aload_n 0, 1) := by decide +kernel
theorem dL_law_320 : decode cL_law 320 = .ok (.iload_n 3, 1) := by decide +kernel
theorem dL_law_321 : decode cL_law 321 = .ok (.iconst 2, 1) := by decide +kernel
theorem dL_law_322 : decode cL_law 322 = .ok (.iadd, 1) := by decide +kernel
theorem dL_law_323 : decode cL_law 323 = .ok (.iaload, 1) := by decide +kernel
theorem dL_law_324 : decode cL_law 324 = .ok (.invokevirtual 36, 3) := by decide +kernel
theorem dL_law_327 : decode cL_law 327 = .ok (.aload_n 2, 1) := by decide +kernel
theorem dL_law_328 : decode cL_law 328 = .ok (.aload_n 0, 1) := by decide +kernel
theorem dL_law_329 : decode cL_law 329 = .ok (.iload_n 3, 1) := by decide +kernel
theorem dL_law_330 : decode cL_law 330 = .ok (.iconst 1, 1) := by decide +kernel
theorem dL_law_331 : decode cL_law 331 = .ok (.iadd, 1) := by decide +kernel
theorem dL_law_332 : decode cL_law 332 = .ok (.iaload, 1) := by decide +kernel
theorem dL_law_333 : decode cL_law 333 = .ok (.aload_n 0, 1) := by decide +kernel
theorem dL_law_334 : decode cL_law 334 = .ok (.iload_n 3, 1) := by decide +kernel
theorem dL_law_335 : decode cL_law 335 = .ok (.iconst 2, 1) := by decide +kernel
theorem dL_law_336 : decode cL_law 336 = .ok (.iadd, 1) := by decide +kernel
theorem dL_law_337 : decode cL_law 337 = .ok (.iaload, 1) := by decide +kernel
theorem dL_law_338 : decode cL_law 338 = .ok (.invokevirtual 39, 3) := by decide +kernel
theorem dL_law_341 : decode cL_law 341 = .ok (.if_icmp .eq 304, 3) := by decide +kernel
theorem dL_law_344 : decode cL_law 344 = .ok (.iconst 0, 1) := by decide +kernel
theorem dL_law_345 : decode cL_law 345 = .ok (.ireturn, 1) := by decide +kernel
theorem dL_law_346 : decode cL_law 346 = .ok (.aload_n 1, 1) := by decide +kernel
theorem dL_law_347 : decode cL_law 347 = .ok (.invokevirtual 40, 3) := by decide +kernel
theorem dL_law_350 : decode cL_law 350 = .ok (.aload_n 2, 1) := by decide +kernel
theorem dL_law_351 : decode cL_law 351 = .ok (.invokevirtual 44, 3) := by decide +kernel
theorem dL_law_354 : decode cL_law 354 = .ok (.if_icmp .eq 291, 3) := by decide +kernel
theorem dL_law_357 : decode cL_law 357 = .ok (.iconst 0, 1) := by decide +kernel
theorem dL_law_358 : decode cL_law 358 = .ok (.ireturn, 1) := by decide +kernel
theorem dL_law_359 : decode cL_law 359 = .ok (.aload_n 1, 1) := by decide +kernel
theorem dL_law_360 : decode cL_law 360 = .ok (.aload_n 0, 1) := by decide +kernel
theorem dL_law_361 : decode cL_law 361 = .ok (.iload_n 3, 1) := by decide +kernel
theorem dL_law_362 : decode cL_law 362 = .ok (.iconst 1, 1) := by decide +kernel
theorem dL_law_363 : decode cL_law 363 = .ok (.iadd, 1) := by decide +kernel
theorem dL_law_364 : decode cL_law 364 = .ok (.iaload, 1) := by decide +kernel
theorem dL_law_365 : decode cL_law 365 = .ok (.aload_n 0, 1) := by decide +kernel
theorem dL_law_366 : decode cL_law 366 = .ok (.iload_n 3, 1) := by decide +kernel
theorem dL_law_367 : decode cL_law 367 = .ok (.iconst 2, 1) := by decide +kernel
theorem dL_law_368 : decode cL_law 368 = .ok (.iadd, 1) := by decide +kernel
theorem dL_law_369 : decode cL_law 369 = .ok (.iaload, 1) := by decide +kernel
theorem dL_law_370 : decode cL_law 370 = .ok (.aload_n 0, 1) := by decide +kernel
theorem dL_law_371 : decode cL_law 371 = .ok (.iload_n 3, 1) := by decide +kernel
theorem dL_law_372 : decode cL_law 372 = .ok (.iconst 3, 1) := by decide +kernel
theorem dL_law_373 : decode cL_law 373 = .ok (.iadd, 1) := by decide +kernel
theorem dL_law_374 : decode cL_law 374 = .ok (.iaload, 1) := by decide +kernel
theorem dL_law_375 : decode cL_law 375 = .ok (.aload_n 0, 1) := by decide +kernel
theorem dL_law_376 : decode cL_law 376 = .ok (.iload_n 3, 1) := by decide +kernel
theorem dL_law_377 : decode cL_law 377 = .ok (.iconst 4, 1) := by decide +kernel
theorem dL_law_378 : decode cL_law 378 = .ok (.iadd, 1) := by decide +kernel
theorem dL_law_379 : decode cL_law 379 = .ok (.iaload, 1) := by decide +kernel
theorem dL_law_380 : decode cL_law 380 = .ok (.invokevirtual 45, 3) := by decide +kernel
theorem dL_law_383 : decode cL_law 383 = .ok (.aload_n 2, 1) := by decide +kernel
theorem dL_law_384 : decode cL_law 384 = .ok (.aload_n 0, 1) := by decide +kernel
theorem dL_law_385 : decode cL_law 385 = .ok (.iload_n 3, 1) := by decide +kernel
theorem dL_law_386 : decode cL_law 386 = .ok (.iconst 1, 1) := by decide +kernel
theorem dL_law_387 : decode cL_law 387 = .ok (.iadd, 1) := by decide +kernel
theorem dL_law_388 : decode cL_law 388 = .ok (.iaload, 1) := by decide +kernel
theorem dL_law_389 : decode cL_law 389 = .ok (.aload_n 0, 1) := by decide +kernel
theorem dL_law_390 : decode cL_law 390 = .ok (.iload_n 3, 1) := by decide +kernel
theorem dL_law_391 : decode cL_law 391 = .ok (.iconst 2, 1) := by decide +kernel
theorem dL_law_392 : decode cL_law 392 = .ok (.iadd, 1) := by decide +kernel
theorem dL_law_393 : decode cL_law 393 = .ok (.iaload, 1) := by decide +kernel
theorem dL_law_394 : decode cL_law 394 = .ok (.aload_n 0, 1) := by decide +kernel
theorem dL_law_395 : decode cL_law 395 = .ok (.iload_n 3, 1) := by decide +kernel
theorem dL_law_396 : decode cL_law 396 = .ok (.iconst 3, 1) := by decide +kernel
theorem dL_law_397 : decode cL_law 397 = .ok (.iadd, 1) := by decide +kernel
theorem dL_law_398 : decode cL_law 398 = .ok (.iaload, 1) := by decide +kernel
theorem dL_law_399 : decode cL_law 399 = .ok (.aload_n 0, 1) := by decide +kernel
theorem dL_law_400 : decode cL_law 400 = .ok (.iload_n 3, 1) := by decide +kernel
theorem dL_law_401 : decode cL_law 401 = .ok (.iconst 4, 1) := by decide +kernel
theorem dL_law_402 : decode cL_law 402 = .ok (.iadd, 1) := by decide +kernel
theorem dL_law_403 : decode cL_law 403 = .ok (.iaload, 1) := by decide +kernel
theorem dL_law_404 : decode cL_law 404 = .ok (.invokevirtual 49, 3) := by decide +kernel
theorem dL_law_407 : decode cL_law 407 = .ok (.if_icmp .eq 238, 3) := by decide +kernel
theorem dL_law_410 : decode cL_law 410 = .ok (.iconst 0, 1) := by decide +kernel
theorem dL_law_411 : decode cL_law 411 = .ok (.ireturn, 1) := by decide +kernel
theorem dL_law_412 : decode cL_law 412 = .ok (.aload_n 1, 1) := by decide +kernel
theorem dL_law_413 : decode cL_law 413 = .ok (.aload_n 0, 1) := by decide +kernel
theorem dL_law_414 : decode cL_law 414 = .ok (.iload_n 3, 1) := by decide +kernel
theorem dL_law_415 : decode cL_law 415 = .ok (.iconst 1, 1) := by decide +kernel
theorem dL_law_416 : decode cL_law 416 = .ok (.iadd, 1) := by decide +kernel
theorem dL_law_417 : decode cL_law 417 = .ok (.iaload, 1) := by decide +kernel
theorem dL_law_418 : decode cL_law 418 = .ok (.invokevirtual 50, 3) := by decide +kernel
theorem dL_law_421 : decode cL_law 421 = .ok (.aload_n 2, 1) := by decide +kernel
theorem dL_law_422 : decode cL_law 422 = .ok (.aload_n 0, 1) := by decide +kernel
theorem dL_law_423 : decode cL_law 423 = .ok (.iload_n 3, 1) := by decide +kernel
theorem dL_law_424 : decode cL_law 424 = .ok (.iconst 1, 1) := by decide +kernel
theorem dL_law_425 : decode cL_law 425 = .ok (.iadd, 1) := by decide +kernel
theorem dL_law_426 : decode cL_law 426 = .ok (.iaload, 1) := by decide +kernel
theorem dL_law_427 : decode cL_law 427 = .ok (.invokevirtual 53, 3) := by decide +kernel
theorem dL_law_430 : decode cL_law 430 = .ok (.if_icmp .eq 215, 3) := by decide +kernel
theorem dL_law_433 : decode cL_law 433 = .ok (.iconst 0, 1) := by decide +kernel
theorem dL_law_434 : decode cL_law 434 = .ok (.ireturn, 1) := by decide +kernel
theorem dL_law_435 : decode cL_law 435 = .ok (.aload_n 1, 1) := by decide +kernel
theorem dL_law_436 : decode cL_law 436 = .ok (.invokevirtual 54, 3) := by decide +kernel
theorem dL_law_439 : decode cL_law 439 = .ok (.aload_n 2, 1) := by decide +kernel
theorem dL_law_440 : decode cL_law 440 = .ok (.invokevirtual 57, 3) := by decide +kernel
theorem dL_law_443 : decode cL_law 443 = .ok (.if_icmp .eq 202, 3) := by decide +kernel
theorem dL_law_446 : decode cL_law 446 = .ok (.iconst 0, 1) := by decide +kernel
theorem dL_law_447 : decode cL_law 447 = .ok (.ireturn, 1) := by decide +kernel
theorem dL_law_448 : decode cL_law 448 = .ok (.aload_n 1, 1) := by decide +kernel
theorem dL_law_449 : decode cL_law 449 = .ok (.invokevirtual 58, 3) := by decide +kernel
theorem dL_law_452 : decode cL_law 452 = .ok (.aload_n 2, 1) := by decide +kernel
theorem dL_law_453 : decode cL_law 453 = .ok (.invokevirtual 61, 3) := by decide +kernel
theorem dL_law_456 : decode cL_law 456 = .ok (.if_icmp .eq 189, 3) := by decide +kernel
theorem dL_law_459 : decode cL_law 459 = .ok (.iconst 0, 1) := by decide +kernel
theorem dL_law_460 : decode cL_law 460 = .ok (.ireturn, 1) := by decide +kernel
theorem dL_law_461 : decode cL_law 461 = .ok (.aload_n 1, 1) := by decide +kernel
theorem dL_law_462 : decode cL_law 462 = .ok (.invokevirtual 62, 3) := by decide +kernel
theorem dL_law_465 : decode cL_law 465 = .ok (.aload_n 2, 1) := by decide +kernel
theorem dL_law_466 : decode cL_law 466 = .ok (.invokevirtual 65, 3) := by decide +kernel
theorem dL_law_469 : decode cL_law 469 = .ok (.if_icmp .eq 176, 3) := by decide +kernel
theorem dL_law_472 : decode cL_law 472 = .ok (.iconst 0, 1) := by decide +kernel
theorem dL_law_473 : decode cL_law 473 = .ok (.ireturn, 1) := by decide +kernel
theorem dL_law_474 : decode cL_law 474 = .ok (.aload_n 1, 1) := by decide +kernel
theorem dL_law_475 : decode cL_law 475 = .ok (.aload_n 0, 1) := by decide +kernel
theorem dL_law_476 : decode cL_law 476 = .ok (.iload_n 3, 1) := by decide +kernel
theorem dL_law_477 : decode cL_law 477 = .ok (.iconst 1, 1) := by decide +kernel
theorem dL_law_478 : decode cL_law 478 = .ok (.iadd, 1) := by decide +kernel
theorem dL_law_479 : decode cL_law 479 = .ok (.iaload, 1) := by decide +kernel
theorem dL_law_480 : decode cL_law 480 = .ok (.invokevirtual 66, 3) := by decide +kernel
theorem dL_law_483 : decode cL_law 483 = .ok (.aload_n 2, 1) := by decide +kernel
theorem dL_law_484 : decode cL_law 484 = .ok (.aload_n 0, 1) := by decide +kernel
theorem dL_law_485 : decode cL_law 485 = .ok (.iload_n 3, 1) := by decide +kernel
theorem dL_law_486 : decode cL_law 486 = .ok (.iconst 1, 1) := by decide +kernel
theorem dL_law_487 : decode cL_law 487 = .ok (.iadd, 1) := by decide +kernel
theorem dL_law_488 : decode cL_law 488 = .ok (.iaload, 1) := by decide +kernel
theorem dL_law_489 : decode cL_law 489 = .ok (.invokevirtual 69, 3) := by decide +kernel
theorem dL_law_492 : decode cL_law 492 = .ok (.if_icmp .eq 153, 3) := by decide +kernel
theorem dL_law_495 : decode cL_law 495 = .ok (.iconst 0, 1) := by decide +kernel
theorem dL_law_496 : decode cL_law 496 = .ok (.ireturn, 1) := by decide +kernel
theorem dL_law_497 : decode cL_law 497 = .ok (.aload_n 1, 1) := by decide +kernel
theorem dL_law_498 : decode cL_law 498 = .ok (.invokevirtual 70, 3) := by decide +kernel
theorem dL_law_501 : decode cL_law 501 = .ok (.aload_n 2, 1) := by decide +kernel
theorem dL_law_502 : decode cL_law 502 = .ok (.invokevirtual 73, 3) := by decide +kernel
theorem dL_law_505 : decode cL_law 505 = .ok (.if_icmp .eq 140, 3) := by decide +kernel
theorem dL_law_508 : decode cL_law 508 = .ok (.iconst 0, 1) := by decide +kernel
theorem dL_law_509 : decode cL_law 509 = .ok (.ireturn, 1) := by decide +kernel
theorem dL_law_510 : decode cL_law 510 = .ok (.aload_n 1, 1) := by decide +kernel
theorem dL_law_511 : decode cL_law 511 = .ok (.invokevirtual 74, 3) := by decide +kernel
theorem dL_law_514 : decode cL_law 514 = .ok (.aload_n 2, 1) := by decide +kernel
theorem dL_law_515 : decode cL_law 515 = .ok (.invokevirtual 77, 3) := by decide +kernel
theorem dL_law_518 : decode cL_law 518 = .ok (.if_icmp .eq 127, 3) := by decide +kernel
theorem dL_law_521 : decode cL_law 521 = .ok (.iconst 0, 1) := by decide +kernel
theorem dL_law_522 : decode cL_law 522 = .ok (.ireturn, 1) := by decide +kernel
theorem dL_law_523 : decode cL_law 523 = .ok (.aload_n 1, 1) := by decide +kernel
theorem dL_law_524 : decode cL_law 524 = .ok (.aload_n 0, 1) := by decide +kernel
theorem dL_law_525 : decode cL_law 525 = .ok (.iload_n 3, 1) := by decide +kernel
theorem dL_law_526 : decode cL_law 526 = .ok (.iconst 1, 1) := by decide +kernel
theorem dL_law_527 : decode cL_law 527 = .ok (.iadd, 1) := by decide +kernel
theorem dL_law_528 : decode cL_law 528 = .ok (.iaload, 1) := by decide +kernel
theorem dL_law_529 : decode cL_law 529 = .ok (.ifCond .eq 7, 3) := by decide +kernel
theorem dL_law_532 : decode cL_law 532 = .ok (.iconst 1, 1) := by decide +kernel
theorem dL_law_533 : decode cL_law 533 = .ok (.goto 4, 3) := by decide +kernel
theorem dL_law_536 : decode cL_law 536 = .ok (.iconst 0, 1) := by decide +kernel
theorem dL_law_537 : decode cL_law 537 = .ok (.invokevirtual 78, 3) := by decide +kernel
theorem dL_law_540 : decode cL_law 540 = .ok (.aload_n 2, 1) := by decide +kernel
theorem dL_law_541 : decode cL_law 541 = .ok (.aload_n 0, 1) := by decide +kernel
theorem dL_law_542 : decode cL_law 542 = .ok (.iload_n 3, 1) := by decide +kernel
theorem dL_law_543 : decode cL_law 543 = .ok (.iconst 1, 1) := by decide +kernel
theorem dL_law_544 : decode cL_law 544 = .ok (.iadd, 1) := by decide +kernel
theorem dL_law_545 : decode cL_law 545 = .ok (.iaload, 1) := by decide +kernel
theorem dL_law_546 : decode cL_law 546 = .ok (.ifCond .eq 7, 3) := by decide +kernel
theorem dL_law_549 : decode cL_law 549 = .ok (.iconst 1, 1) := by decide +kernel
theorem dL_law_550 : decode cL_law 550 = .ok (.goto 4, 3) := by decide +kernel
theorem dL_law_553 : decode cL_law 553 = .ok (.iconst 0, 1) := by decide +kernel
theorem dL_law_554 : decode cL_law 554 = .ok (.invokevirtual 82, 3) := by decide +kernel
theorem dL_law_557 : decode cL_law 557 = .ok (.if_icmp .eq 88, 3) := by decide +kernel
theorem dL_law_560 : decode cL_law 560 = .ok (.iconst 0, 1) := by decide +kernel
theorem dL_law_561 : decode cL_law 561 = .ok (.ireturn, 1) := by decide +kernel
theorem dL_law_562 : decode cL_law 562 = .ok (.aload_n 1, 1) := by decide +kernel
theorem dL_law_563 : decode cL_law 563 = .ok (.aload_n 0, 1) := by decide +kernel
theorem dL_law_564 : decode cL_law 564 = .ok (.iload_n 3, 1) := by decide +kernel
theorem dL_law_565 : decode cL_law 565 = .ok (.iconst 1, 1) := by decide +kernel
theorem dL_law_566 : decode cL_law 566 = .ok (.iadd, 1) := by decide +kernel
theorem dL_law_567 : decode cL_law 567 = .ok (.iaload, 1) := by decide +kernel
theorem dL_law_568 : decode cL_law 568 = .ok (.invokevirtual 83, 3) := by decide +kernel
theorem dL_law_571 : decode cL_law 571 = .ok (.aload_n 2, 1) := by decide +kernel
theorem dL_law_572 : decode cL_law 572 = .ok (.aload_n 0, 1) := by decide +kernel
theorem dL_law_573 : decode cL_law 573 = .ok (.iload_n 3, 1) := by decide +kernel
theorem dL_law_574 : decode cL_law 574 = .ok (.iconst 1, 1) := by decide +kernel
theorem dL_law_575 : decode cL_law 575 = .ok (.iadd, 1) := by decide +kernel
theorem dL_law_576 : decode cL_law 576 = .ok (.iaload, 1) := by decide +kernel
theorem dL_law_577 : decode cL_law 577 = .ok (.invokevirtual 86, 3) := by decide +kernel
theorem dL_law_580 : decode cL_law 580 = .ok (.if_icmp .eq 65, 3) := by decide +kernel
theorem dL_law_583 : decode cL_law 583 = .ok (.iconst 0, 1) := by decide +kernel
theorem dL_law_584 : decode cL_law 584 = .ok (.ireturn, 1) := by decide +kernel
theorem dL_law_585 : decode cL_law 585 = .ok (.aload_n 1, 1) := by decide +kernel
theorem dL_law_586 : decode cL_law 586 = .ok (.aload_n 0, 1) := by decide +kernel
theorem dL_law_587 : decode cL_law 587 = .ok (.iload_n 3, 1) := by decide +kernel
theorem dL_law_588 : decode cL_law 588 = .ok (.iconst 1, 1) := by decide +kernel
theorem dL_law_589 : decode cL_law 589 = .ok (.iadd, 1) := by decide +kernel
theorem dL_law_590 : decode cL_law 590 = .ok (.iaload, 1) := by decide +kernel
theorem dL_law_591 : decode cL_law 591 = .ok (.invokevirtual 87, 3) := by decide +kernel
theorem dL_law_594 : decode cL_law 594 = .ok (.aload_n 2, 1) := by decide +kernel
theorem dL_law_595 : decode cL_law 595 = .ok (.aload_n 0, 1) := by decide +kernel
theorem dL_law_596 : decode cL_law 596 = .ok (.iload_n 3, 1) := by decide +kernel
theorem dL_law_597 : decode cL_law 597 = .ok (.iconst 1, 1) := by decide +kernel
theorem dL_law_598 : decode cL_law 598 = .ok (.iadd, 1) := by decide +kernel
theorem dL_law_599 : decode cL_law 599 = .ok (.iaload, 1) := by decide +kernel
theorem dL_law_600 : decode cL_law 600 = .ok (.invokevirtual 90, 3) := by decide +kernel
theorem dL_law_603 : decode cL_law 603 = .ok (.if_icmp .eq 42, 3) := by decide +kernel
theorem dL_law_606 : decode cL_law 606 = .ok (.iconst 0, 1) := by decide +kernel
theorem dL_law_607 : decode cL_law 607 = .ok (.ireturn, 1) := by decide +kernel
theorem dL_law_608 : decode cL_law 608 = .ok (.aload_n 1, 1) := by decide +kernel
theorem dL_law_609 : decode cL_law 609 = .ok (.aload_n 0, 1) := by decide +kernel
theorem dL_law_610 : decode cL_law 610 = .ok (.iload_n 3, 1) := by decide +kernel
theorem dL_law_611 : decode cL_law 611 = .ok (.iconst 1, 1) := by decide +kernel
theorem dL_law_612 : decode cL_law 612 = .ok (.iadd, 1) := by decide +kernel
theorem dL_law_613 : decode cL_law 613 = .ok (.iaload, 1) := by decide +kernel
theorem dL_law_614 : decode cL_law 614 = .ok (.invokevirtual 91, 3) := by decide +kernel
theorem dL_law_617 : decode cL_law 617 = .ok (.aload_n 2, 1) := by decide +kernel
theorem dL_law_618 : decode cL_law 618 = .ok (.aload_n 0, 1) := by decide +kernel
theorem dL_law_619 : decode cL_law 619 = .ok (.iload_n 3, 1) := by decide +kernel
theorem dL_law_620 : decode cL_law 620 = .ok (.iconst 1, 1) := by decide +kernel
theorem dL_law_621 : decode cL_law 621 = .ok (.iadd, 1) := by decide +kernel
theorem dL_law_622 : decode cL_law 622 = .ok (.iaload, 1) := by decide +kernel
theorem dL_law_623 : decode cL_law 623 = .ok (.invokevirtual 94, 3) := by decide +kernel
theorem dL_law_626 : decode cL_law 626 = .ok (.if_icmp .eq 19, 3) := by decide +kernel
theorem dL_law_629 : decode cL_law 629 = .ok (.iconst 0, 1) := by decide +kernel
theorem dL_law_630 : decode cL_law 630 = .ok (.ireturn, 1) := by decide +kernel
theorem dL_law_631 : decode cL_law 631 = .ok (.aload_n 1, 1) := by decide +kernel
theorem dL_law_632 : decode cL_law 632 = .ok (.invokevirtual 95, 3) := by decide +kernel
theorem dL_law_635 : decode cL_law 635 = .ok (.aload_n 2, 1) := by decide +kernel
theorem dL_law_636 : decode cL_law 636 = .ok (.invokevirtual 99, 3) := by decide +kernel
theorem dL_law_639 : decode cL_law 639 = .ok (.lcmp, 1) := by decide +kernel
theorem dL_law_640 : decode cL_law 640 = .ok (.ifCond .eq 5, 3) := by decide +kernel
theorem dL_law_643 : decode cL_law 643 = .ok (.iconst 0, 1) := by decide +kernel
theorem dL_law_644 : decode cL_law 644 = .ok (.ireturn, 1) := by decide +kernel
theorem dL_law_645 : decode cL_law 645 = .ok (.iinc 3 6, 3) := by decide +kernel
theorem dL_law_648 : decode cL_law 648 = .ok (.goto (-630), 3) := by decide +kernel
theorem dL_law_651 : decode cL_law 651 = .ok (.iconst 1, 1) := by decide +kernel
theorem dL_law_652 : decode cL_law 652 = .ok (.ireturn, 1) := by decide +kernel
