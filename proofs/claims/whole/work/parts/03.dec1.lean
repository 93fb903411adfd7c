theorem dX0_init_0 : decode cX0_init 0 = .ok (.aload_n 0, 1) := by decide +kernel
theorem dX0_init_1 : decode cX0_init 1 = .ok (.invokespecial 5, 3) := by decide +kernel
theorem dX0_init_4 : decode cX0_init 4 = .ok (.aload_n 0, 1) := by decide +kernel
theorem dX0_init_5 : decode cX0_init 5 = .ok (.iconst 0, 1) := by decide +kernel
theorem dX0_init_6 : decode cX0_init 6 = .ok (.putfield 11, 3) := by decide +kernel
theorem dX0_init_9 : decode cX0_init 9 = .ok (.aload_n 0, 1) := by decide +kernel
theorem dX0_init_10 : decode cX0_init 10 = .ok (.iconst 0, 1) := by decide +kernel
theorem dX0_init_11 : decode cX0_init 11 = .ok (.putfield 15, 3) := by decide +kernel
theorem dX0_init_14 : decode cX0_init 14 = .ok (.aload_n 0, 1) := by decide +kernel
theorem dX0_init_15 : decode cX0_init 15 = .ok (.iconst 0, 1) := by decide +kernel
theorem dX0_init_16 : decode cX0_init 16 = .ok (.putfield 18, 3) := by decide +kernel
theorem dX0_init_19 : decode cX0_init 19 = .ok (.aload_n 0, 1) := by decide +kernel
theorem dX0_init_20 : decode cX0_init 20 = .ok (.iconst 0, 1) := by decide +kernel
theorem dX0_init_21 : decode cX0_init 21 = .ok (.putfield 21, 3) := by decide +kernel
theorem dX0_init_24 : decode cX0_init 24 = .ok (.aload_n 0, 1) := by decide +kernel
theorem dX0_init_25 : decode cX0_init 25 = .ok (.iconst 0, 1) := by decide +kernel
theorem dX0_init_26 : decode cX0_init 26 = .ok (.putfield 24, 3) := by decide +kernel
theorem dX0_init_29 : decode cX0_init 29 = .ok (.aload_n 0, 1) := by decide +kernel
theorem dX0_init_30 : decode cX0_init 30 = .ok (.iconst 0, 1) := by decide +kernel
theorem dX0_init_31 : decode cX0_init 31 = .ok (.putfield 27, 3) := by decide +kernel
theorem dX0_init_34 : decode cX0_init 34 = .ok (.aload_n 0, 1) := by decide +kernel
theorem dX0_init_35 : decode cX0_init 35 = .ok (.iconst 1, 1) := by decide +kernel
theorem dX0_init_36 : decode cX0_init 36 = .ok (.putfield 30, 3) := by decide +kernel
theorem dX0_init_39 : decode cX0_init 39 = .ok (.aload_n 0, 1) := by decide +kernel
theorem dX0_init_40 : decode cX0_init 40 = .ok (.bipush 12, 2) := by decide +kernel
theorem dX0_init_42 : decode cX0_init 42 = .ok (.newarray .int, 2) := by decide +kernel
theorem dX0_init_44 : decode cX0_init 44 = .ok (.putfield 33, 3) := by decide +kernel
theorem dX0_init_47 : decode cX0_init 47 = .ok (.aload_n 0, 1) := by decide +kernel
theorem dX0_init_48 : decode cX0_init 48 = .ok (.bipush 8, 2) := by decide +kernel
theorem dX0_init_50 : decode cX0_init 50 = .ok (.newarray .int, 2) := by decide +kernel
theorem dX0_init_52 : decode cX0_init 52 = .ok (.putfield 37, 3) := by decide +kernel
theorem dX0_init_55 : decode cX0_init 55 = .ok (.aload_n 0, 1) := by decide +kernel
theorem dX0_init_56 : decode cX0_init 56 = .ok (.bipush 8, 2) := by decide +kernel
theorem dX0_init_58 : decode cX0_init 58 = .ok (.newarray .int, 2) := by decide +kernel
theorem dX0_init_60 : decode cX0_init 60 = .ok (.putfield 40, 3) := by decide +kernel
theorem dX0_init_63 : decode cX0_init 63 = .ok (.aload_n 0, 1) := by decide +kernel
theorem dX0_init_64 : decode cX0_init 64 = .ok (.bipush 24, 2) := by decide +kernel
theorem dX0_init_66 : decode cX0_init 66 = .ok (.newarray .int, 2) := by decide +kernel
theorem dX0_init_68 : decode cX0_init 68 = .ok (.putfield 43, 3) := by decide +kernel
theorem dX0_init_71 : decode cX0_init 71 = .ok (.aload_n 0, 1) := by decide +kernel
theorem dX0_init_72 : decode cX0_init 72 = .ok (.bipush 24, 2) := by decide +kernel
theorem dX0_init_74 : decode cX0_init 74 = .ok (.newarray .int, 2) := by decide +kernel
theorem dX0_init_76 : decode cX0_init 76 = .ok (.putfield 46, 3) := by decide +kernel
theorem dX0_init_79 : decode cX0_init 79 = .ok (.aload_n 0, 1) := by decide +kernel
theorem dX0_init_80 : decode cX0_init 80 = .ok (.bipush 24, 2) := by decide +kernel
theorem dX0_init_82 : decode cX0_init 82 = .ok (.newarray .int, 2) := by decide +kernel
theorem dX0_init_84 : decode cX0_init 84 = .ok (.putfield 49, 3) := by decide +kernel
theorem dX0_init_87 : decode cX0_init 87 = .ok (.aload_n 0, 1) := by decide +kernel
theorem dX0_init_88 : decode cX0_init 88 = .ok (.bipush 24, 2) := by decide +kernel
theorem dX0_init_90 : decode cX0_init 90 = .ok (.newarray .int, 2) := by decide +kernel
theorem dX0_init_92 : decode cX0_init 92 = .ok (.putfield 52, 3) := by decide +kernel
theorem dX0_init_95 : decode cX0_init 95 = .ok (.aload_n 0, 1) := by decide +kernel
theorem dX0_init_96 : decode cX0_init 96 = .ok (.bipush 48, 2) := by decide +kernel
theorem dX0_init_98 : decode cX0_init 98 = .ok (.newarray .int, 2) := by decide +kernel
theorem dX0_init_100 : decode cX0_init 100 = .ok (.putfield 55, 3) := by decide +kernel
theorem dX0_init_103 : decode cX0_init 103 = .ok (.aload_n 0, 1) := by decide +kernel
theorem dX0_init_104 : decode cX0_init 104 = .ok (.bipush 24, 2) := by decide +kernel
theorem dX0_init_106 : decode cX0_init 106 = .ok (.newarray .int, 2) := by decide +kernel
theorem dX0_init_108 : decode cX0_init 108 = .ok (.putfield 58, 3) := by decide +kernel
theorem dX0_init_111 : decode cX0_init 111 = .ok (.return_, 1) := by decide +kernel
theorem dX0_clear_0 : decode cX0_clear 0 = .ok (.aload_n 0, 1) := by decide +kernel
theorem dX0_clear_1 : decode cX0_clear 1 = .ok (.iconst 0, 1) := by decide +kernel
theorem dX0_clear_2 : decode cX0_clear 2 = .ok (.putfield 11, 3) := by decide +kernel
theorem dX0_clear_5 : decode cX0_clear 5 = .ok (.aload_n 0, 1) := by decide +kernel
theorem dX0_clear_6 : decode cX0_clear 6 = .ok (.iconst 0, 1) := by decide +kernel
theorem dX0_clear_7 : decode cX0_clear 7 = .ok (.putfield 15, 3) := by decide +kernel
theorem dX0_clear_10 : decode cX0_clear 10 = .ok (.aload_n 0, 1) := by decide +kernel
theorem dX0_clear_11 : decode cX0_clear 11 = .ok (.iconst 0, 1) := by decide +kernel
theorem dX0_clear_12 : decode cX0_clear 12 = .ok (.putfield 18, 3) := by decide +kernel
theorem dX0_clear_15 : decode cX0_clear 15 = .ok (.aload_n 0, 1) := by decide +kernel
theorem dX0_clear_16 : decode cX0_clear 16 = .ok (.iconst 0, 1) := by decide +kernel
theorem dX0_clear_17 : decode cX0_clear 17 = .ok (.putfield 21, 3) := by decide +kernel
theorem dX0_clear_20 : decode cX0_clear 20 = .ok (.aload_n 0, 1) := by decide +kernel
theorem dX0_clear_21 : decode cX0_clear 21 = .ok (.iconst 0, 1) := by decide +kernel
theorem dX0_clear_22 : decode cX0_clear 22 = .ok (.putfield 24, 3) := by decide +kernel
theorem dX0_clear_25 : decode cX0_clear 25 = .ok (.aload_n 0, 1) := by decide +kernel
theorem dX0_clear_26 : decode cX0_clear 26 = .ok (.iconst 0, 1) := by decide +kernel
theorem dX0_clear_27 : decode cX0_clear 27 = .ok (.putfield 27, 3) := by decide +kernel
theorem dX0_clear_30 : decode cX0_clear 30 = .ok (.aload_n 0, 1) := by decide +kernel
theorem dX0_clear_31 : decode cX0_clear 31 = .ok (.iconst 1, 1) := by decide +kernel
theorem dX0_clear_32 : decode cX0_clear 32 = .ok (.putfield 30, 3) := by decide +kernel
theorem dX0_clear_35 : decode cX0_clear 35 = .ok (.return_, 1) := by decide +kernel
theorem dX0_hasJunction_0 : decode cX0_hasJunction 0 = .ok (.iload_n 1, 1) := by decide +kernel
theorem dX0_hasJunction_1 : decode cX0_hasJunction 1 = .ok (.ifCond .lt 15, 3) := by decide +kernel
theorem dX0_hasJunction_4 : decode cX0_hasJunction 4 = .ok (.iload_n 1, 1) := by decide +kernel
theorem dX0_hasJunction_5 : decode cX0_hasJunction 5 = .ok (.aload_n 0, 1) := by decide +kernel
theorem dX0_hasJunction_6 : decode cX0_hasJunction 6 = .ok (.getfield 11, 3) := by decide +kernel
theorem dX0_hasJunction_9 : decode cX0_hasJunction 9 = .ok (.if_icmp .ge 7, 3) := by decide +kernel
theorem dX0_hasJunction_12 : decode cX0_hasJunction 12 = .ok (.iconst 1, 1) := by decide +kernel
theorem dX0_hasJunction_13 : decode cX0_hasJunction 13 = .ok (.goto 4, 3) := by decide +kernel
theorem dX0_hasJunction_16 : decode cX0_hasJunction 16 = .ok (.iconst 0, 1) := by decide +kernel
theorem dX0_hasJunction_17 : decode cX0_hasJunction 17 = .ok (.ireturn, 1) := by decide +kernel
theorem dX0_hasPath_0 : decode cX0_hasPath 0 = .ok (.iload_n 1, 1) := by decide +kernel
theorem dX0_hasPath_1 : decode cX0_hasPath 1 = .ok (.ifCond .lt 15, 3) := by decide +kernel
theorem dX0_hasPath_4 : decode cX0_hasPath 4 = .ok (.iload_n 1, 1) := by decide +kernel
theorem dX0_hasPath_5 : decode cX0_hasPath 5 = .ok (.aload_n 0, 1) := by decide +kernel
theorem dX0_hasPath_6 : decode cX0_hasPath 6 = .ok (.getfield 15, 3) := by decide +kernel
theorem dX0_hasPath_9 : decode cX0_hasPath 9 = .ok (.if_icmp .ge 7, 3) := by decide +kernel
theorem dX0_hasPath_12 : decode cX0_hasPath 12 = .ok (.iconst 1, 1) := by decide +kernel
theorem dX0_hasPath_13 : decode cX0_hasPath 13 = .ok (.goto 4, 3) := by decide +kernel
theorem dX0_hasPath_16 : decode cX0_hasPath 16 = .ok (.iconst 0, 1) := by decide +kernel
theorem dX0_hasPath_17 : decode cX0_hasPath 17 = .ok (.ireturn, 1) := by decide +kernel
theorem dX0_hasPlace_0 : decode cX0_hasPlace 0 = .ok (.iload_n 1, 1) := by decide +kernel
theorem dX0_hasPlace_1 : decode cX0_hasPlace 1 = .ok (.ifCond .lt 15, 3) := by decide +kernel
theorem dX0_hasPlace_4 : decode cX0_hasPlace 4 = .ok (.iload_n 1, 1) := by decide +kernel
theorem dX0_hasPlace_5 : decode cX0_hasPlace 5 = .ok (.aload_n 0, 1) := by decide +kernel
theorem dX0_hasPlace_6 : decode cX0_hasPlace 6 = .ok (.getfield 18, 3) := by decide +kernel
theorem dX0_hasPlace_9 : decode cX0_hasPlace 9 = .ok (.if_icmp .ge 7, 3) := by decide +kernel
theorem dX0_hasPlace_12 : decode cX0_hasPlace 12 = .ok (.iconst 1, 1) := by decide +kernel
theorem dX0_hasPlace_13 : decode cX0_hasPlace 13 = .ok (.goto 4, 3) := by decide +kernel
theorem dX0_hasPlace_16 : decode cX0_hasPlace 16 = .ok (.iconst 0, 1) := by decide +kernel
theorem dX0_hasPlace_17 : decode cX0_hasPlace 17 = .ok (.ireturn, 1) := by decide +kernel
theorem dX0_placeOf_0 : decode cX0_placeOf 0 = .ok (.aload_n 0, 1) := by decide +kernel
theorem dX0_placeOf_1 : decode cX0_placeOf 1 = .ok (.iload_n 1, 1) := by decide +kernel
theorem dX0_placeOf_2 : decode cX0_placeOf 2 = .ok (.invokevirtual 61, 3) := by decide +kernel
theorem dX0_placeOf_5 : decode cX0_placeOf 5 = .ok (.ifCond .eq 17, 3) := by decide +kernel
theorem dX0_placeOf_8 : decode cX0_placeOf 8 = .ok (.iload_n 2, 1) := by decide +kernel
theorem dX0_placeOf_9 : decode cX0_placeOf 9 = .ok (.ifCond .lt 13, 3) := by decide +kernel
theorem dX0_placeOf_12 : decode cX0_placeOf 12 = .ok (.iload_n 2, 1) := by decide +kernel
theorem dX0_placeOf_13 : decode cX0_placeOf 13 = .ok (.aload_n 0, 1) := by decide +kernel
theorem dX0_placeOf_14 : decode cX0_placeOf 14 = .ok (.getfield 37, 3) := by decide +kernel
theorem dX0_placeOf_17 : decode cX0_placeOf 17 = .ok (.iload_n 1, 1) := by decide +kernel
theorem dX0_placeOf_18 : decode cX0_placeOf 18 = .ok (.iaload, 1) := by decide +kernel
theorem dX0_placeOf_19 : decode cX0_placeOf 19 = .ok (.if_icmp .lt 5, 3) := by decide +kernel
theorem dX0_placeOf_22 : decode cX0_placeOf 22 = .ok (.iconst (-1), 1) := by decide +kernel
theorem dX0_placeOf_23 : decode cX0_placeOf 23 = .ok (.ireturn, 1) := by decide +kernel
theorem dX0_placeOf_24 : decode cX0_placeOf 24 = .ok (.aload_n 0, 1) := by decide +kernel
theorem dX0_placeOf_25 : decode cX0_placeOf 25 = .ok (.getfield 40, 3) := by decide +kernel
theorem dX0_placeOf_28 : decode cX0_placeOf 28 = .ok (.iload_n 1, 1) := by decide +kernel
theorem dX0_placeOf_29 : decode cX0_placeOf 29 = .ok (.iaload, 1) := by decide +kernel
theorem dX0_placeOf_30 : decode cX0_placeOf 30 = .ok (.iload_n 2, 1) := by decide +kernel
theorem dX0_placeOf_31 : decode cX0_placeOf 31 = .ok (.iadd, 1) := by decide +kernel
theorem dX0_placeOf_32 : decode cX0_placeOf 32 = .ok (.ireturn, 1) := by decide +kernel
theorem dX0_addJunction_0 : decode cX0_addJunction 0 = .ok (.aload_n 0, 1) := by decide +kernel
theorem dX0_addJunction_1 : decode cX0_addJunction 1 = .ok (.getfield 11, 3) := by decide +kernel
theorem dX0_addJunction_4 : decode cX0_addJunction 4 = .ok (.bipush 8, 2) := by decide +kernel
theorem dX0_addJunction_6 : decode cX0_addJunction 6 = .ok (.if_icmp .lt 5, 3) := by decide +kernel
theorem dX0_addJunction_9 : decode cX0_addJunction 9 = .ok (.iconst (-1), 1) := by decide +kernel
theorem dX0_addJunction_10 : decode cX0_addJunction 10 = .ok (.ireturn, 1) := by decide +kernel
theorem dX0_addJunction_11 : decode cX0_addJunction 11 = .ok (.aload_n 0, 1) := by decide +kernel
theorem dX0_addJunction_12 : decode cX0_addJunction 12 = .ok (.getfield 11, 3) := by decide +kernel
theorem dX0_addJunction_15 : decode cX0_addJunction 15 = .ok (.istore_n 2, 1) := by decide +kernel
theorem dX0_addJunction_16 : decode cX0_addJunction 16 = .ok (.aload_n 0, 1) := by decide +kernel
theorem dX0_addJunction_17 : decode cX0_addJunction 17 = .ok (.dup, 1) := by decide +kernel
theorem dX0_addJunction_18 : decode cX0_addJunction 18 = .ok (.getfield 11, 3) := by decide +kernel
theorem dX0_addJunction_21 : decode cX0_addJunction 21 = .ok (.iconst 1, 1) := by decide +kernel
theorem dX0_addJunction_22 : decode cX0_addJunction 22 = .ok (.iadd, 1) := by decide +kernel
theorem dX0_addJunction_23 : decode cX0_addJunction 23 = .ok (.putfield 11, 3) := by decide +kernel
theorem dX0_addJunction_26 : decode cX0_addJunction 26 = .ok (.aload_n 0, 1) := by decide +kernel
theorem dX0_addJunction_27 : decode cX0_addJunction 27 = .ok (.aload_n 0, 1) := by decide +kernel
theorem dX0_addJunction_28 : decode cX0_addJunction 28 = .ok (.getfield 21, 3) := by decide +kernel
theorem dX0_addJunction_31 : decode cX0_addJunction 31 = .ok (.iload_n 2, 1) := by decide +kernel
theorem dX0_addJunction_32 : decode cX0_addJunction 32 = .ok (.iload_n 1, 1) := by decide +kernel
theorem dX0_addJunction_33 : decode cX0_addJunction 33 = .ok (.invokestatic 65, 3) := by decide +kernel
theorem dX0_addJunction_36 : decode cX0_addJunction 36 = .ok (.putfield 21, 3) := by decide +kernel
theorem dX0_addJunction_39 : decode cX0_addJunction 39 = .ok (.aload_n 0, 1) := by decide +kernel
theorem dX0_addJunction_40 : decode cX0_addJunction 40 = .ok (.getfield 37, 3) := by decide +kernel
theorem dX0_addJunction_43 : decode cX0_addJunction 43 = .ok (.iload_n 2, 1) := by decide +kernel
theorem dX0_addJunction_44 : decode cX0_addJunction 44 = .ok (.iconst 0, 1) := by decide +kernel
theorem dX0_addJunction_45 : decode cX0_addJunction 45 = .ok (.iastore, 1) := by decide +kernel
theorem dX0_addJunction_46 : decode cX0_addJunction 46 = .ok (.aload_n 0, 1) := by decide +kernel
theorem dX0_addJunction_47 : decode cX0_addJunction 47 = .ok (.getfield 40, 3) := by decide +kernel
theorem dX0_addJunction_50 : decode cX0_addJunction 50 = .ok (.iload_n 2, 1) := by decide +kernel
theorem dX0_addJunction_51 : decode cX0_addJunction 51 = .ok (.aload_n 0, 1) := by decide +kernel
theorem dX0_addJunction_52 : decode cX0_addJunction 52 = .ok (.getfield 18, 3) := by decide +kernel
theorem dX0_addJunction_55 : decode cX0_addJunction 55 = .ok (.iastore, 1) := by decide +kernel
theorem dX0_addJunction_56 : decode cX0_addJunction 56 = .ok (.iload_n 2, 1) := by decide +kernel
theorem dX0_addJunction_57 : decode cX0_addJunction 57 = .ok (.ireturn, 1) := by decide +kernel
theorem dX0_addPath_0 : decode cX0_addPath 0 = .ok (.aload_n 0, 1) := by decide +kernel
theorem dX0_addPath_1 : decode cX0_addPath 1 = .ok (.iload_n 1, 1) := by decide +kernel
theorem dX0_addPath_2 : decode cX0_addPath 2 = .ok (.invokevirtual 61, 3) := by decide +kernel
theorem dX0_addPath_5 : decode cX0_addPath 5 = .ok (.ifCond .eq 20, 3) := by decide +kernel
theorem dX0_addPath_8 : decode cX0_addPath 8 = .ok (.aload_n 0, 1) := by decide +kernel
theorem dX0_addPath_9 : decode cX0_addPath 9 = .ok (.iload_n 2, 1) := by decide +kernel
theorem dX0_addPath_10 : decode cX0_addPath 10 = .ok (.invokevirtual 61, 3) := by decide +kernel
theorem dX0_addPath_13 : decode cX0_addPath 13 = .ok (.ifCond .eq 12, 3) := by decide +kernel
theorem dX0_addPath_16 : decode cX0_addPath 16 = .ok (.aload_n 0, 1) := by decide +kernel
theorem dX0_addPath_17 : decode cX0_addPath 17 = .ok (.getfield 15, 3) := by decide +kernel
theorem dX0_addPath_20 : decode cX0_addPath 20 = .ok (.bipush 12, 2) := by decide +kernel
theorem dX0_addPath_22 : decode cX0_addPath 22 = .ok (.if_icmp .lt 5, 3) := by decide +kernel
theorem dX0_addPath_25 : decode cX0_addPath 25 = .ok (.iconst (-1), 1) := by decide +kernel
theorem dX0_addPath_26 : decode cX0_addPath 26 = .ok (.ireturn, 1) := by decide +kernel
theorem dX0_addPath_27 : decode cX0_addPath 27 = .ok (.iload_n 1, 1) := by decide +kernel
theorem dX0_addPath_28 : decode cX0_addPath 28 = .ok (.iload_n 2, 1) := by decide +kernel
theorem dX0_addPath_29 : decode cX0_addPath 29 = .ok (.if_icmp .ne 7, 3) := by decide +kernel
theorem dX0_addPath_32 : decode cX0_addPath 32 = .ok (.iconst 2, 1) := by decide +kernel
theorem dX0_addPath_33 : decode cX0_addPath 33 = .ok (.goto 4, 3) := by decide +kernel
theorem dX0_addPath_36 : decode cX0_addPath 36 = .ok (.iconst 1, 1) := by decide +kernel
theorem dX0_addPath_37 : decode cX0_addPath 37 = .ok (.istore_n 3, 1) := by decide +kernel
theorem dX0_addPath_38 : decode cX0_addPath 38 = .ok (.aload_n 0, 1) := by decide +kernel
theorem dX0_addPath_39 : decode cX0_addPath 39 = .ok (.getfield 37, 3) := by decide +kernel
theorem dX0_addPath_42 : decode cX0_addPath 42 = .ok (.iload_n 1, 1) := by decide +kernel
theorem dX0_addPath_43 : decode cX0_addPath 43 = .ok (.iaload, 1) := by decide +kernel
theorem dX0_addPath_44 : decode cX0_addPath 44 = .ok (.iload_n 3, 1) := by decide +kernel
theorem dX0_addPath_45 : decode cX0_addPath 45 = .ok (.iadd, 1) := by decide +kernel
theorem dX0_addPath_46 : decode cX0_addPath 46 = .ok (.bipush 6, 2) := by decide +kernel
theorem dX0_addPath_48 : decode cX0_addPath 48 = .ok (.if_icmp .gt 16, 3) := by decide +kernel
theorem dX0_addPath_51 : decode cX0_addPath 51 = .ok (.aload_n 0, 1) := by decide +kernel
theorem dX0_addPath_52 : decode cX0_addPath 52 = .ok (.getfield 37, 3) := by decide +kernel
theorem dX0_addPath_55 : decode cX0_addPath 55 = .ok (.iload_n 2, 1) := by decide +kernel
theorem dX0_addPath_56 : decode cX0_addPath 56 = .ok (.iaload, 1) := by decide +kernel
theorem dX0_addPath_57 : decode cX0_addPath 57 = .ok (.iload_n 3, 1) := by decide +kernel
theorem dX0_addPath_58 : decode cX0_addPath 58 = .ok (.iadd, 1) := by decide +kernel
theorem dX0_addPath_59 : decode cX0_addPath 59 = .ok (.bipush 6, 2) := by decide +kernel
theorem dX0_addPath_61 : decode cX0_addPath 61 = .ok (.if_icmp .le 5, 3) := by decide +kernel
theorem dX0_addPath_64 : decode cX0_addPath 64 = .ok (.iconst (-1), 1) := by decide +kernel
theorem dX0_addPath_65 : decode cX0_addPath 65 = .ok (.ireturn, 1) := by decide +kernel
theorem dX0_addPath_66 : decode cX0_addPath 66 = .ok (.aload_n 0, 1) := by decide +kernel
theorem dX0_addPath_67 : decode cX0_addPath 67 = .ok (.getfield 15, 3) := by decide +kernel
theorem dX0_addPath_70 : decode cX0_addPath 70 = .ok (.istore 4, 2) := by decide +kernel
theorem dX0_addPath_72 : decode cX0_addPath 72 = .ok (.aload_n 0, 1) := by decide +kernel
theorem dX0_addPath_73 : decode cX0_addPath 73 = .ok (.dup, 1) := by decide +kernel
theorem dX0_addPath_74 : decode cX0_addPath 74 = .ok (.getfield 15, 3) := by decide +kernel
theorem dX0_addPath_77 : decode cX0_addPath 77 = .ok (.iconst 1, 1) := by decide +kernel
theorem dX0_addPath_78 : decode cX0_addPath 78 = .ok (.iadd, 1) := by decide +kernel
theorem dX0_addPath_79 : decode cX0_addPath 79 = .ok (.putfield 15, 3) := by decide +kernel
theorem dX0_addPath_82 : decode cX0_addPath 82 = .ok (.aload_n 0, 1) := by decide +kernel
theorem dX0_addPath_83 : decode cX0_addPath 83 = .ok (.getfield 33, 3) := by decide +kernel
theorem dX0_addPath_86 : decode cX0_addPath 86 = .ok (.iload 4, 2) := by decide +kernel
theorem dX0_addPath_88 : decode cX0_addPath 88 = .ok (.sipush 255, 3) := by decide +kernel
theorem dX0_addPath_91 : decode cX0_addPath 91 = .ok (.iastore, 1) := by decide +kernel
theorem dX0_addPath_92 : decode cX0_addPath 92 = .ok (.aload_n 0, 1) := by decide +kernel
theorem dX0_addPath_93 : decode cX0_addPath 93 = .ok (.iload_n 1, 1) := by decide +kernel
theorem dX0_addPath_94 : decode cX0_addPath 94 = .ok (.iconst 2, 1) := by decide +kernel
theorem dX0_addPath_95 : decode cX0_addPath 95 = .ok (.iload 4, 2) := by decide +kernel
theorem dX0_addPath_97 : decode cX0_addPath 97 = .ok (.imul, 1) := by decide +kernel
theorem dX0_addPath_98 : decode cX0_addPath 98 = .ok (.invokevirtual 69, 3) := by decide +kernel
theorem dX0_addPath_101 : decode cX0_addPath 101 = .ok (.aload_n 0, 1) := by decide +kernel
theorem dX0_addPath_102 : decode cX0_addPath 102 = .ok (.iload_n 2, 1) := by decide +kernel
theorem dX0_addPath_103 : decode cX0_addPath 103 = .ok (.iconst 2, 1) := by decide +kernel
theorem dX0_addPath_104 : decode cX0_addPath 104 = .ok (.iload 4, 2) := by decide +kernel
theorem dX0_addPath_106 : decode cX0_addPath 106 = .ok (.imul, 1) := by decide +kernel
theorem dX0_addPath_107 : decode cX0_addPath 107 = .ok (.iconst 1, 1) := by decide +kernel
theorem dX0_addPath_108 : decode cX0_addPath 108 = .ok (.iadd, 1) := by decide +kernel
theorem dX0_addPath_109 : decode cX0_addPath 109 = .ok (.invokevirtual 69, 3) := by decide +kernel
theorem dX0_addPath_112 : decode cX0_addPath 112 = .ok (.aload_n 0, 1) := by decide +kernel
theorem dX0_addPath_113 : decode cX0_addPath 113 = .ok (.invokevirtual 73, 3) := by decide +kernel
theorem dX0_addPath_116 : decode cX0_addPath 116 = .ok (.iload 4, 2) := by decide +kernel
theorem dX0_addPath_118 : decode cX0_addPath 118 = .ok (.ireturn, 1) := by decide +kernel
theorem dX0_addEnd_0 : decode cX0_addEnd 0 = .ok (.aload_n 0, 1) := by decide +kernel
theorem dX0_addEnd_1 : decode cX0_addEnd 1 = .ok (.getfield 55, 3) := by decide +kernel
theorem dX0_addEnd_4 : decode cX0_addEnd 4 = .ok (.iload_n 1, 1) := by decide +kernel
theorem dX0_addEnd_5 : decode cX0_addEnd 5 = .ok (.bipush 6, 2) := by decide +kernel
theorem dX0_addEnd_7 : decode cX0_addEnd 7 = .ok (.imul, 1) := by decide +kernel
theorem dX0_addEnd_8 : decode cX0_addEnd 8 = .ok (.aload_n 0, 1) := by decide +kernel
theorem dX0_addEnd_9 : decode cX0_addEnd 9 = .ok (.getfield 37, 3) := by decide +kernel
theorem dX0_addEnd_12 : decode cX0_addEnd 12 = .ok (.iload_n 1, 1) := by decide +kernel
theorem dX0_addEnd_13 : decode cX0_addEnd 13 = .ok (.iaload, 1) := by decide +kernel
theorem dX0_addEnd_14 : decode cX0_addEnd 14 = .ok (.iadd, 1) := by decide +kernel
theorem dX0_addEnd_15 : decode cX0_addEnd 15 = .ok (.iload_n 2, 1) := by decide +kernel
theorem dX0_addEnd_16 : decode cX0_addEnd 16 = .ok (.iastore, 1) := by decide +kernel
theorem dX0_addEnd_17 : decode cX0_addEnd 17 = .ok (.aload_n 0, 1) := by decide +kernel
theorem dX0_addEnd_18 : decode cX0_addEnd 18 = .ok (.getfield 37, 3) := by decide +kernel
theorem dX0_addEnd_21 : decode cX0_addEnd 21 = .ok (.iload_n 1, 1) := by decide +kernel
theorem dX0_addEnd_22 : decode cX0_addEnd 22 = .ok (.dup2, 1) := by decide +kernel
theorem dX0_addEnd_23 : decode cX0_addEnd 23 = .ok (.iaload, 1) := by decide +kernel
theorem dX0_addEnd_24 : decode cX0_addEnd 24 = .ok (.iconst 1, 1) := by decide +kernel
theorem dX0_addEnd_25 : decode cX0_addEnd 25 = .ok (.iadd, 1) := by decide +kernel
theorem dX0_addEnd_26 : decode cX0_addEnd 26 = .ok (.iastore, 1) := by decide +kernel
theorem dX0_addEnd_27 : decode cX0_addEnd 27 = .ok (.return_, 1) := by decide +kernel
theorem dX0_numberPlaces_0 : decode cX0_numberPlaces 0 = .ok (.aload_n 0, 1) := by decide +kernel
theorem dX0_numberPlaces_1 : decode cX0_numberPlaces 1 = .ok (.iconst 0, 1) := by decide +kernel
theorem dX0_numberPlaces_2 : decode cX0_numberPlaces 2 = .ok (.putfield 18, 3) := by decide +kernel
theorem dX0_numberPlaces_5 : decode cX0_numberPlaces 5 = .ok (.iconst 0, 1) := by decide +kernel
theorem dX0_numberPlaces_6 : decode cX0_numberPlaces 6 = .ok (.istore_n 1, 1) := by decide +kernel
theorem dX0_numberPlaces_7 : decode cX0_numberPlaces 7 = .ok (.iload_n 1, 1) := by decide +kernel
theorem dX0_numberPlaces_8 : decode cX0_numberPlaces 8 = .ok (.aload_n 0, 1) := by decide +kernel
theorem dX0_numberPlaces_9 : decode cX0_numberPlaces 9 = .ok (.getfield 11, 3) := by decide +kernel
theorem dX0_numberPlaces_12 : decode cX0_numberPlaces 12 = .ok (.if_icmp .ge 101, 3) := by decide +kernel
theorem dX0_numberPlaces_15 : decode cX0_numberPlaces 15 = .ok (.aload_n 0, 1) := by decide +kernel
theorem dX0_numberPlaces_16 : decode cX0_numberPlaces 16 = .ok (.getfield 40, 3) := by decide +kernel
theorem dX0_numberPlaces_19 : decode cX0_numberPlaces 19 = .ok (.iload_n 1, 1) := by decide +kernel
theorem dX0_numberPlaces_20 : decode cX0_numberPlaces 20 = .ok (.aload_n 0, 1) := by decide +kernel
theorem dX0_numberPlaces_21 : decode cX0_numberPlaces 21 = .ok (.getfield 18, 3) := by decide +kernel
theorem dX0_numberPlaces_24 : decode cX0_numberPlaces 24 = .ok (.iastore, 1) := by decide +kernel
theorem dX0_numberPlaces_25 : decode cX0_numberPlaces 25 = .ok (.iconst 0, 1) := by decide +kernel
theorem dX0_numberPlaces_26 : decode cX0_numberPlaces 26 = .ok (.istore_n 2, 1) := by decide +kernel
theorem dX0_numberPlaces_27 : decode cX0_numberPlaces 27 = .ok (.iload_n 2, 1) := by decide +kernel
theorem dX0_numberPlaces_28 : decode cX0_numberPlaces 28 = .ok (.aload_n 0, 1) := by decide +kernel
theorem dX0_numberPlaces_29 : decode cX0_numberPlaces 29 = .ok (.getfield 37, 3) := by decide +kernel
theorem dX0_numberPlaces_32 : decode cX0_numberPlaces 32 = .ok (.iload_n 1, 1) := by decide +kernel
theorem dX0_numberPlaces_33 : decode cX0_numberPlaces 33 = .ok (.iaload, 1) := by decide +kernel
theorem dX0_numberPlaces_34 : decode cX0_numberPlaces 34 = .ok (.if_icmp .ge 73, 3) := by decide +kernel
theorem dX0_numberPlaces_37 : decode cX0_numberPlaces 37 = .ok (.aload_n 0, 1) := by decide +kernel
theorem dX0_numberPlaces_38 : decode cX0_numberPlaces 38 = .ok (.getfield 55, 3) := by decide +kernel
theorem dX0_numberPlaces_41 : decode cX0_numberPlaces 41 = .ok (.iload_n 1, 1) := by decide +kernel
theorem dX0_numberPlaces_42 : decode cX0_numberPlaces 42 = .ok (.bipush 6, 2) := by decide +kernel
theorem dX0_numberPlaces_44 : decode cX0_numberPlaces 44 = .ok (.imul, 1) := by decide +kernel
theorem dX0_numberPlaces_45 : decode cX0_numberPlaces 45 = .ok (.iload_n 2, 1) := by decide +kernel
theorem dX0_numberPlaces_46 : decode cX0_numberPlaces 46 = .ok (.iadd, 1) := by decide +kernel
theorem dX0_numberPlaces_47 : decode cX0_numberPlaces 47 = .ok (.iaload, 1) := by decide +kernel
theorem dX0_numberPlaces_48 : decode cX0_numberPlaces 48 = .ok (.istore_n 3, 1) := by decide +kernel
theorem dX0_numberPlaces_49 : decode cX0_numberPlaces 49 = .ok (.aload_n 0, 1) := by decide +kernel
theorem dX0_numberPlaces_50 : decode cX0_numberPlaces 50 = .ok (.getfield 43, 3) := by decide +kernel
theorem dX0_numberPlaces_53 : decode cX0_numberPlaces 53 = .ok (.aload_n 0, 1) := by decide +kernel
theorem dX0_numberPlaces_54 : decode cX0_numberPlaces 54 = .ok (.getfield 18, 3) := by decide +kernel
theorem dX0_numberPlaces_57 : decode cX0_numberPlaces 57 = .ok (.iload_n 1, 1) := by decide +kernel
theorem dX0_numberPlaces_58 : decode cX0_numberPlaces 58 = .ok (.iastore, 1) := by decide +kernel
theorem dX0_numberPlaces_59 : decode cX0_numberPlaces 59 = .ok (.aload_n 0, 1) := by decide +kernel
theorem dX0_numberPlaces_60 : decode cX0_numberPlaces 60 = .ok (.getfield 46, 3) := by decide +kernel
theorem dX0_numberPlaces_63 : decode cX0_numberPlaces 63 = .ok (.aload_n 0, 1) := by decide +kernel
theorem dX0_numberPlaces_64 : decode cX0_numberPlaces 64 = .ok (.getfield 18, 3) := by decide +kernel
theorem dX0_numberPlaces_67 : decode cX0_numberPlaces 67 = .ok (.iload_n 2, 1) := by decide +kernel
theorem dX0_numberPlaces_68 : decode cX0_numberPlaces 68 = .ok (.iastore, 1) := by decide +kernel
theorem dX0_numberPlaces_69 : decode cX0_numberPlaces 69 = .ok (.aload_n 0, 1) := by decide +kernel
theorem dX0_numberPlaces_70 : decode cX0_numberPlaces 70 = .ok (.getfield 49, 3) := by decide +kernel
theorem dX0_numberPlaces_73 : decode cX0_numberPlaces 73 = .ok (.aload_n 0, 1) := by decide +kernel
theorem dX0_numberPlaces_74 : decode cX0_numberPlaces 74 = .ok (.getfield 18, 3) := by decide +kernel
theorem dX0_numberPlaces_77 : decode cX0_numberPlaces 77 = .ok (.iload_n 3, 1) := by decide +kernel
theorem dX0_numberPlaces_78 : decode cX0_numberPlaces 78 = .ok (.iconst 2, 1) := by decide +kernel
theorem dX0_numberPlaces_79 : decode cX0_numberPlaces 79 = .ok (.idiv, 1) := by decide +kernel
theorem dX0_numberPlaces_80 : decode cX0_numberPlaces 80 = .ok (.iastore, 1) := by decide +kernel
theorem dX0_numberPlaces_81 : decode cX0_numberPlaces 81 = .ok (.aload_n 0, 1) := by decide +kernel
theorem dX0_numberPlaces_82 : decode cX0_numberPlaces 82 = .ok (.getfield 58, 3) := by decide +kernel
theorem dX0_numberPlaces_85 : decode cX0_numberPlaces 85 = .ok (.iload_n 3, 1) := by decide +kernel
theorem dX0_numberPlaces_86 : decode cX0_numberPlaces 86 = .ok (.aload_n 0, 1) := by decide +kernel
theorem dX0_numberPlaces_87 : decode cX0_numberPlaces 87 = .ok (.getfield 18, 3) := by decide +kernel
theorem dX0_numberPlaces_90 : decode cX0_numberPlaces 90 = .ok (.iastore, 1) := by decide +kernel
theorem dX0_numberPlaces_91 : decode cX0_numberPlaces 91 = .ok (.aload_n 0, 1) := by decide +kernel
theorem dX0_numberPlaces_92 : decode cX0_numberPlaces 92 = .ok (.dup, 1) := by decide +kernel
theorem dX0_numberPlaces_93 : decode cX0_numberPlaces 93 = .ok (.getfield 18, 3) := by decide +kernel
theorem dX0_numberPlaces_96 : decode cX0_numberPlaces 96 = .ok (.iconst 1, 1) := by decide +kernel
theorem dX0_numberPlaces_97 : decode cX0_numberPlaces 97 = .ok (.iadd, 1) := by decide +kernel
theorem dX0_numberPlaces_98 : decode cX0_numberPlaces 98 = .ok (.putfield 18, 3) := by decide +kernel
theorem dX0_numberPlaces_101 : decode cX0_numberPlaces 101 = .ok (.iinc 2 1, 3) := by decide +kernel
theorem dX0_numberPlaces_104 : decode cX0_numberPlaces 104 = .ok (.goto (-77), 3) := by decide +kernel
theorem dX0_numberPlaces_107 : decode cX0_numberPlaces 107 = .ok (.iinc 1 1, 3) := by decide +kernel
theorem dX0_numberPlaces_110 : decode cX0_numberPlaces 110 = .ok (.goto (-103), 3) := by decide +kernel
theorem dX0_numberPlaces_113 : decode cX0_numberPlaces 113 = .ok (.iconst 0, 1) := by decide +kernel
theorem dX0_numberPlaces_114 : decode cX0_numberPlaces 114 = .ok (.istore_n 1, 1) := by decide +kernel
theorem dX0_numberPlaces_115 : decode cX0_numberPlaces 115 = .ok (.iload_n 1, 1) := by decide +kernel
theorem dX0_numberPlaces_116 : decode cX0_numberPlaces 116 = .ok (.aload_n 0, 1) := by decide +kernel
theorem dX0_numberPlaces_117 : decode cX0_numberPlaces 117 = .ok (.getfield 18, 3) := by decide +kernel
theorem dX0_numberPlaces_120 : decode cX0_numberPlaces 120 = .ok (.if_icmp .ge 28, 3) := by decide +kernel
theorem dX0_numberPlaces_123 : decode cX0_numberPlaces 123 = .ok (.aload_n 0, 1) := by decide +kernel
theorem dX0_numberPlaces_124 : decode cX0_numberPlaces 124 = .ok (.getfield 52, 3) := by decide +kernel
theorem dX0_numberPlaces_127 : decode cX0_numberPlaces 127 = .ok (.aload_n 0, 1) := by decide +kernel
theorem dX0_numberPlaces_128 : decode cX0_numberPlaces 128 = .ok (.getfield 58, 3) := by decide +kernel
theorem dX0_numberPlaces_131 : decode cX0_numberPlaces 131 = .ok (.iload_n 1, 1) := by decide +kernel
theorem dX0_numberPlaces_132 : decode cX0_numberPlaces 132 = .ok (.iaload, 1) := by decide +kernel
theorem dX0_numberPlaces_133 : decode cX0_numberPlaces 133 = .ok (.aload_n 0, 1) := by decide +kernel
theorem dX0_numberPlaces_134 : decode cX0_numberPlaces 134 = .ok (.getfield 58, 3) := by decide +kernel
theorem dX0_numberPlaces_137 : decode cX0_numberPlaces 137 = .ok (.iload_n 1, 1) := by decide +kernel
theorem dX0_numberPlaces_138 : decode cX0_numberPlaces 138 = .ok (.iconst 1, 1) := by decide +kernel
theorem dX0_numberPlaces_139 : decode cX0_numberPlaces 139 = .ok (.ixor, 1) := by decide +kernel
theorem dX0_numberPlaces_140 : decode cX0_numberPlaces 140 = .ok (.iaload, 1) := by decide +kernel
theorem dX0_numberPlaces_141 : decode cX0_numberPlaces 141 = .ok (.iastore, 1) := by decide +kernel
theorem dX0_numberPlaces_142 : decode cX0_numberPlaces 142 = .ok (.iinc 1 1, 3) := by decide +kernel
theorem dX0_numberPlaces_145 : decode cX0_numberPlaces 145 = .ok (.goto (-30), 3) := by decide +kernel
theorem dX0_numberPlaces_148 : decode cX0_numberPlaces 148 = .ok (.return_, 1) := by decide +kernel
theorem dX0_endsAt_0 : decode cX0_endsAt 0 = .ok (.aload_n 0, 1) := by decide +kernel
theorem dX0_endsAt_1 : decode cX0_endsAt 1 = .ok (.getfield 37, 3) := by decide +kernel
theorem dX0_endsAt_4 : decode cX0_endsAt 4 = .ok (.aload_n 0, 1) := by decide +kernel
theorem dX0_endsAt_5 : decode cX0_endsAt 5 = .ok (.getfield 43, 3) := by decide +kernel
theorem dX0_endsAt_8 : decode cX0_endsAt 8 = .ok (.iload_n 1, 1) := by decide +kernel
theorem dX0_endsAt_9 : decode cX0_endsAt 9 = .ok (.iaload, 1) := by decide +kernel
theorem dX0_endsAt_10 : decode cX0_endsAt 10 = .ok (.iaload, 1) := by decide +kernel
theorem dX0_endsAt_11 : decode cX0_endsAt 11 = .ok (.ireturn, 1) := by decide +kernel
theorem dX0_beyond_0 : decode cX0_beyond 0 = .ok (.aload_n 0, 1) := by decide +kernel
theorem dX0_beyond_1 : decode cX0_beyond 1 = .ok (.iload_n 1, 1) := by decide +kernel
theorem dX0_beyond_2 : decode cX0_beyond 2 = .ok (.invokevirtual 76, 3) := by decide +kernel
theorem dX0_beyond_5 : decode cX0_beyond 5 = .ok (.istore_n 3, 1) := by decide +kernel
theorem dX0_beyond_6 : decode cX0_beyond 6 = .ok (.iload_n 3, 1) := by decide +kernel
theorem dX0_beyond_7 : decode cX0_beyond 7 = .ok (.iconst 1, 1) := by decide +kernel
theorem dX0_beyond_8 : decode cX0_beyond 8 = .ok (.if_icmp .ge 5, 3) := by decide +kernel
theorem dX0_beyond_11 : decode cX0_beyond 11 = .ok (.iload_n 1, 1) := by decide +kernel
theorem dX0_beyond_12 : decode cX0_beyond 12 = .ok (.ireturn, 1) := by decide +kernel
theorem dX0_beyond_13 : decode cX0_beyond 13 = .ok (.aload_n 0, 1) := by decide +kernel
theorem dX0_beyond_14 : decode cX0_beyond 14 = .ok (.getfield 52, 3) := by decide +kernel
theorem dX0_beyond_17 : decode cX0_beyond 17 = .ok (.aload_n 0, 1) := by decide +kernel
theorem dX0_beyond_18 : decode cX0_beyond 18 = .ok (.getfield 40, 3) := by decide +kernel
theorem dX0_beyond_21 : decode cX0_beyond 21 = .ok (.aload_n 0, 1) := by decide +kernel
theorem dX0_beyond_22 : decode cX0_beyond 22 = .ok (.getfield 43, 3) := by decide +kernel
theorem dX0_beyond_25 : decode cX0_beyond 25 = .ok (.iload_n 1, 1) := by decide +kernel
theorem dX0_beyond_26 : decode cX0_beyond 26 = .ok (.iaload, 1) := by decide +kernel
theorem dX0_beyond_27 : decode cX0_beyond 27 = .ok (.iaload, 1) := by decide +kernel
theorem dX0_beyond_28 : decode cX0_beyond 28 = .ok (.aload_n 0, 1) := by decide +kernel
theorem dX0_beyond_29 : decode cX0_beyond 29 = .ok (.getfield 46, 3) := by decide +kernel
theorem dX0_beyond_32 : decode cX0_beyond 32 = .ok (.iload_n 1, 1) := by decide +kernel
theorem dX0_beyond_33 : decode cX0_beyond 33 = .ok (.iaload, 1) := by decide +kernel
theorem dX0_beyond_34 : decode cX0_beyond 34 = .ok (.iload_n 2, 1) := by decide +kernel
theorem dX0_beyond_35 : decode cX0_beyond 35 = .ok (.iadd, 1) := by decide +kernel
theorem dX0_beyond_36 : decode cX0_beyond 36 = .ok (.iload_n 3, 1) := by decide +kernel
theorem dX0_beyond_37 : decode cX0_beyond 37 = .ok (.irem, 1) := by decide +kernel
theorem dX0_beyond_38 : decode cX0_beyond 38 = .ok (.iadd, 1) := by decide +kernel
theorem dX0_beyond_39 : decode cX0_beyond 39 = .ok (.iaload, 1) := by decide +kernel
theorem dX0_beyond_40 : decode cX0_beyond 40 = .ok (.ireturn, 1) := by decide +kernel
theorem dX0_placesWithEnds_0 : decode cX0_placesWithEnds 0 = .ok (.iconst 0, 1) := by decide +kernel
theorem dX0_placesWithEnds_1 : decode cX0_placesWithEnds 1 = .ok (.istore_n 2, 1) := by decide +kernel
theorem dX0_placesWithEnds_2 : decode cX0_placesWithEnds 2 = .ok (.iconst 0, 1) := by decide +kernel
theorem dX0_placesWithEnds_3 : decode cX0_placesWithEnds 3 = .ok (.istore_n 3, 1) := by decide +kernel
theorem dX0_placesWithEnds_4 : decode cX0_placesWithEnds 4 = .ok (.iload_n 3, 1) := by decide +kernel
theorem dX0_placesWithEnds_5 : decode cX0_placesWithEnds 5 = .ok (.aload_n 0, 1) := by decide +kernel
theorem dX0_placesWithEnds_6 : decode cX0_placesWithEnds 6 = .ok (.getfield 18, 3) := by decide +kernel
theorem dX0_placesWithEnds_9 : decode cX0_placesWithEnds 9 = .ok (.if_icmp .ge 25, 3) := by decide +kernel
theorem dX0_placesWithEnds_12 : decode cX0_placesWithEnds 12 = .ok (.aload_n 0, 1) := by decide +kernel
theorem dX0_placesWithEnds_13 : decode cX0_placesWithEnds 13 = .ok (.iload_n 3, 1) := by decide +kernel
theorem dX0_placesWithEnds_14 : decode cX0_placesWithEnds 14 = .ok (.invokevirtual 76, 3) := by decide +kernel
theorem dX0_placesWithEnds_17 : decode cX0_placesWithEnds 17 = .ok (.iload_n 1, 1) := by decide +kernel
theorem dX0_placesWithEnds_18 : decode cX0_placesWithEnds 18 = .ok (.if_icmp .ne 10, 3) := by decide +kernel
theorem dX0_placesWithEnds_21 : decode cX0_placesWithEnds 21 = .ok (.iload_n 2, 1) := by decide +kernel
theorem dX0_placesWithEnds_22 : decode cX0_placesWithEnds 22 = .ok (.iload_n 3, 1) := by decide +kernel
theorem dX0_placesWithEnds_23 : decode cX0_placesWithEnds 23 = .ok (.iconst 1, 1) := by decide +kernel
theorem dX0_placesWithEnds_24 : decode cX0_placesWithEnds 24 = .ok (.invokestatic 65, 3) := by decide +kernel
theorem dX0_placesWithEnds_27 : decode cX0_placesWithEnds 27 = .ok (.istore_n 2, 1) := by decide +kernel
theorem dX0_placesWithEnds_28 : decode cX0_placesWithEnds 28 = .ok (.iinc 3 1, 3) := by decide +kernel
theorem dX0_placesWithEnds_31 : decode cX0_placesWithEnds 31 = .ok (.goto (-27), 3) := by decide +kernel
theorem dX0_placesWithEnds_34 : decode cX0_placesWithEnds 34 = .ok (.iload_n 2, 1) := by decide +kernel
theorem dX0_placesWithEnds_35 : decode cX0_placesWithEnds 35 = .ok (.ireturn, 1) := by decide +kernel
theorem dX0_placesOfPaths_0 : decode cX0_placesOfPaths 0 = .ok (.iconst 0, 1) := by decide +kernel
theorem dX0_placesOfPaths_1 : decode cX0_placesOfPaths 1 = .ok (.istore_n 2, 1) := by decide +kernel
theorem dX0_placesOfPaths_2 : decode cX0_placesOfPaths 2 = .ok (.iconst 0, 1) := by decide +kernel
theorem dX0_placesOfPaths_3 : decode cX0_placesOfPaths 3 = .ok (.istore_n 3, 1) := by decide +kernel
theorem dX0_placesOfPaths_4 : decode cX0_placesOfPaths 4 = .ok (.iload_n 3, 1) := by decide +kernel
theorem dX0_placesOfPaths_5 : decode cX0_placesOfPaths 5 = .ok (.aload_n 0, 1) := by decide +kernel
theorem dX0_placesOfPaths_6 : decode cX0_placesOfPaths 6 = .ok (.getfield 18, 3) := by decide +kernel
theorem dX0_placesOfPaths_9 : decode cX0_placesOfPaths 9 = .ok (.if_icmp .ge 29, 3) := by decide +kernel
theorem dX0_placesOfPaths_12 : decode cX0_placesOfPaths 12 = .ok (.iload_n 1, 1) := by decide +kernel
theorem dX0_placesOfPaths_13 : decode cX0_placesOfPaths 13 = .ok (.aload_n 0, 1) := by decide +kernel
theorem dX0_placesOfPaths_14 : decode cX0_placesOfPaths 14 = .ok (.getfield 49, 3) := by decide +kernel
theorem dX0_placesOfPaths_17 : decode cX0_placesOfPaths 17 = .ok (.iload_n 3, 1) := by decide +kernel
theorem dX0_placesOfPaths_18 : decode cX0_placesOfPaths 18 = .ok (.iaload, 1) := by decide +kernel
theorem dX0_placesOfPaths_19 : decode cX0_placesOfPaths 19 = .ok (.invokestatic 80, 3) := by decide +kernel
theorem dX0_placesOfPaths_22 : decode cX0_placesOfPaths 22 = .ok (.ifCond .eq 10, 3) := by decide +kernel
theorem dX0_placesOfPaths_25 : decode cX0_placesOfPaths 25 = .ok (.iload_n 2, 1) := by decide +kernel
theorem dX0_placesOfPaths_26 : decode cX0_placesOfPaths 26 = .ok (.iload_n 3, 1) := by decide +kernel
theorem dX0_placesOfPaths_27 : decode cX0_placesOfPaths 27 = .ok (.iconst 1, 1) := by decide +kernel
theorem dX0_placesOfPaths_28 : decode cX0_placesOfPaths 28 = .ok (.invokestatic 65, 3) := by decide +kernel
theorem dX0_placesOfPaths_31 : decode cX0_placesOfPaths 31 = .ok (.istore_n 2, 1) := by decide +kernel
theorem dX0_placesOfPaths_32 : decode cX0_placesOfPaths 32 = .ok (.iinc 3 1, 3) := by decide +kernel
theorem dX0_placesOfPaths_35 : decode cX0_placesOfPaths 35 = .ok (.goto (-31), 3) := by decide +kernel
theorem dX0_placesOfPaths_38 : decode cX0_placesOfPaths 38 = .ok (.iload_n 2, 1) := by decide +kernel
theorem dX0_placesOfPaths_39 : decode cX0_placesOfPaths 39 = .ok (.ireturn, 1) := by decide +kernel
theorem dX0_placesOpenAt_0 : decode cX0_placesOpenAt 0 = .ok (.iconst 0, 1) := by decide +kernel
theorem dX0_placesOpenAt_1 : decode cX0_placesOpenAt 1 = .ok (.istore_n 2, 1) := by decide +kernel
theorem dX0_placesOpenAt_2 : decode cX0_placesOpenAt 2 = .ok (.iconst 0, 1) := by decide +kernel
theorem dX0_placesOpenAt_3 : decode cX0_placesOpenAt 3 = .ok (.istore_n 3, 1) := by decide +kernel
theorem dX0_placesOpenAt_4 : decode cX0_placesOpenAt 4 = .ok (.iload_n 3, 1) := by decide +kernel
theorem dX0_placesOpenAt_5 : decode cX0_placesOpenAt 5 = .ok (.aload_n 0, 1) := by decide +kernel
theorem dX0_placesOpenAt_6 : decode cX0_placesOpenAt 6 = .ok (.getfield 15, 3) := by decide +kernel
theorem dX0_placesOpenAt_9 : decode cX0_placesOpenAt 9 = .ok (.if_icmp .ge 29, 3) := by decide +kernel
theorem dX0_placesOpenAt_12 : decode cX0_placesOpenAt 12 = .ok (.aload_n 0, 1) := by decide +kernel
theorem dX0_placesOpenAt_13 : decode cX0_placesOpenAt 13 = .ok (.getfield 33, 3) := by decide +kernel
theorem dX0_placesOpenAt_16 : decode cX0_placesOpenAt 16 = .ok (.iload_n 3, 1) := by decide +kernel
theorem dX0_placesOpenAt_17 : decode cX0_placesOpenAt 17 = .ok (.iaload, 1) := by decide +kernel
theorem dX0_placesOpenAt_18 : decode cX0_placesOpenAt 18 = .ok (.iload_n 1, 1) := by decide +kernel
theorem dX0_placesOpenAt_19 : decode cX0_placesOpenAt 19 = .ok (.invokestatic 80, 3) := by decide +kernel
theorem dX0_placesOpenAt_22 : decode cX0_placesOpenAt 22 = .ok (.ifCond .eq 10, 3) := by decide +kernel
theorem dX0_placesOpenAt_25 : decode cX0_placesOpenAt 25 = .ok (.iload_n 2, 1) := by decide +kernel
theorem dX0_placesOpenAt_26 : decode cX0_placesOpenAt 26 = .ok (.iload_n 3, 1) := by decide +kernel
theorem dX0_placesOpenAt_27 : decode cX0_placesOpenAt 27 = .ok (.iconst 1, 1) := by decide +kernel
theorem dX0_placesOpenAt_28 : decode cX0_placesOpenAt 28 = .ok (.invokestatic 65, 3) := by decide +kernel
theorem dX0_placesOpenAt_31 : decode cX0_placesOpenAt 31 = .ok (.istore_n 2, 1) := by decide +kernel
theorem dX0_placesOpenAt_32 : decode cX0_placesOpenAt 32 = .ok (.iinc 3 1, 3) := by decide +kernel
theorem dX0_placesOpenAt_35 : decode cX0_placesOpenAt 35 = .ok (.goto (-31), 3) := by decide +kernel
theorem dX0_placesOpenAt_38 : decode cX0_placesOpenAt 38 = .ok (.aload_n 0, 1) := by decide +kernel
theorem dX0_placesOpenAt_39 : decode cX0_placesOpenAt 39 = .ok (.iload_n 2, 1) := by decide +kernel
theorem dX0_placesOpenAt_40 : decode cX0_placesOpenAt 40 = .ok (.aload_n 0, 1) := by decide +kernel
theorem dX0_placesOpenAt_41 : decode cX0_placesOpenAt 41 = .ok (.getfield 27, 3) := by decide +kernel
theorem dX0_placesOpenAt_44 : decode cX0_placesOpenAt 44 = .ok (.iconst (-1), 1) := by decide +kernel
theorem dX0_placesOpenAt_45 : decode cX0_placesOpenAt 45 = .ok (.ixor, 1) := by decide +kernel
theorem dX0_placesOpenAt_46 : decode cX0_placesOpenAt 46 = .ok (.iand, 1) := by decide +kernel
theorem dX0_placesOpenAt_47 : decode cX0_placesOpenAt 47 = .ok (.invokevirtual 84, 3) := by decide +kernel
theorem dX0_placesOpenAt_50 : decode cX0_placesOpenAt 50 = .ok (.ireturn, 1) := by decide +kernel
theorem dX1_init_0 : decode cX1_init 0 = .ok (.aload_n 0, 1) := by decide +kernel
theorem dX1_init_1 : decode cX1_init 1 = .ok (.invokespecial 3, 3) := by decide +kernel
theorem dX1_init_4 : decode cX1_init 4 = .ok (.aload_n 0, 1) := by decide +kernel
theorem dX1_init_5 : decode cX1_init 5 = .ok (.iconst 2, 1) := by decide +kernel
theorem dX1_init_6 : decode cX1_init 6 = .ok (.newarray .int, 2) := by decide +kernel
theorem dX1_init_8 : decode cX1_init 8 = .ok (.putfield 9, 3) := by decide +kernel
theorem dX1_init_11 : decode cX1_init 11 = .ok (.aload_n 0, 1) := by decide +kernel
theorem dX1_init_12 : decode cX1_init 12 = .ok (.iconst 0, 1) := by decide +kernel
theorem dX1_init_13 : decode cX1_init 13 = .ok (.putfield 15, 3) := by decide +kernel
theorem dX1_init_16 : decode cX1_init 16 = .ok (.aload_n 0, 1) := by decide +kernel
theorem dX1_init_17 : decode cX1_init 17 = .ok (.iconst 0, 1) := by decide +kernel
theorem dX1_init_18 : decode cX1_init 18 = .ok (.putfield 19, 3) := by decide +kernel
theorem dX1_init_21 : decode cX1_init 21 = .ok (.aload_n 0, 1) := by decide +kernel
theorem dX1_init_22 : decode cX1_init 22 = .ok (.aload_n 1, 1) := by decide +kernel
theorem dX1_init_23 : decode cX1_init 23 = .ok (.putfield 22, 3) := by decide +kernel
theorem dX1_init_26 : decode cX1_init 26 = .ok (.aload_n 0, 1) := by decide +kernel
theorem dX1_init_27 : decode cX1_init 27 = .ok (.aload_n 2, 1) := by decide +kernel
theorem dX1_init_28 : decode cX1_init 28 = .ok (.putfield 26, 3) := by decide +kernel
theorem dX1_init_31 : decode cX1_init 31 = .ok (.return_, 1) := by decide +kernel
theorem dX1_seek_0 : decode cX1_seek 0 = .ok (.aload_n 0, 1) := by decide +kernel
theorem dX1_seek_1 : decode cX1_seek 1 = .ok (.iconst 0, 1) := by decide +kernel
theorem dX1_seek_2 : decode cX1_seek 2 = .ok (.putfield 19, 3) := by decide +kernel
theorem dX1_seek_5 : decode cX1_seek 5 = .ok (.aload_n 0, 1) := by decide +kernel
theorem dX1_seek_6 : decode cX1_seek 6 = .ok (.iload_n 1, 1) := by decide +kernel
theorem dX1_seek_7 : decode cX1_seek 7 = .ok (.iconst 0, 1) := by decide +kernel
theorem dX1_seek_8 : decode cX1_seek 8 = .ok (.invokevirtual 30, 3) := by decide +kernel
theorem dX1_seek_11 : decode cX1_seek 11 = .ok (.ifCond .eq 11, 3) := by decide +kernel
theorem dX1_seek_14 : decode cX1_seek 14 = .ok (.aload_n 0, 1) := by decide +kernel
theorem dX1_seek_15 : decode cX1_seek 15 = .ok (.iconst 0, 1) := by decide +kernel
theorem dX1_seek_16 : decode cX1_seek 16 = .ok (.iconst (-1), 1) := by decide +kernel
theorem dX1_seek_17 : decode cX1_seek 17 = .ok (.iconst (-1), 1) := by decide +kernel
theorem dX1_seek_18 : decode cX1_seek 18 = .ok (.invokevirtual 34, 3) := by decide +kernel
theorem dX1_seek_21 : decode cX1_seek 21 = .ok (.ireturn, 1) := by decide +kernel
theorem dX1_seek_22 : decode cX1_seek 22 = .ok (.iload_n 1, 1) := by decide +kernel
theorem dX1_seek_23 : decode cX1_seek 23 = .ok (.ifCond .ne 13, 3) := by decide +kernel
theorem dX1_seek_26 : decode cX1_seek 26 = .ok (.aload_n 0, 1) := by decide +kernel
theorem dX1_seek_27 : decode cX1_seek 27 = .ok (.getfield 22, 3) := by decide +kernel
theorem dX1_seek_30 : decode cX1_seek 30 = .ok (.getfield 38, 3) := by decide +kernel
theorem dX1_seek_33 : decode cX1_seek 33 = .ok (.goto 10, 3) := by decide +kernel
theorem dX1_seek_36 : decode cX1_seek 36 = .ok (.aload_n 0, 1) := by decide +kernel
theorem dX1_seek_37 : decode cX1_seek 37 = .ok (.getfield 22, 3) := by decide +kernel
theorem dX1_seek_40 : decode cX1_seek 40 = .ok (.getfield 43, 3) := by decide +kernel
theorem dX1_seek_43 : decode cX1_seek 43 = .ok (.istore_n 2, 1) := by decide +kernel
theorem dX1_seek_44 : decode cX1_seek 44 = .ok (.iload_n 1, 1) := by decide +kernel
theorem dX1_seek_45 : decode cX1_seek 45 = .ok (.ifCond .ne 13, 3) := by decide +kernel
theorem dX1_seek_48 : decode cX1_seek 48 = .ok (.aload_n 0, 1) := by decide +kernel
theorem dX1_seek_49 : decode cX1_seek 49 = .ok (.getfield 22, 3) := by decide +kernel
theorem dX1_seek_52 : decode cX1_seek 52 = .ok (.getfield 46, 3) := by decide +kernel
theorem dX1_seek_55 : decode cX1_seek 55 = .ok (.goto 10, 3) := by decide +kernel
theorem dX1_seek_58 : decode cX1_seek 58 = .ok (.aload_n 0, 1) := by decide +kernel
theorem dX1_seek_59 : decode cX1_seek 59 = .ok (.getfield 22, 3) := by decide +kernel
theorem dX1_seek_62 : decode cX1_seek 62 = .ok (.getfield 49, 3) := by decide +kernel
theorem dX1_seek_65 : decode cX1_seek 65 = .ok (.istore_n 3, 1) := by decide +kernel
theorem dX1_seek_66 : decode cX1_seek 66 = .ok (.iconst 0, 1) := by decide +kernel
theorem dX1_seek_67 : decode cX1_seek 67 = .ok (.istore 4, 2) := by decide +kernel
theorem dX1_seek_69 : decode cX1_seek 69 = .ok (.iload 4, 2) := by decide +kernel
theorem dX1_seek_71 : decode cX1_seek 71 = .ok (.iload_n 2, 1) := by decide +kernel
theorem dX1_seek_72 : decode cX1_seek 72 = .ok (.if_icmp .ge 39, 3) := by decide +kernel
theorem dX1_seek_75 : decode cX1_seek 75 = .ok (.iload_n 3, 1) := by decide +kernel
theorem dX1_seek_76 : decode cX1_seek 76 = .ok (.iload 4, 2) := by decide +kernel
theorem dX1_seek_78 : decode cX1_seek 78 = .ok (.invokestatic 52, 3) := by decide +kernel
theorem dX1_seek_81 : decode cX1_seek 81 = .ok (.ifCond .ne 24, 3) := by decide +kernel
theorem dX1_seek_84 : decode cX1_seek 84 = .ok (.aload_n 0, 1) := by decide +kernel
theorem dX1_seek_85 : decode cX1_seek 85 = .ok (.iload_n 1, 1) := by decide +kernel
theorem dX1_seek_86 : decode cX1_seek 86 = .ok (.iconst 1, 1) := by decide +kernel
theorem dX1_seek_87 : decode cX1_seek 87 = .ok (.iload 4, 2) := by decide +kernel
theorem dX1_seek_89 : decode cX1_seek 89 = .ok (.ishl, 1) := by decide +kernel
theorem dX1_seek_90 : decode cX1_seek 90 = .ok (.invokevirtual 30, 3) := by decide +kernel
theorem dX1_seek_93 : decode cX1_seek 93 = .ok (.ifCond .eq 12, 3) := by decide +kernel
theorem dX1_seek_96 : decode cX1_seek 96 = .ok (.aload_n 0, 1) := by decide +kernel
theorem dX1_seek_97 : decode cX1_seek 97 = .ok (.iconst 1, 1) := by decide +kernel
theorem dX1_seek_98 : decode cX1_seek 98 = .ok (.iload 4, 2) := by decide +kernel
theorem dX1_seek_100 : decode cX1_seek 100 = .ok (.iconst (-1), 1) := by decide +kernel
theorem dX1_seek_101 : decode cX1_seek 101 = .ok (.invokevirtual 34, 3) := by decide +kernel
theorem dX1_seek_104 : decode cX1_seek 104 = .ok (.ireturn, 1) := by decide +kernel
theorem dX1_seek_105 : decode cX1_seek 105 = .ok (.iinc 4 1, 3) := by decide +kernel
theorem dX1_seek_108 : decode cX1_seek 108 = .ok (.goto (-39), 3) := by decide +kernel
theorem dX1_seek_111 : decode cX1_seek 111 = .ok (.iconst 0, 1) := by decide +kernel
theorem dX1_seek_112 : decode cX1_seek 112 = .ok (.istore 4, 2) := by decide +kernel
theorem dX1_seek_114 : decode cX1_seek 114 = .ok (.iload 4, 2) := by decide +kernel
theorem dX1_seek_116 : decode cX1_seek 116 = .ok (.iload_n 2, 1) := by decide +kernel
theorem dX1_seek_117 : decode cX1_seek 117 = .ok (.if_icmp .ge 72, 3) := by decide +kernel
theorem dX1_seek_120 : decode cX1_seek 120 = .ok (.iload 4, 2) := by decide +kernel
theorem dX1_seek_122 : decode cX1_seek 122 = .ok (.iconst 1, 1) := by decide +kernel
theorem dX1_seek_123 : decode cX1_seek 123 = .ok (.iadd, 1) := by decide +kernel
theorem dX1_seek_124 : decode cX1_seek 124 = .ok (.istore 5, 2) := by decide +kernel
theorem dX1_seek_126 : decode cX1_seek 126 = .ok (.iload 5, 2) := by decide +kernel
theorem dX1_seek_128 : decode cX1_seek 128 = .ok (.iload_n 2, 1) := by decide +kernel
theorem dX1_seek_129 : decode cX1_seek 129 = .ok (.if_icmp .ge 54, 3) := by decide +kernel
theorem dX1_seek_132 : decode cX1_seek 132 = .ok (.iload_n 3, 1) := by decide +kernel
theorem dX1_seek_133 : decode cX1_seek 133 = .ok (.iload 4, 2) := by decide +kernel
theorem dX1_seek_135 : decode cX1_seek 135 = .ok (.invokestatic 52, 3) := by decide +kernel
theorem dX1_seek_138 : decode cX1_seek 138 = .ok (.ifCond .ne 39, 3) := by decide +kernel
theorem dX1_seek_141 : decode cX1_seek 141 = .ok (.iload_n 3, 1) := by decide +kernel
theorem dX1_seek_142 : decode cX1_seek 142 = .ok (.iload 5, 2) := by decide +kernel
theorem dX1_seek_144 : decode cX1_seek 144 = .ok (.invokestatic 52, 3) := by decide +kernel
theorem dX1_seek_147 : decode cX1_seek 147 = .ok (.ifCond .ne 30, 3) := by decide +kernel
theorem dX1_seek_150 : decode cX1_seek 150 = .ok (.aload_n 0, 1) := by decide +kernel
theorem dX1_seek_151 : decode cX1_seek 151 = .ok (.iload_n 1, 1) := by decide +kernel
theorem dX1_seek_152 : decode cX1_seek 152 = .ok (.iconst 1, 1) := by decide +kernel
theorem dX1_seek_153 : decode cX1_seek 153 = .ok (.iload 4, 2) := by decide +kernel
theorem dX1_seek_155 : decode cX1_seek 155 = .ok (.ishl, 1) := by decide +kernel
theorem dX1_seek_156 : decode cX1_seek 156 = .ok (.iconst 1, 1) := by decide +kernel
theorem dX1_seek_157 : decode cX1_seek 157 = .ok (.iload 5, 2) := by decide +kernel
theorem dX1_seek_159 : decode cX1_seek 159 = .ok (.ishl, 1) := by decide +kernel
theorem dX1_seek_160 : decode cX1_seek 160 = .ok (.ior, 1) := by decide +kernel
theorem dX1_seek_161 : decode cX1_seek 161 = .ok (.invokevirtual 30, 3) := by decide +kernel
theorem dX1_seek_164 : decode cX1_seek 164 = .ok (.ifCond .eq 13, 3) := by decide +kernel
theorem dX1_seek_167 : decode cX1_seek 167 = .ok (.aload_n 0, 1) := by decide +kernel
theorem dX1_seek_168 : decode cX1_seek 168 = .ok (.iconst 2, 1) := by decide +kernel
theorem dX1_seek_169 : decode cX1_seek 169 = .ok (.iload 4, 2) := by decide +kernel
theorem dX1_seek_171 : decode cX1_seek 171 = .ok (.iload 5, 2) := by decide +kernel
theorem dX1_seek_173 : decode cX1_seek 173 = .ok (.invokevirtual 34, 3) := by decide +kernel
theorem dX1_seek_176 : decode cX1_seek 176 = .ok (.ireturn, 1) := by decide +kernel
theorem dX1_seek_177 : decode cX1_seek 177 = .ok (.iinc 5 1, 3) := by decide +kernel
theorem dX1_seek_180 : decode cX1_seek 180 = .ok (.goto (-54), 3) := by decide +kernel
theorem dX1_seek_183 : decode cX1_seek 183 = .ok (.iinc 4 1, 3) := by decide +kernel
theorem dX1_seek_186 : decode cX1_seek 186 = .ok (.goto (-72), 3) := by decide +kernel
theorem dX1_seek_189 : decode cX1_seek 189 = .ok (.iconst (-1), 1) := by decide +kernel
theorem dX1_seek_190 : decode cX1_seek 190 = .ok (.ireturn, 1) := by decide +kernel
theorem dX1_keep_0 : decode cX1_keep 0 = .ok (.aload_n 0, 1) := by decide +kernel
theorem dX1_keep_1 : decode cX1_keep 1 = .ok (.iload_n 1, 1) := by decide +kernel
theorem dX1_keep_2 : decode cX1_keep 2 = .ok (.putfield 15, 3) := by decide +kernel
theorem dX1_keep_5 : decode cX1_keep 5 = .ok (.aload_n 0, 1) := by decide +kernel
theorem dX1_keep_6 : decode cX1_keep 6 = .ok (.getfield 9, 3) := by decide +kernel
theorem dX1_keep_9 : decode cX1_keep 9 = .ok (.iconst 0, 1) := by decide +kernel
theorem dX1_keep_10 : decode cX1_keep 10 = .ok (.iload_n 2, 1) := by decide +kernel
theorem dX1_keep_11 : decode cX1_keep 11 = .ok (.iastore, 1) := by decide +kernel
theorem dX1_keep_12 : decode cX1_keep 12 = .ok (.aload_n 0, 1) := by decide +kernel
theorem dX1_keep_13 : decode cX1_keep 13 = .ok (.getfield 9, 3) := by decide +kernel
theorem dX1_keep_16 : decode cX1_keep 16 = .ok (.iconst 1, 1) := by decide +kernel
theorem dX1_keep_17 : decode cX1_keep 17 = .ok (.iload_n 3, 1) := by decide +kernel
theorem dX1_keep_18 : decode cX1_keep 18 = .ok (.iastore, 1) := by decide +kernel
theorem dX1_keep_19 : decode cX1_keep 19 = .ok (.iload_n 1, 1) := by decide +kernel
theorem dX1_keep_20 : decode cX1_keep 20 = .ok (.ireturn, 1) := by decide +kernel
theorem dX1_saves_0 : decode cX1_saves 0 = .ok (.iload_n 1, 1) := by decide +kernel
theorem dX1_saves_1 : decode cX1_saves 1 = .ok (.ifCond .ne 18, 3) := by decide +kernel
theorem dX1_saves_4 : decode cX1_saves 4 = .ok (.aload_n 0, 1) := by decide +kernel
theorem dX1_saves_5 : decode cX1_saves 5 = .ok (.aload_n 0, 1) := by decide +kernel
theorem dX1_saves_6 : decode cX1_saves 6 = .ok (.getfield 22, 3) := by decide +kernel
theorem dX1_saves_9 : decode cX1_saves 9 = .ok (.getfield 46, 3) := by decide +kernel
theorem dX1_saves_12 : decode cX1_saves 12 = .ok (.iload_n 2, 1) := by decide +kernel
theorem dX1_saves_13 : decode cX1_saves 13 = .ok (.ior, 1) := by decide +kernel
theorem dX1_saves_14 : decode cX1_saves 14 = .ok (.iconst 0, 1) := by decide +kernel
theorem dX1_saves_15 : decode cX1_saves 15 = .ok (.invokevirtual 55, 3) := by decide +kernel
theorem dX1_saves_18 : decode cX1_saves 18 = .ok (.ireturn, 1) := by decide +kernel
theorem dX1_saves_19 : decode cX1_saves 19 = .ok (.aload_n 0, 1) := by decide +kernel
theorem dX1_saves_20 : decode cX1_saves 20 = .ok (.aload_n 0, 1) := by decide +kernel
theorem dX1_saves_21 : decode cX1_saves 21 = .ok (.getfield 22, 3) := by decide +kernel
theorem dX1_saves_24 : decode cX1_saves 24 = .ok (.getfield 46, 3) := by decide +kernel
theorem dX1_saves_27 : decode cX1_saves 27 = .ok (.aload_n 0, 1) := by decide +kernel
theorem dX1_saves_28 : decode cX1_saves 28 = .ok (.getfield 22, 3) := by decide +kernel
theorem dX1_saves_31 : decode cX1_saves 31 = .ok (.iload_n 2, 1) := by decide +kernel
theorem dX1_saves_32 : decode cX1_saves 32 = .ok (.invokevirtual 58, 3) := by decide +kernel
theorem dX1_saves_35 : decode cX1_saves 35 = .ok (.invokevirtual 55, 3) := by decide +kernel
theorem dX1_saves_38 : decode cX1_saves 38 = .ok (.ireturn, 1) := by decide +kernel
theorem dX1_nobodyIsLost_0 : decode cX1_nobodyIsLost 0 = .ok (.aload_n 0, 1) := by decide +kernel
theorem dX1_nobodyIsLost_1 : decode cX1_nobodyIsLost 1 = .ok (.getfield 19, 3) := by decide +kernel
theorem dX1_nobodyIsLost_4 : decode cX1_nobodyIsLost 4 = .ok (.istore_n 3, 1) := by decide +kernel
theorem dX1_nobodyIsLost_5 : decode cX1_nobodyIsLost 5 = .ok (.iconst 0, 1) := by decide +kernel
theorem dX1_nobodyIsLost_6 : decode cX1_nobodyIsLost 6 = .ok (.istore 4, 2) := by decide +kernel
theorem dX1_nobodyIsLost_8 : decode cX1_nobodyIsLost 8 = .ok (.iload 4, 2) := by decide +kernel
theorem dX1_nobodyIsLost_10 : decode cX1_nobodyIsLost 10 = .ok (.aload_n 0, 1) := by decide +kernel
theorem dX1_nobodyIsLost_11 : decode cX1_nobodyIsLost 11 = .ok (.getfield 22, 3) := by decide +kernel
theorem dX1_nobodyIsLost_14 : decode cX1_nobodyIsLost 14 = .ok (.getfield 62, 3) := by decide +kernel
theorem dX1_nobodyIsLost_17 : decode cX1_nobodyIsLost 17 = .ok (.if_icmp .ge 50, 3) := by decide +kernel
theorem dX1_nobodyIsLost_20 : decode cX1_nobodyIsLost 20 = .ok (.aload_n 0, 1) := by decide +kernel
theorem dX1_nobodyIsLost_21 : decode cX1_nobodyIsLost 21 = .ok (.getfield 26, 3) := by decide +kernel
theorem dX1_nobodyIsLost_24 : decode cX1_nobodyIsLost 24 = .ok (.iload_n 3, 1) := by decide +kernel
theorem dX1_nobodyIsLost_25 : decode cX1_nobodyIsLost 25 = .ok (.iload_n 1, 1) := by decide +kernel
theorem dX1_nobodyIsLost_26 : decode cX1_nobodyIsLost 26 = .ok (.iload_n 2, 1) := by decide +kernel
theorem dX1_nobodyIsLost_27 : decode cX1_nobodyIsLost 27 = .ok (.invokevirtual 65, 3) := by decide +kernel
theorem dX1_nobodyIsLost_30 : decode cX1_nobodyIsLost 30 = .ok (.ifCond .ne 10, 3) := by decide +kernel
theorem dX1_nobodyIsLost_33 : decode cX1_nobodyIsLost 33 = .ok (.aload_n 0, 1) := by decide +kernel
theorem dX1_nobodyIsLost_34 : decode cX1_nobodyIsLost 34 = .ok (.iload_n 3, 1) := by decide +kernel
theorem dX1_nobodyIsLost_35 : decode cX1_nobodyIsLost 35 = .ok (.putfield 19, 3) := by decide +kernel
theorem dX1_nobodyIsLost_38 : decode cX1_nobodyIsLost 38 = .ok (.iconst 0, 1) := by decide +kernel
theorem dX1_nobodyIsLost_39 : decode cX1_nobodyIsLost 39 = .ok (.ireturn, 1) := by decide +kernel
theorem dX1_nobodyIsLost_40 : decode cX1_nobodyIsLost 40 = .ok (.iload_n 3, 1) := by decide +kernel
theorem dX1_nobodyIsLost_41 : decode cX1_nobodyIsLost 41 = .ok (.iconst 1, 1) := by decide +kernel
theorem dX1_nobodyIsLost_42 : decode cX1_nobodyIsLost 42 = .ok (.iadd, 1) := by decide +kernel
theorem dX1_nobodyIsLost_43 : decode cX1_nobodyIsLost 43 = .ok (.aload_n 0, 1) := by decide +kernel
theorem dX1_nobodyIsLost_44 : decode cX1_nobodyIsLost 44 = .ok (.getfield 22, 3) := by decide +kernel
theorem dX1_nobodyIsLost_47 : decode cX1_nobodyIsLost 47 = .ok (.getfield 62, 3) := by decide +kernel
theorem dX1_nobodyIsLost_50 : decode cX1_nobodyIsLost 50 = .ok (.if_icmp .ge 9, 3) := by decide +kernel
theorem dX1_nobodyIsLost_53 : decode cX1_nobodyIsLost 53 = .ok (.iload_n 3, 1) := by decide +kernel
theorem dX1_nobodyIsLost_54 : decode cX1_nobodyIsLost 54 = .ok (.iconst 1, 1) := by decide +kernel
theorem dX1_nobodyIsLost_55 : decode cX1_nobodyIsLost 55 = .ok (.iadd, 1) := by decide +kernel
theorem dX1_nobodyIsLost_56 : decode cX1_nobodyIsLost 56 = .ok (.goto 4, 3) := by decide +kernel
theorem dX1_nobodyIsLost_59 : decode cX1_nobodyIsLost 59 = .ok (.iconst 0, 1) := by decide +kernel
theorem dX1_nobodyIsLost_60 : decode cX1_nobodyIsLost 60 = .ok (.istore_n 3, 1) := by decide +kernel
theorem dX1_nobodyIsLost_61 : decode cX1_nobodyIsLost 61 = .ok (.iinc 4 1, 3) := by decide +kernel
theorem dX1_nobodyIsLost_64 : decode cX1_nobodyIsLost 64 = .ok (.goto (-56), 3) := by decide +kernel
theorem dX1_nobodyIsLost_67 : decode cX1_nobodyIsLost 67 = .ok (.iconst 1, 1) := by decide +kernel
theorem dX1_nobodyIsLost_68 : decode cX1_nobodyIsLost 68 = .ok (.ireturn, 1) := by decide +kernel
theorem dX2_init_0 : decode cX2_init 0 = .ok (.aload_n 0, 1) := by decide +kernel
theorem dX2_init_1 : decode cX2_init 1 = .ok (.invokespecial 5, 3) := by decide +kernel
theorem dX2_init_4 : decode cX2_init 4 = .ok (.aload_n 0, 1) := by decide +kernel
theorem dX2_init_5 : decode cX2_init 5 = .ok (.iconst 5, 1) := by decide +kernel
theorem dX2_init_6 : decode cX2_init 6 = .ok (.newarray .int, 2) := by decide +kernel
theorem dX2_init_8 : decode cX2_init 8 = .ok (.putfield 13, 3) := by decide +kernel
theorem dX2_init_11 : decode cX2_init 11 = .ok (.aload_n 0, 1) := by decide +kernel
theorem dX2_init_12 : decode cX2_init 12 = .ok (.iconst 0, 1) := by decide +kernel
theorem dX2_init_13 : decode cX2_init 13 = .ok (.putfield 17, 3) := by decide +kernel
theorem dX2_init_16 : decode cX2_init 16 = .ok (.aload_n 0, 1) := by decide +kernel
theorem dX2_init_17 : decode cX2_init 17 = .ok (.iconst 1, 1) := by decide +kernel
theorem dX2_init_18 : decode cX2_init 18 = .ok (.putfield 21, 3) := by decide +kernel
theorem dX2_init_21 : decode cX2_init 21 = .ok (.aload_n 0, 1) := by decide +kernel
theorem dX2_init_22 : decode cX2_init 22 = .ok (.sipush 144, 3) := by decide +kernel
theorem dX2_init_25 : decode cX2_init 25 = .ok (.newarray .int, 2) := by decide +kernel
theorem dX2_init_27 : decode cX2_init 27 = .ok (.putfield 24, 3) := by decide +kernel
theorem dX2_init_30 : decode cX2_init 30 = .ok (.aload_n 0, 1) := by decide +kernel
theorem dX2_init_31 : decode cX2_init 31 = .ok (.iconst 5, 1) := by decide +kernel
theorem dX2_init_32 : decode cX2_init 32 = .ok (.newarray .int, 2) := by decide +kernel
theorem dX2_init_34 : decode cX2_init 34 = .ok (.putfield 27, 3) := by decide +kernel
theorem dX2_init_37 : decode cX2_init 37 = .ok (.aload_n 0, 1) := by decide +kernel
theorem dX2_init_38 : decode cX2_init 38 = .ok (.sipush 144, 3) := by decide +kernel
theorem dX2_init_41 : decode cX2_init 41 = .ok (.newarray .int, 2) := by decide +kernel
theorem dX2_init_43 : decode cX2_init 43 = .ok (.putfield 30, 3) := by decide +kernel
theorem dX2_init_46 : decode cX2_init 46 = .ok (.aload_n 0, 1) := by decide +kernel
theorem dX2_init_47 : decode cX2_init 47 = .ok (.sipush 144, 3) := by decide +kernel
theorem dX2_init_50 : decode cX2_init 50 = .ok (.newarray .int, 2) := by decide +kernel
theorem dX2_init_52 : decode cX2_init 52 = .ok (.putfield 33, 3) := by decide +kernel
theorem dX2_init_55 : decode cX2_init 55 = .ok (.aload_n 0, 1) := by decide +kernel
theorem dX2_init_56 : decode cX2_init 56 = .ok (.sipush 144, 3) := by decide +kernel
theorem dX2_init_59 : decode cX2_init 59 = .ok (.newarray .int, 2) := by decide +kernel
theorem dX2_init_61 : decode cX2_init 61 = .ok (.putfield 36, 3) := by decide +kernel
theorem dX2_init_64 : decode cX2_init 64 = .ok (.aload_n 0, 1) := by decide +kernel
theorem dX2_init_65 : decode cX2_init 65 = .ok (.bipush 6, 2) := by decide +kernel
theorem dX2_init_67 : decode cX2_init 67 = .ok (.newarray .int, 2) := by decide +kernel
theorem dX2_init_69 : decode cX2_init 69 = .ok (.putfield 39, 3) := by decide +kernel
theorem dX2_init_72 : decode cX2_init 72 = .ok (.aload_n 0, 1) := by decide +kernel
theorem dX2_init_73 : decode cX2_init 73 = .ok (.bipush 7, 2) := by decide +kernel
theorem dX2_init_75 : decode cX2_init 75 = .ok (.newarray .int, 2) := by decide +kernel
theorem dX2_init_77 : decode cX2_init 77 = .ok (.putfield 42, 3) := by decide +kernel
theorem dX2_init_80 : decode cX2_init 80 = .ok (.aload_n 0, 1) := by decide +kernel
theorem dX2_init_81 : decode cX2_init 81 = .ok (.aload_n 1, 1) := by decide +kernel
theorem dX2_init_82 : decode cX2_init 82 = .ok (.putfield 45, 3) := by decide +kernel
theorem dX2_init_85 : decode cX2_init 85 = .ok (.return_, 1) := by decide +kernel
theorem dX2_seek_0 : decode cX2_seek 0 = .ok (.aload_n 0, 1) := by decide +kernel
theorem dX2_seek_1 : decode cX2_seek 1 = .ok (.invokevirtual 49, 3) := by decide +kernel
theorem dX2_seek_4 : decode cX2_seek 4 = .ok (.aload_n 0, 1) := by decide +kernel
theorem dX2_seek_5 : decode cX2_seek 5 = .ok (.invokevirtual 52, 3) := by decide +kernel
theorem dX2_seek_8 : decode cX2_seek 8 = .ok (.istore_n 1, 1) := by decide +kernel
theorem dX2_seek_9 : decode cX2_seek 9 = .ok (.iload_n 1, 1) := by decide +kernel
theorem dX2_seek_10 : decode cX2_seek 10 = .ok (.iconst (-1), 1) := by decide +kernel
theorem dX2_seek_11 : decode cX2_seek 11 = .ok (.if_icmp .ne 5, 3) := by decide +kernel
theorem dX2_seek_14 : decode cX2_seek 14 = .ok (.iconst (-1), 1) := by decide +kernel
theorem dX2_seek_15 : decode cX2_seek 15 = .ok (.ireturn, 1) := by decide +kernel
theorem dX2_seek_16 : decode cX2_seek 16 = .ok (.aload_n 0, 1) := by decide +kernel
theorem dX2_seek_17 : decode cX2_seek 17 = .ok (.invokevirtual 56, 3) := by decide +kernel
theorem dX2_seek_20 : decode cX2_seek 20 = .ok (.iload_n 1, 1) := by decide +kernel
theorem dX2_seek_21 : decode cX2_seek 21 = .ok (.istore_n 2, 1) := by decide +kernel
theorem dX2_seek_22 : decode cX2_seek 22 = .ok (.iload_n 2, 1) := by decide +kernel
theorem dX2_seek_23 : decode cX2_seek 23 = .ok (.iconst 5, 1) := by decide +kernel
theorem dX2_seek_24 : decode cX2_seek 24 = .ok (.if_icmp .gt 38, 3) := by decide +kernel
theorem dX2_seek_27 : decode cX2_seek 27 = .ok (.aload_n 0, 1) := by decide +kernel
theorem dX2_seek_28 : decode cX2_seek 28 = .ok (.iload_n 2, 1) := by decide +kernel
theorem dX2_seek_29 : decode cX2_seek 29 = .ok (.invokevirtual 59, 3) := by decide +kernel
theorem dX2_seek_32 : decode cX2_seek 32 = .ok (.ifCond .eq 24, 3) := by decide +kernel
theorem dX2_seek_35 : decode cX2_seek 35 = .ok (.aload_n 0, 1) := by decide +kernel
theorem dX2_seek_36 : decode cX2_seek 36 = .ok (.getfield 27, 3) := by decide +kernel
theorem dX2_seek_39 : decode cX2_seek 39 = .ok (.iconst 0, 1) := by decide +kernel
theorem dX2_seek_40 : decode cX2_seek 40 = .ok (.aload_n 0, 1) := by decide +kernel
theorem dX2_seek_41 : decode cX2_seek 41 = .ok (.getfield 13, 3) := by decide +kernel
theorem dX2_seek_44 : decode cX2_seek 44 = .ok (.iconst 0, 1) := by decide +kernel
theorem dX2_seek_45 : decode cX2_seek 45 = .ok (.iload_n 2, 1) := by decide +kernel
theorem dX2_seek_46 : decode cX2_seek 46 = .ok (.invokestatic 63, 3) := by decide +kernel
theorem dX2_seek_49 : decode cX2_seek 49 = .ok (.aload_n 0, 1) := by decide +kernel
theorem dX2_seek_50 : decode cX2_seek 50 = .ok (.iload_n 2, 1) := by decide +kernel
theorem dX2_seek_51 : decode cX2_seek 51 = .ok (.putfield 17, 3) := by decide +kernel
theorem dX2_seek_54 : decode cX2_seek 54 = .ok (.iload_n 2, 1) := by decide +kernel
theorem dX2_seek_55 : decode cX2_seek 55 = .ok (.ireturn, 1) := by decide +kernel
theorem dX2_seek_56 : decode cX2_seek 56 = .ok (.iinc 2 1, 3) := by decide +kernel
theorem dX2_seek_59 : decode cX2_seek 59 = .ok (.goto (-37), 3) := by decide +kernel
theorem dX2_seek_62 : decode cX2_seek 62 = .ok (.iconst (-1), 1) := by decide +kernel
theorem dX2_seek_63 : decode cX2_seek 63 = .ok (.ireturn, 1) := by decide +kernel
theorem dX2_chooseTurns_0 : decode cX2_chooseTurns 0 = .ok (.aload_n 0, 1) := by decide +kernel
theorem dX2_chooseTurns_1 : decode cX2_chooseTurns 1 = .ok (.iconst 1, 1) := by decide +kernel
theorem dX2_chooseTurns_2 : decode cX2_chooseTurns 2 = .ok (.putfield 21, 3) := by decide +kernel
theorem dX2_chooseTurns_5 : decode cX2_chooseTurns 5 = .ok (.aload_n 0, 1) := by decide +kernel
theorem dX2_chooseTurns_6 : decode cX2_chooseTurns 6 = .ok (.getfield 21, 3) := by decide +kernel
theorem dX2_chooseTurns_9 : decode cX2_chooseTurns 9 = .ok (.bipush 6, 2) := by decide +kernel
theorem dX2_chooseTurns_11 : decode cX2_chooseTurns 11 = .ok (.if_icmp .ge 27, 3) := by decide +kernel
theorem dX2_chooseTurns_14 : decode cX2_chooseTurns 14 = .ok (.aload_n 0, 1) := by decide +kernel
theorem dX2_chooseTurns_15 : decode cX2_chooseTurns 15 = .ok (.aload_n 0, 1) := by decide +kernel
theorem dX2_chooseTurns_16 : decode cX2_chooseTurns 16 = .ok (.getfield 21, 3) := by decide +kernel
theorem dX2_chooseTurns_19 : decode cX2_chooseTurns 19 = .ok (.invokevirtual 69, 3) := by decide +kernel
theorem dX2_chooseTurns_22 : decode cX2_chooseTurns 22 = .ok (.ifCond .ne 16, 3) := by decide +kernel
theorem dX2_chooseTurns_25 : decode cX2_chooseTurns 25 = .ok (.aload_n 0, 1) := by decide +kernel
theorem dX2_chooseTurns_26 : decode cX2_chooseTurns 26 = .ok (.dup, 1) := by decide +kernel
theorem dX2_chooseTurns_27 : decode cX2_chooseTurns 27 = .ok (.getfield 21, 3) := by decide +kernel
theorem dX2_chooseTurns_30 : decode cX2_chooseTurns 30 = .ok (.iconst 1, 1) := by decide +kernel
theorem dX2_chooseTurns_31 : decode cX2_chooseTurns 31 = .ok (.iadd, 1) := by decide +kernel
theorem dX2_chooseTurns_32 : decode cX2_chooseTurns 32 = .ok (.putfield 21, 3) := by decide +kernel
theorem dX2_chooseTurns_35 : decode cX2_chooseTurns 35 = .ok (.goto (-30), 3) := by decide +kernel
theorem dX2_chooseTurns_38 : decode cX2_chooseTurns 38 = .ok (.iconst 0, 1) := by decide +kernel
theorem dX2_chooseTurns_39 : decode cX2_chooseTurns 39 = .ok (.istore_n 1, 1) := by decide +kernel
theorem dX2_chooseTurns_40 : decode cX2_chooseTurns 40 = .ok (.iload_n 1, 1) := by decide +kernel
theorem dX2_chooseTurns_41 : decode cX2_chooseTurns 41 = .ok (.aload_n 0, 1) := by decide +kernel
theorem dX2_chooseTurns_42 : decode cX2_chooseTurns 42 = .ok (.getfield 21, 3) := by decide +kernel
theorem dX2_chooseTurns_45 : decode cX2_chooseTurns 45 = .ok (.if_icmp .ge 48, 3) := by decide +kernel
theorem dX2_chooseTurns_48 : decode cX2_chooseTurns 48 = .ok (.iconst 0, 1) := by decide +kernel
theorem dX2_chooseTurns_49 : decode cX2_chooseTurns 49 = .ok (.istore_n 2, 1) := by decide +kernel
theorem dX2_chooseTurns_50 : decode cX2_chooseTurns 50 = .ok (.iload_n 2, 1) := by decide +kernel
theorem dX2_chooseTurns_51 : decode cX2_chooseTurns 51 = .ok (.aload_n 0, 1) := by decide +kernel
theorem dX2_chooseTurns_52 : decode cX2_chooseTurns 52 = .ok (.getfield 45, 3) := by decide +kernel
theorem dX2_chooseTurns_55 : decode cX2_chooseTurns 55 = .ok (.getfield 72, 3) := by decide +kernel
theorem dX2_chooseTurns_58 : decode cX2_chooseTurns 58 = .ok (.if_icmp .ge 29, 3) := by decide +kernel
theorem dX2_chooseTurns_61 : decode cX2_chooseTurns 61 = .ok (.aload_n 0, 1) := by decide +kernel
theorem dX2_chooseTurns_62 : decode cX2_chooseTurns 62 = .ok (.getfield 24, 3) := by decide +kernel
theorem dX2_chooseTurns_65 : decode cX2_chooseTurns 65 = .ok (.iload_n 1, 1) := by decide +kernel
theorem dX2_chooseTurns_66 : decode cX2_chooseTurns 66 = .ok (.bipush 24, 2) := by decide +kernel
theorem dX2_chooseTurns_68 : decode cX2_chooseTurns 68 = .ok (.imul, 1) := by decide +kernel
theorem dX2_chooseTurns_69 : decode cX2_chooseTurns 69 = .ok (.iload_n 2, 1) := by decide +kernel
theorem dX2_chooseTurns_70 : decode cX2_chooseTurns 70 = .ok (.iadd, 1) := by decide +kernel
theorem dX2_chooseTurns_71 : decode cX2_chooseTurns 71 = .ok (.aload_n 0, 1) := by decide +kernel
theorem dX2_chooseTurns_72 : decode cX2_chooseTurns 72 = .ok (.getfield 45, 3) := by decide +kernel
theorem dX2_chooseTurns_75 : decode cX2_chooseTurns 75 = .ok (.iload_n 2, 1) := by decide +kernel
theorem dX2_chooseTurns_76 : decode cX2_chooseTurns 76 = .ok (.iload_n 1, 1) := by decide +kernel
theorem dX2_chooseTurns_77 : decode cX2_chooseTurns 77 = .ok (.invokevirtual 75, 3) := by decide +kernel
theorem dX2_chooseTurns_80 : decode cX2_chooseTurns 80 = .ok (.iastore, 1) := by decide +kernel
theorem dX2_chooseTurns_81 : decode cX2_chooseTurns 81 = .ok (.iinc 2 1, 3) := by decide +kernel
theorem dX2_chooseTurns_84 : decode cX2_chooseTurns 84 = .ok (.goto (-34), 3) := by decide +kernel
theorem dX2_chooseTurns_87 : decode cX2_chooseTurns 87 = .ok (.iinc 1 1, 3) := by decide +kernel
theorem dX2_chooseTurns_90 : decode cX2_chooseTurns 90 = .ok (.goto (-50), 3) := by decide +kernel
theorem dX2_chooseTurns_93 : decode cX2_chooseTurns 93 = .ok (.return_, 1) := by decide +kernel
theorem dX2_allEndsDivide_0 : decode cX2_allEndsDivide 0 = .ok (.iconst 0, 1) := by decide +kernel
theorem dX2_allEndsDivide_1 : decode cX2_allEndsDivide 1 = .ok (.istore_n 2, 1) := by decide +kernel
theorem dX2_allEndsDivide_2 : decode cX2_allEndsDivide 2 = .ok (.iload_n 2, 1) := by decide +kernel
theorem dX2_allEndsDivide_3 : decode cX2_allEndsDivide 3 = .ok (.aload_n 0, 1) := by decide +kernel
theorem dX2_allEndsDivide_4 : decode cX2_allEndsDivide 4 = .ok (.getfield 45, 3) := by decide +kernel
theorem dX2_allEndsDivide_7 : decode cX2_allEndsDivide 7 = .ok (.getfield 78, 3) := by decide +kernel
theorem dX2_allEndsDivide_10 : decode cX2_allEndsDivide 10 = .ok (.if_icmp .ge 31, 3) := by decide +kernel
theorem dX2_allEndsDivide_13 : decode cX2_allEndsDivide 13 = .ok (.aload_n 0, 1) := by decide +kernel
theorem dX2_allEndsDivide_14 : decode cX2_allEndsDivide 14 = .ok (.getfield 45, 3) := by decide +kernel
theorem dX2_allEndsDivide_17 : decode cX2_allEndsDivide 17 = .ok (.getfield 81, 3) := by decide +kernel
theorem dX2_allEndsDivide_20 : decode cX2_allEndsDivide 20 = .ok (.iload_n 2, 1) := by decide +kernel
theorem dX2_allEndsDivide_21 : decode cX2_allEndsDivide 21 = .ok (.iaload, 1) := by decide +kernel
theorem dX2_allEndsDivide_22 : decode cX2_allEndsDivide 22 = .ok (.istore_n 3, 1) := by decide +kernel
theorem dX2_allEndsDivide_23 : decode cX2_allEndsDivide 23 = .ok (.iload_n 3, 1) := by decide +kernel
theorem dX2_allEndsDivide_24 : decode cX2_allEndsDivide 24 = .ok (.ifCond .le 11, 3) := by decide +kernel
theorem dX2_allEndsDivide_27 : decode cX2_allEndsDivide 27 = .ok (.iload_n 1, 1) := by decide +kernel
theorem dX2_allEndsDivide_28 : decode cX2_allEndsDivide 28 = .ok (.iload_n 3, 1) := by decide +kernel
theorem dX2_allEndsDivide_29 : decode cX2_allEndsDivide 29 = .ok (.irem, 1) := by decide +kernel
theorem dX2_allEndsDivide_30 : decode cX2_allEndsDivide 30 = .ok (.ifCond .eq 5, 3) := by decide +kernel
theorem dX2_allEndsDivide_33 : decode cX2_allEndsDivide 33 = .ok (.iconst 0, 1) := by decide +kernel
theorem dX2_allEndsDivide_34 : decode cX2_allEndsDivide 34 = .ok (.ireturn, 1) := by decide +kernel
theorem dX2_allEndsDivide_35 : decode cX2_allEndsDivide 35 = .ok (.iinc 2 1, 3) := by decide +kernel
theorem dX2_allEndsDivide_38 : decode cX2_allEndsDivide 38 = .ok (.goto (-36), 3) := by decide +kernel
theorem dX2_allEndsDivide_41 : decode cX2_allEndsDivide 41 = .ok (.iconst 1, 1) := by decide +kernel
theorem dX2_allEndsDivide_42 : decode cX2_allEndsDivide 42 = .ok (.ireturn, 1) := by decide +kernel
theorem dX2_leastTurns_0 : decode cX2_leastTurns 0 = .ok (.iconst 0, 1) := by decide +kernel
theorem dX2_leastTurns_1 : decode cX2_leastTurns 1 = .ok (.istore_n 1, 1) := by decide +kernel
theorem dX2_leastTurns_2 : decode cX2_leastTurns 2 = .ok (.iload_n 1, 1) := by decide +kernel
theorem dX2_leastTurns_3 : decode cX2_leastTurns 3 = .ok (.aload_n 0, 1) := by decide +kernel
theorem dX2_leastTurns_4 : decode cX2_leastTurns 4 = .ok (.getfield 45, 3) := by decide +kernel
theorem dX2_leastTurns_7 : decode cX2_leastTurns 7 = .ok (.getfield 72, 3) := by decide +kernel
theorem dX2_leastTurns_10 : decode cX2_leastTurns 10 = .ok (.if_icmp .ge 30, 3) := by decide +kernel
theorem dX2_leastTurns_13 : decode cX2_leastTurns 13 = .ok (.aload_n 0, 1) := by decide +kernel
theorem dX2_leastTurns_14 : decode cX2_leastTurns 14 = .ok (.getfield 30, 3) := by decide +kernel
theorem dX2_leastTurns_17 : decode cX2_leastTurns 17 = .ok (.iload_n 1, 1) := by decide +kernel
theorem dX2_leastTurns_18 : decode cX2_leastTurns 18 = .ok (.aload_n 0, 1) := by decide +kernel
theorem dX2_leastTurns_19 : decode cX2_leastTurns 19 = .ok (.getfield 45, 3) := by decide +kernel
theorem dX2_leastTurns_22 : decode cX2_leastTurns 22 = .ok (.aload_n 0, 1) := by decide +kernel
theorem dX2_leastTurns_23 : decode cX2_leastTurns 23 = .ok (.getfield 45, 3) := by decide +kernel
theorem dX2_leastTurns_26 : decode cX2_leastTurns 26 = .ok (.iload_n 1, 1) := by decide +kernel
theorem dX2_leastTurns_27 : decode cX2_leastTurns 27 = .ok (.invokevirtual 84, 3) := by decide +kernel
theorem dX2_leastTurns_30 : decode cX2_leastTurns 30 = .ok (.invokevirtual 88, 3) := by decide +kernel
theorem dX2_leastTurns_33 : decode cX2_leastTurns 33 = .ok (.iastore, 1) := by decide +kernel
theorem dX2_leastTurns_34 : decode cX2_leastTurns 34 = .ok (.iinc 1 1, 3) := by decide +kernel
theorem dX2_leastTurns_37 : decode cX2_leastTurns 37 = .ok (.goto (-35), 3) := by decide +kernel
theorem dX2_leastTurns_40 : decode cX2_leastTurns 40 = .ok (.iconst 0, 1) := by decide +kernel
theorem dX2_leastTurns_41 : decode cX2_leastTurns 41 = .ok (.istore_n 1, 1) := by decide +kernel
theorem dX2_leastTurns_42 : decode cX2_leastTurns 42 = .ok (.iload_n 1, 1) := by decide +kernel
theorem dX2_leastTurns_43 : decode cX2_leastTurns 43 = .ok (.iconst 5, 1) := by decide +kernel
theorem dX2_leastTurns_44 : decode cX2_leastTurns 44 = .ok (.if_icmp .ge 17, 3) := by decide +kernel
theorem dX2_leastTurns_47 : decode cX2_leastTurns 47 = .ok (.aload_n 0, 1) := by decide +kernel
theorem dX2_leastTurns_48 : decode cX2_leastTurns 48 = .ok (.iload_n 1, 1) := by decide +kernel
theorem dX2_leastTurns_49 : decode cX2_leastTurns 49 = .ok (.bipush 24, 2) := by decide +kernel
theorem dX2_leastTurns_51 : decode cX2_leastTurns 51 = .ok (.imul, 1) := by decide +kernel
theorem dX2_leastTurns_52 : decode cX2_leastTurns 52 = .ok (.invokevirtual 91, 3) := by decide +kernel
theorem dX2_leastTurns_55 : decode cX2_leastTurns 55 = .ok (.iinc 1 1, 3) := by decide +kernel
theorem dX2_leastTurns_58 : decode cX2_leastTurns 58 = .ok (.goto (-16), 3) := by decide +kernel
theorem dX2_leastTurns_61 : decode cX2_leastTurns 61 = .ok (.iconst 0, 1) := by decide +kernel
theorem dX2_leastTurns_62 : decode cX2_leastTurns 62 = .ok (.istore_n 1, 1) := by decide +kernel
theorem dX2_leastTurns_63 : decode cX2_leastTurns 63 = .ok (.iload_n 1, 1) := by decide +kernel
theorem dX2_leastTurns_64 : decode cX2_leastTurns 64 = .ok (.iconst 5, 1) := by decide +kernel
theorem dX2_leastTurns_65 : decode cX2_leastTurns 65 = .ok (.if_icmp .gt 22, 3) := by decide +kernel
theorem dX2_leastTurns_68 : decode cX2_leastTurns 68 = .ok (.aload_n 0, 1) := by decide +kernel
theorem dX2_leastTurns_69 : decode cX2_leastTurns 69 = .ok (.iload_n 1, 1) := by decide +kernel
theorem dX2_leastTurns_70 : decode cX2_leastTurns 70 = .ok (.bipush 24, 2) := by decide +kernel
theorem dX2_leastTurns_72 : decode cX2_leastTurns 72 = .ok (.imul, 1) := by decide +kernel
theorem dX2_leastTurns_73 : decode cX2_leastTurns 73 = .ok (.invokevirtual 95, 3) := by decide +kernel
theorem dX2_leastTurns_76 : decode cX2_leastTurns 76 = .ok (.ifCond .ne 5, 3) := by decide +kernel
theorem dX2_leastTurns_79 : decode cX2_leastTurns 79 = .ok (.iload_n 1, 1) := by decide +kernel
theorem dX2_leastTurns_80 : decode cX2_leastTurns 80 = .ok (.ireturn, 1) := by decide +kernel
theorem dX2_leastTurns_81 : decode cX2_leastTurns 81 = .ok (.iinc 1 1, 3) := by decide +kernel
theorem dX2_leastTurns_84 : decode cX2_leastTurns 84 = .ok (.goto (-21), 3) := by decide +kernel
theorem dX2_leastTurns_87 : decode cX2_leastTurns 87 = .ok (.iconst (-1), 1) := by decide +kernel
theorem dX2_leastTurns_88 : decode cX2_leastTurns 88 = .ok (.ireturn, 1) := by decide +kernel
theorem dX2_hasTwins_0 : decode cX2_hasTwins 0 = .ok (.iconst 0, 1) := by decide +kernel
theorem dX2_hasTwins_1 : decode cX2_hasTwins 1 = .ok (.istore_n 2, 1) := by decide +kernel
theorem dX2_hasTwins_2 : decode cX2_hasTwins 2 = .ok (.iload_n 2, 1) := by decide +kernel
theorem dX2_hasTwins_3 : decode cX2_hasTwins 3 = .ok (.aload_n 0, 1) := by decide +kernel
theorem dX2_hasTwins_4 : decode cX2_hasTwins 4 = .ok (.getfield 45, 3) := by decide +kernel
theorem dX2_hasTwins_7 : decode cX2_hasTwins 7 = .ok (.getfield 72, 3) := by decide +kernel
theorem dX2_hasTwins_10 : decode cX2_hasTwins 10 = .ok (.if_icmp .ge 25, 3) := by decide +kernel
theorem dX2_hasTwins_13 : decode cX2_hasTwins 13 = .ok (.aload_n 0, 1) := by decide +kernel
theorem dX2_hasTwins_14 : decode cX2_hasTwins 14 = .ok (.getfield 30, 3) := by decide +kernel
theorem dX2_hasTwins_17 : decode cX2_hasTwins 17 = .ok (.iload_n 1, 1) := by decide +kernel
theorem dX2_hasTwins_18 : decode cX2_hasTwins 18 = .ok (.iload_n 2, 1) := by decide +kernel
theorem dX2_hasTwins_19 : decode cX2_hasTwins 19 = .ok (.iadd, 1) := by decide +kernel
theorem dX2_hasTwins_20 : decode cX2_hasTwins 20 = .ok (.iaload, 1) := by decide +kernel
theorem dX2_hasTwins_21 : decode cX2_hasTwins 21 = .ok (.iconst 1, 1) := by decide +kernel
theorem dX2_hasTwins_22 : decode cX2_hasTwins 22 = .ok (.iload_n 2, 1) := by decide +kernel
theorem dX2_hasTwins_23 : decode cX2_hasTwins 23 = .ok (.ishl, 1) := by decide +kernel
theorem dX2_hasTwins_24 : decode cX2_hasTwins 24 = .ok (.if_icmp .eq 5, 3) := by decide +kernel
theorem dX2_hasTwins_27 : decode cX2_hasTwins 27 = .ok (.iconst 1, 1) := by decide +kernel
theorem dX2_hasTwins_28 : decode cX2_hasTwins 28 = .ok (.ireturn, 1) := by decide +kernel
theorem dX2_hasTwins_29 : decode cX2_hasTwins 29 = .ok (.iinc 2 1, 3) := by decide +kernel
theorem dX2_hasTwins_32 : decode cX2_hasTwins 32 = .ok (.goto (-30), 3) := by decide +kernel
theorem dX2_hasTwins_35 : decode cX2_hasTwins 35 = .ok (.iconst 0, 1) := by decide +kernel
theorem dX2_hasTwins_36 : decode cX2_hasTwins 36 = .ok (.ireturn, 1) := by decide +kernel
theorem dX2_partTwins_0 : decode cX2_partTwins 0 = .ok (.iconst 0, 1) := by decide +kernel
theorem dX2_partTwins_1 : decode cX2_partTwins 1 = .ok (.istore_n 2, 1) := by decide +kernel
theorem dX2_partTwins_2 : decode cX2_partTwins 2 = .ok (.iload_n 2, 1) := by decide +kernel
theorem dX2_partTwins_3 : decode cX2_partTwins 3 = .ok (.aload_n 0, 1) := by decide +kernel
theorem dX2_partTwins_4 : decode cX2_partTwins 4 = .ok (.getfield 45, 3) := by decide +kernel
theorem dX2_partTwins_7 : decode cX2_partTwins 7 = .ok (.getfield 72, 3) := by decide +kernel
theorem dX2_partTwins_10 : decode cX2_partTwins 10 = .ok (.if_icmp .ge 85, 3) := by decide +kernel
theorem dX2_partTwins_13 : decode cX2_partTwins 13 = .ok (.aload_n 0, 1) := by decide +kernel
theorem dX2_partTwins_14 : decode cX2_partTwins 14 = .ok (.getfield 30, 3) := by decide +kernel
theorem dX2_partTwins_17 : decode cX2_partTwins 17 = .ok (.iload_n 1, 1) := by decide +kernel
theorem dX2_partTwins_18 : decode cX2_partTwins 18 = .ok (.iload_n 2, 1) := by decide +kernel
theorem dX2_partTwins_19 : decode cX2_partTwins 19 = .ok (.iadd, 1) := by decide +kernel
theorem dX2_partTwins_20 : decode cX2_partTwins 20 = .ok (.iaload, 1) := by decide +kernel
theorem dX2_partTwins_21 : decode cX2_partTwins 21 = .ok (.istore_n 3, 1) := by decide +kernel
theorem dX2_partTwins_22 : decode cX2_partTwins 22 = .ok (.iconst 0, 1) := by decide +kernel
theorem dX2_partTwins_23 : decode cX2_partTwins 23 = .ok (.istore 4, 2) := by decide +kernel
theorem dX2_partTwins_25 : decode cX2_partTwins 25 = .ok (.iload 4, 2) := by decide +kernel
theorem dX2_partTwins_27 : decode cX2_partTwins 27 = .ok (.aload_n 0, 1) := by decide +kernel
theorem dX2_partTwins_28 : decode cX2_partTwins 28 = .ok (.getfield 45, 3) := by decide +kernel
theorem dX2_partTwins_31 : decode cX2_partTwins 31 = .ok (.getfield 72, 3) := by decide +kernel
theorem dX2_partTwins_34 : decode cX2_partTwins 34 = .ok (.if_icmp .ge 43, 3) := by decide +kernel
theorem dX2_partTwins_37 : decode cX2_partTwins 37 = .ok (.iload 4, 2) := by decide +kernel
theorem dX2_partTwins_39 : decode cX2_partTwins 39 = .ok (.iload_n 2, 1) := by decide +kernel
theorem dX2_partTwins_40 : decode cX2_partTwins 40 = .ok (.if_icmp .eq 31, 3) := by decide +kernel
theorem dX2_partTwins_43 : decode cX2_partTwins 43 = .ok (.iload_n 3, 1) := by decide +kernel
theorem dX2_partTwins_44 : decode cX2_partTwins 44 = .ok (.iload 4, 2) := by decide +kernel
theorem dX2_partTwins_46 : decode cX2_partTwins 46 = .ok (.invokestatic 98, 3) := by decide +kernel
theorem dX2_partTwins_49 : decode cX2_partTwins 49 = .ok (.ifCond .eq 22, 3) := by decide +kernel
theorem dX2_partTwins_52 : decode cX2_partTwins 52 = .ok (.aload_n 0, 1) := by decide +kernel
theorem dX2_partTwins_53 : decode cX2_partTwins 53 = .ok (.iload_n 2, 1) := by decide +kernel
theorem dX2_partTwins_54 : decode cX2_partTwins 54 = .ok (.iload 4, 2) := by decide +kernel
theorem dX2_partTwins_56 : decode cX2_partTwins 56 = .ok (.iload_n 1, 1) := by decide +kernel
theorem dX2_partTwins_57 : decode cX2_partTwins 57 = .ok (.invokevirtual 102, 3) := by decide +kernel
theorem dX2_partTwins_60 : decode cX2_partTwins 60 = .ok (.ifCond .eq 11, 3) := by decide +kernel
theorem dX2_partTwins_63 : decode cX2_partTwins 63 = .ok (.iload_n 3, 1) := by decide +kernel
theorem dX2_partTwins_64 : decode cX2_partTwins 64 = .ok (.iload 4, 2) := by decide +kernel
theorem dX2_partTwins_66 : decode cX2_partTwins 66 = .ok (.iconst 0, 1) := by decide +kernel
theorem dX2_partTwins_67 : decode cX2_partTwins 67 = .ok (.invokestatic 106, 3) := by decide +kernel
theorem dX2_partTwins_70 : decode cX2_partTwins 70 = .ok (.istore_n 3, 1) := by decide +kernel
theorem dX2_partTwins_71 : decode cX2_partTwins 71 = .ok (.iinc 4 1, 3) := by decide +kernel
theorem dX2_partTwins_74 : decode cX2_partTwins 74 = .ok (.goto (-49), 3) := by decide +kernel
theorem dX2_partTwins_77 : decode cX2_partTwins 77 = .ok (.aload_n 0, 1) := by decide +kernel
theorem dX2_partTwins_78 : decode cX2_partTwins 78 = .ok (.getfield 30, 3) := by decide +kernel
theorem dX2_partTwins_81 : decode cX2_partTwins 81 = .ok (.iload_n 1, 1) := by decide +kernel
theorem dX2_partTwins_82 : decode cX2_partTwins 82 = .ok (.bipush 24, 2) := by decide +kernel
theorem dX2_partTwins_84 : decode cX2_partTwins 84 = .ok (.iadd, 1) := by decide +kernel
theorem dX2_partTwins_85 : decode cX2_partTwins 85 = .ok (.iload_n 2, 1) := by decide +kernel
theorem dX2_partTwins_86 : decode cX2_partTwins 86 = .ok (.iadd, 1) := by decide +kernel
theorem dX2_partTwins_87 : decode cX2_partTwins 87 = .ok (.iload_n 3, 1) := by decide +kernel
theorem dX2_partTwins_88 : decode cX2_partTwins 88 = .ok (.iastore, 1) := by decide +kernel
theorem dX2_partTwins_89 : decode cX2_partTwins 89 = .ok (.iinc 2 1, 3) := by decide +kernel
theorem dX2_partTwins_92 : decode cX2_partTwins 92 = .ok (.goto (-90), 3) := by decide +kernel
theorem dX2_partTwins_95 : decode cX2_partTwins 95 = .ok (.return_, 1) := by decide +kernel
theorem dX2_anyTurnParts_0 : decode cX2_anyTurnParts 0 = .ok (.iconst 0, 1) := by decide +kernel
theorem dX2_anyTurnParts_1 : decode cX2_anyTurnParts 1 = .ok (.istore 4, 2) := by decide +kernel
theorem dX2_anyTurnParts_3 : decode cX2_anyTurnParts 3 = .ok (.iload 4, 2) := by decide +kernel
theorem dX2_anyTurnParts_5 : decode cX2_anyTurnParts 5 = .ok (.aload_n 0, 1) := by decide +kernel
theorem dX2_anyTurnParts_6 : decode cX2_anyTurnParts 6 = .ok (.getfield 21, 3) := by decide +kernel
theorem dX2_anyTurnParts_9 : decode cX2_anyTurnParts 9 = .ok (.if_icmp .ge 49, 3) := by decide +kernel
theorem dX2_anyTurnParts_12 : decode cX2_anyTurnParts 12 = .ok (.iload 4, 2) := by decide +kernel
theorem dX2_anyTurnParts_14 : decode cX2_anyTurnParts 14 = .ok (.bipush 24, 2) := by decide +kernel
theorem dX2_anyTurnParts_16 : decode cX2_anyTurnParts 16 = .ok (.imul, 1) := by decide +kernel
theorem dX2_anyTurnParts_17 : decode cX2_anyTurnParts 17 = .ok (.istore 5, 2) := by decide +kernel
theorem dX2_anyTurnParts_19 : decode cX2_anyTurnParts 19 = .ok (.aload_n 0, 1) := by decide +kernel
theorem dX2_anyTurnParts_20 : decode cX2_anyTurnParts 20 = .ok (.getfield 30, 3) := by decide +kernel
theorem dX2_anyTurnParts_23 : decode cX2_anyTurnParts 23 = .ok (.iload_n 3, 1) := by decide +kernel
theorem dX2_anyTurnParts_24 : decode cX2_anyTurnParts 24 = .ok (.aload_n 0, 1) := by decide +kernel
theorem dX2_anyTurnParts_25 : decode cX2_anyTurnParts 25 = .ok (.getfield 24, 3) := by decide +kernel
theorem dX2_anyTurnParts_28 : decode cX2_anyTurnParts 28 = .ok (.iload 5, 2) := by decide +kernel
theorem dX2_anyTurnParts_30 : decode cX2_anyTurnParts 30 = .ok (.iload_n 1, 1) := by decide +kernel
theorem dX2_anyTurnParts_31 : decode cX2_anyTurnParts 31 = .ok (.iadd, 1) := by decide +kernel
theorem dX2_anyTurnParts_32 : decode cX2_anyTurnParts 32 = .ok (.iaload, 1) := by decide +kernel
theorem dX2_anyTurnParts_33 : decode cX2_anyTurnParts 33 = .ok (.iadd, 1) := by decide +kernel
theorem dX2_anyTurnParts_34 : decode cX2_anyTurnParts 34 = .ok (.iaload, 1) := by decide +kernel
theorem dX2_anyTurnParts_35 : decode cX2_anyTurnParts 35 = .ok (.aload_n 0, 1) := by decide +kernel
theorem dX2_anyTurnParts_36 : decode cX2_anyTurnParts 36 = .ok (.getfield 24, 3) := by decide +kernel
theorem dX2_anyTurnParts_39 : decode cX2_anyTurnParts 39 = .ok (.iload 5, 2) := by decide +kernel
theorem dX2_anyTurnParts_41 : decode cX2_anyTurnParts 41 = .ok (.iload_n 2, 1) := by decide +kernel
theorem dX2_anyTurnParts_42 : decode cX2_anyTurnParts 42 = .ok (.iadd, 1) := by decide +kernel
theorem dX2_anyTurnParts_43 : decode cX2_anyTurnParts 43 = .ok (.iaload, 1) := by decide +kernel
theorem dX2_anyTurnParts_44 : decode cX2_anyTurnParts 44 = .ok (.invokestatic 98, 3) := by decide +kernel
theorem dX2_anyTurnParts_47 : decode cX2_anyTurnParts 47 = .ok (.ifCond .ne 5, 3) := by decide +kernel
theorem dX2_anyTurnParts_50 : decode cX2_anyTurnParts 50 = .ok (.iconst 1, 1) := by decide +kernel
theorem dX2_anyTurnParts_51 : decode cX2_anyTurnParts 51 = .ok (.ireturn, 1) := by decide +kernel
theorem dX2_anyTurnParts_52 : decode cX2_anyTurnParts 52 = .ok (.iinc 4 1, 3) := by decide +kernel
theorem dX2_anyTurnParts_55 : decode cX2_anyTurnParts 55 = .ok (.goto (-52), 3) := by decide +kernel
theorem dX2_anyTurnParts_58 : decode cX2_anyTurnParts 58 = .ok (.iconst 0, 1) := by decide +kernel
theorem dX2_anyTurnParts_59 : decode cX2_anyTurnParts 59 = .ok (.ireturn, 1) := by decide +kernel
theorem dX2_begin_0 : decode cX2_begin 0 = .ok (.aload_n 0, 1) := by decide +kernel
theorem dX2_begin_1 : decode cX2_begin 1 = .ok (.getfield 39, 3) := by decide +kernel
theorem dX2_begin_4 : decode cX2_begin 4 = .ok (.iconst 0, 1) := by decide +kernel
theorem dX2_begin_5 : decode cX2_begin 5 = .ok (.iconst 0, 1) := by decide +kernel
theorem dX2_begin_6 : decode cX2_begin 6 = .ok (.iastore, 1) := by decide +kernel
theorem dX2_begin_7 : decode cX2_begin 7 = .ok (.iconst 0, 1) := by decide +kernel
theorem dX2_begin_8 : decode cX2_begin 8 = .ok (.istore_n 1, 1) := by decide +kernel
theorem dX2_begin_9 : decode cX2_begin 9 = .ok (.iload_n 1, 1) := by decide +kernel
theorem dX2_begin_10 : decode cX2_begin 10 = .ok (.aload_n 0, 1) := by decide +kernel
theorem dX2_begin_11 : decode cX2_begin 11 = .ok (.getfield 45, 3) := by decide +kernel
theorem dX2_begin_14 : decode cX2_begin 14 = .ok (.getfield 72, 3) := by decide +kernel
theorem dX2_begin_17 : decode cX2_begin 17 = .ok (.if_icmp .ge 61, 3) := by decide +kernel
theorem dX2_begin_20 : decode cX2_begin 20 = .ok (.aload_n 0, 1) := by decide +kernel
theorem dX2_begin_21 : decode cX2_begin 21 = .ok (.getfield 33, 3) := by decide +kernel
theorem dX2_begin_24 : decode cX2_begin 24 = .ok (.iload_n 1, 1) := by decide +kernel
theorem dX2_begin_25 : decode cX2_begin 25 = .ok (.iload_n 1, 1) := by decide +kernel
theorem dX2_begin_26 : decode cX2_begin 26 = .ok (.iastore, 1) := by decide +kernel
theorem dX2_begin_27 : decode cX2_begin 27 = .ok (.aload_n 0, 1) := by decide +kernel
theorem dX2_begin_28 : decode cX2_begin 28 = .ok (.getfield 36, 3) := by decide +kernel
theorem dX2_begin_31 : decode cX2_begin 31 = .ok (.iload_n 1, 1) := by decide +kernel
theorem dX2_begin_32 : decode cX2_begin 32 = .ok (.aload_n 0, 1) := by decide +kernel
theorem dX2_begin_33 : decode cX2_begin 33 = .ok (.getfield 30, 3) := by decide +kernel
theorem dX2_begin_36 : decode cX2_begin 36 = .ok (.iload_n 1, 1) := by decide +kernel
theorem dX2_begin_37 : decode cX2_begin 37 = .ok (.iaload, 1) := by decide +kernel
theorem dX2_begin_38 : decode cX2_begin 38 = .ok (.iastore, 1) := by decide +kernel
theorem dX2_begin_39 : decode cX2_begin 39 = .ok (.aload_n 0, 1) := by decide +kernel
theorem dX2_begin_40 : decode cX2_begin 40 = .ok (.getfield 39, 3) := by decide +kernel
theorem dX2_begin_43 : decode cX2_begin 43 = .ok (.iconst 0, 1) := by decide +kernel
theorem dX2_begin_44 : decode cX2_begin 44 = .ok (.aload_n 0, 1) := by decide +kernel
theorem dX2_begin_45 : decode cX2_begin 45 = .ok (.getfield 39, 3) := by decide +kernel
theorem dX2_begin_48 : decode cX2_begin 48 = .ok (.iconst 0, 1) := by decide +kernel
theorem dX2_begin_49 : decode cX2_begin 49 = .ok (.iaload, 1) := by decide +kernel
theorem dX2_begin_50 : decode cX2_begin 50 = .ok (.iload_n 1, 1) := by decide +kernel
theorem dX2_begin_51 : decode cX2_begin 51 = .ok (.aload_n 0, 1) := by decide +kernel
theorem dX2_begin_52 : decode cX2_begin 52 = .ok (.getfield 30, 3) := by decide +kernel
theorem dX2_begin_55 : decode cX2_begin 55 = .ok (.iload_n 1, 1) := by decide +kernel
theorem dX2_begin_56 : decode cX2_begin 56 = .ok (.iaload, 1) := by decide +kernel
theorem dX2_begin_57 : decode cX2_begin 57 = .ok (.iconst 1, 1) := by decide +kernel
theorem dX2_begin_58 : decode cX2_begin 58 = .ok (.iload_n 1, 1) := by decide +kernel
theorem dX2_begin_59 : decode cX2_begin 59 = .ok (.ishl, 1) := by decide +kernel
theorem dX2_begin_60 : decode cX2_begin 60 = .ok (.if_icmp .eq 7, 3) := by decide +kernel
theorem dX2_begin_63 : decode cX2_begin 63 = .ok (.iconst 1, 1) := by decide +kernel
theorem dX2_begin_64 : decode cX2_begin 64 = .ok (.goto 4, 3) := by decide +kernel
theorem dX2_begin_67 : decode cX2_begin 67 = .ok (.iconst 0, 1) := by decide +kernel
theorem dX2_begin_68 : decode cX2_begin 68 = .ok (.invokestatic 106, 3) := by decide +kernel
theorem dX2_begin_71 : decode cX2_begin 71 = .ok (.iastore, 1) := by decide +kernel
theorem dX2_begin_72 : decode cX2_begin 72 = .ok (.iinc 1 1, 3) := by decide +kernel
theorem dX2_begin_75 : decode cX2_begin 75 = .ok (.goto (-66), 3) := by decide +kernel
theorem dX2_begin_78 : decode cX2_begin 78 = .ok (.return_, 1) := by decide +kernel
theorem dX2_tellsWith_0 : decode cX2_tellsWith 0 = .ok (.iconst 0, 1) := by decide +kernel
theorem dX2_tellsWith_1 : decode cX2_tellsWith 1 = .ok (.istore_n 2, 1) := by decide +kernel
theorem dX2_tellsWith_2 : decode cX2_tellsWith 2 = .ok (.iload_n 2, 1) := by decide +kernel
theorem dX2_tellsWith_3 : decode cX2_tellsWith 3 = .ok (.iload_n 1, 1) := by decide +kernel
theorem dX2_tellsWith_4 : decode cX2_tellsWith 4 = .ok (.if_icmp .ge 16, 3) := by decide +kernel
theorem dX2_tellsWith_7 : decode cX2_tellsWith 7 = .ok (.aload_n 0, 1) := by decide +kernel
theorem dX2_tellsWith_8 : decode cX2_tellsWith 8 = .ok (.getfield 27, 3) := by decide +kernel
theorem dX2_tellsWith_11 : decode cX2_tellsWith 11 = .ok (.iload_n 2, 1) := by decide +kernel
theorem dX2_tellsWith_12 : decode cX2_tellsWith 12 = .ok (.iconst 0, 1) := by decide +kernel
theorem dX2_tellsWith_13 : decode cX2_tellsWith 13 = .ok (.iastore, 1) := by decide +kernel
theorem dX2_tellsWith_14 : decode cX2_tellsWith 14 = .ok (.iinc 2 1, 3) := by decide +kernel
theorem dX2_tellsWith_17 : decode cX2_tellsWith 17 = .ok (.goto (-15), 3) := by decide +kernel
theorem dX2_tellsWith_20 : decode cX2_tellsWith 20 = .ok (.iconst 0, 1) := by decide +kernel
theorem dX2_tellsWith_21 : decode cX2_tellsWith 21 = .ok (.istore_n 2, 1) := by decide +kernel
theorem dX2_tellsWith_22 : decode cX2_tellsWith 22 = .ok (.iconst 0, 1) := by decide +kernel
theorem dX2_tellsWith_23 : decode cX2_tellsWith 23 = .ok (.istore_n 3, 1) := by decide +kernel
theorem dX2_tellsWith_24 : decode cX2_tellsWith 24 = .ok (.iload_n 3, 1) := by decide +kernel
theorem dX2_tellsWith_25 : decode cX2_tellsWith 25 = .ok (.sipush 7776, 3) := by decide +kernel
theorem dX2_tellsWith_28 : decode cX2_tellsWith 28 = .ok (.if_icmp .ge 69, 3) := by decide +kernel
theorem dX2_tellsWith_31 : decode cX2_tellsWith 31 = .ok (.iload_n 2, 1) := by decide +kernel
theorem dX2_tellsWith_32 : decode cX2_tellsWith 32 = .ok (.iconst (-1), 1) := by decide +kernel
theorem dX2_tellsWith_33 : decode cX2_tellsWith 33 = .ok (.if_icmp .eq 64, 3) := by decide +kernel
theorem dX2_tellsWith_36 : decode cX2_tellsWith 36 = .ok (.iconst 1, 1) := by decide +kernel
theorem dX2_tellsWith_37 : decode cX2_tellsWith 37 = .ok (.istore 4, 2) := by decide +kernel
theorem dX2_tellsWith_39 : decode cX2_tellsWith 39 = .ok (.iload_n 2, 1) := by decide +kernel
theorem dX2_tellsWith_40 : decode cX2_tellsWith 40 = .ok (.iload_n 1, 1) := by decide +kernel
theorem dX2_tellsWith_41 : decode cX2_tellsWith 41 = .ok (.if_icmp .ge 37, 3) := by decide +kernel
theorem dX2_tellsWith_44 : decode cX2_tellsWith 44 = .ok (.iload 4, 2) := by decide +kernel
theorem dX2_tellsWith_46 : decode cX2_tellsWith 46 = .ok (.ifCond .eq 32, 3) := by decide +kernel
theorem dX2_tellsWith_49 : decode cX2_tellsWith 49 = .ok (.aload_n 0, 1) := by decide +kernel
theorem dX2_tellsWith_50 : decode cX2_tellsWith 50 = .ok (.iload_n 2, 1) := by decide +kernel
theorem dX2_tellsWith_51 : decode cX2_tellsWith 51 = .ok (.invokevirtual 110, 3) := by decide +kernel
theorem dX2_tellsWith_54 : decode cX2_tellsWith 54 = .ok (.iinc 2 1, 3) := by decide +kernel
theorem dX2_tellsWith_57 : decode cX2_tellsWith 57 = .ok (.aload_n 0, 1) := by decide +kernel
theorem dX2_tellsWith_58 : decode cX2_tellsWith 58 = .ok (.iload_n 2, 1) := by decide +kernel
theorem dX2_tellsWith_59 : decode cX2_tellsWith 59 = .ok (.iload_n 1, 1) := by decide +kernel
theorem dX2_tellsWith_60 : decode cX2_tellsWith 60 = .ok (.iload_n 2, 1) := by decide +kernel
theorem dX2_tellsWith_61 : decode cX2_tellsWith 61 = .ok (.isub, 1) := by decide +kernel
theorem dX2_tellsWith_62 : decode cX2_tellsWith 62 = .ok (.invokevirtual 113, 3) := by decide +kernel
theorem dX2_tellsWith_65 : decode cX2_tellsWith 65 = .ok (.ifCond .ne 7, 3) := by decide +kernel
theorem dX2_tellsWith_68 : decode cX2_tellsWith 68 = .ok (.iconst 1, 1) := by decide +kernel
theorem dX2_tellsWith_69 : decode cX2_tellsWith 69 = .ok (.goto 4, 3) := by decide +kernel
theorem dX2_tellsWith_72 : decode cX2_tellsWith 72 = .ok (.iconst 0, 1) := by decide +kernel
theorem dX2_tellsWith_73 : decode cX2_tellsWith 73 = .ok (.istore 4, 2) := by decide +kernel
theorem dX2_tellsWith_75 : decode cX2_tellsWith 75 = .ok (.goto (-36), 3) := by decide +kernel
theorem dX2_tellsWith_78 : decode cX2_tellsWith 78 = .ok (.iload 4, 2) := by decide +kernel
theorem dX2_tellsWith_80 : decode cX2_tellsWith 80 = .ok (.ifCond .eq 5, 3) := by decide +kernel
theorem dX2_tellsWith_83 : decode cX2_tellsWith 83 = .ok (.iconst 1, 1) := by decide +kernel
theorem dX2_tellsWith_84 : decode cX2_tellsWith 84 = .ok (.ireturn, 1) := by decide +kernel
theorem dX2_tellsWith_85 : decode cX2_tellsWith 85 = .ok (.aload_n 0, 1) := by decide +kernel
theorem dX2_tellsWith_86 : decode cX2_tellsWith 86 = .ok (.iload_n 2, 1) := by decide +kernel
theorem dX2_tellsWith_87 : decode cX2_tellsWith 87 = .ok (.invokevirtual 116, 3) := by decide +kernel
theorem dX2_tellsWith_90 : decode cX2_tellsWith 90 = .ok (.istore_n 2, 1) := by decide +kernel
theorem dX2_tellsWith_91 : decode cX2_tellsWith 91 = .ok (.iinc 3 1, 3) := by decide +kernel
theorem dX2_tellsWith_94 : decode cX2_tellsWith 94 = .ok (.goto (-70), 3) := by decide +kernel
theorem dX2_tellsWith_97 : decode cX2_tellsWith 97 = .ok (.iconst 0, 1) := by decide +kernel
theorem dX2_tellsWith_98 : decode cX2_tellsWith 98 = .ok (.ireturn, 1) := by decide +kernel
theorem dX2_isHopeless_0 : decode cX2_isHopeless 0 = .ok (.iload_n 1, 1) := by decide +kernel
theorem dX2_isHopeless_1 : decode cX2_isHopeless 1 = .ok (.bipush 24, 2) := by decide +kernel
theorem dX2_isHopeless_3 : decode cX2_isHopeless 3 = .ok (.imul, 1) := by decide +kernel
theorem dX2_isHopeless_4 : decode cX2_isHopeless 4 = .ok (.istore_n 3, 1) := by decide +kernel
theorem dX2_isHopeless_5 : decode cX2_isHopeless 5 = .ok (.iconst 0, 1) := by decide +kernel
theorem dX2_isHopeless_6 : decode cX2_isHopeless 6 = .ok (.istore 4, 2) := by decide +kernel
theorem dX2_isHopeless_8 : decode cX2_isHopeless 8 = .ok (.iload 4, 2) := by decide +kernel
theorem dX2_isHopeless_10 : decode cX2_isHopeless 10 = .ok (.aload_n 0, 1) := by decide +kernel
theorem dX2_isHopeless_11 : decode cX2_isHopeless 11 = .ok (.getfield 45, 3) := by decide +kernel
theorem dX2_isHopeless_14 : decode cX2_isHopeless 14 = .ok (.getfield 72, 3) := by decide +kernel
theorem dX2_isHopeless_17 : decode cX2_isHopeless 17 = .ok (.if_icmp .ge 54, 3) := by decide +kernel
theorem dX2_isHopeless_20 : decode cX2_isHopeless 20 = .ok (.aload_n 0, 1) := by decide +kernel
theorem dX2_isHopeless_21 : decode cX2_isHopeless 21 = .ok (.getfield 39, 3) := by decide +kernel
theorem dX2_isHopeless_24 : decode cX2_isHopeless 24 = .ok (.iload_n 1, 1) := by decide +kernel
theorem dX2_isHopeless_25 : decode cX2_isHopeless 25 = .ok (.iaload, 1) := by decide +kernel
theorem dX2_isHopeless_26 : decode cX2_isHopeless 26 = .ok (.iload 4, 2) := by decide +kernel
theorem dX2_isHopeless_28 : decode cX2_isHopeless 28 = .ok (.invokestatic 98, 3) := by decide +kernel
theorem dX2_isHopeless_31 : decode cX2_isHopeless 31 = .ok (.ifCond .eq 34, 3) := by decide +kernel
theorem dX2_isHopeless_34 : decode cX2_isHopeless 34 = .ok (.aload_n 0, 1) := by decide +kernel
theorem dX2_isHopeless_35 : decode cX2_isHopeless 35 = .ok (.iload_n 3, 1) := by decide +kernel
theorem dX2_isHopeless_36 : decode cX2_isHopeless 36 = .ok (.iload 4, 2) := by decide +kernel
theorem dX2_isHopeless_38 : decode cX2_isHopeless 38 = .ok (.aload_n 0, 1) := by decide +kernel
theorem dX2_isHopeless_39 : decode cX2_isHopeless 39 = .ok (.getfield 30, 3) := by decide +kernel
theorem dX2_isHopeless_42 : decode cX2_isHopeless 42 = .ok (.iload_n 2, 1) := by decide +kernel
theorem dX2_isHopeless_43 : decode cX2_isHopeless 43 = .ok (.bipush 24, 2) := by decide +kernel
theorem dX2_isHopeless_45 : decode cX2_isHopeless 45 = .ok (.imul, 1) := by decide +kernel
theorem dX2_isHopeless_46 : decode cX2_isHopeless 46 = .ok (.aload_n 0, 1) := by decide +kernel
theorem dX2_isHopeless_47 : decode cX2_isHopeless 47 = .ok (.getfield 33, 3) := by decide +kernel
theorem dX2_isHopeless_50 : decode cX2_isHopeless 50 = .ok (.iload_n 3, 1) := by decide +kernel
theorem dX2_isHopeless_51 : decode cX2_isHopeless 51 = .ok (.iload 4, 2) := by decide +kernel
theorem dX2_isHopeless_53 : decode cX2_isHopeless 53 = .ok (.iadd, 1) := by decide +kernel
theorem dX2_isHopeless_54 : decode cX2_isHopeless 54 = .ok (.iaload, 1) := by decide +kernel
theorem dX2_isHopeless_55 : decode cX2_isHopeless 55 = .ok (.iadd, 1) := by decide +kernel
theorem dX2_isHopeless_56 : decode cX2_isHopeless 56 = .ok (.iaload, 1) := by decide +kernel
theorem dX2_isHopeless_57 : decode cX2_isHopeless 57 = .ok (.invokevirtual 119, 3) := by decide +kernel
theorem dX2_isHopeless_60 : decode cX2_isHopeless 60 = .ok (.ifCond .eq 5, 3) := by decide +kernel
theorem dX2_isHopeless_63 : decode cX2_isHopeless 63 = .ok (.iconst 1, 1) := by decide +kernel
theorem dX2_isHopeless_64 : decode cX2_isHopeless 64 = .ok (.ireturn, 1) := by decide +kernel
theorem dX2_isHopeless_65 : decode cX2_isHopeless 65 = .ok (.iinc 4 1, 3) := by decide +kernel
theorem dX2_isHopeless_68 : decode cX2_isHopeless 68 = .ok (.goto (-60), 3) := by decide +kernel
theorem dX2_isHopeless_71 : decode cX2_isHopeless 71 = .ok (.iconst 0, 1) := by decide +kernel
theorem dX2_isHopeless_72 : decode cX2_isHopeless 72 = .ok (.ireturn, 1) := by decide +kernel
theorem dX2_meetsTwin_0 : decode cX2_meetsTwin 0 = .ok (.iload_n 2, 1) := by decide +kernel
theorem dX2_meetsTwin_1 : decode cX2_meetsTwin 1 = .ok (.iconst 1, 1) := by decide +kernel
theorem dX2_meetsTwin_2 : decode cX2_meetsTwin 2 = .ok (.iadd, 1) := by decide +kernel
theorem dX2_meetsTwin_3 : decode cX2_meetsTwin 3 = .ok (.istore 4, 2) := by decide +kernel
theorem dX2_meetsTwin_5 : decode cX2_meetsTwin 5 = .ok (.iload 4, 2) := by decide +kernel
theorem dX2_meetsTwin_7 : decode cX2_meetsTwin 7 = .ok (.aload_n 0, 1) := by decide +kernel
theorem dX2_meetsTwin_8 : decode cX2_meetsTwin 8 = .ok (.getfield 45, 3) := by decide +kernel
theorem dX2_meetsTwin_11 : decode cX2_meetsTwin 11 = .ok (.getfield 72, 3) := by decide +kernel
theorem dX2_meetsTwin_14 : decode cX2_meetsTwin 14 = .ok (.if_icmp .ge 43, 3) := by decide +kernel
theorem dX2_meetsTwin_17 : decode cX2_meetsTwin 17 = .ok (.aload_n 0, 1) := by decide +kernel
theorem dX2_meetsTwin_18 : decode cX2_meetsTwin 18 = .ok (.getfield 36, 3) := by decide +kernel
theorem dX2_meetsTwin_21 : decode cX2_meetsTwin 21 = .ok (.iload_n 1, 1) := by decide +kernel
theorem dX2_meetsTwin_22 : decode cX2_meetsTwin 22 = .ok (.iload_n 2, 1) := by decide +kernel
theorem dX2_meetsTwin_23 : decode cX2_meetsTwin 23 = .ok (.iadd, 1) := by decide +kernel
theorem dX2_meetsTwin_24 : decode cX2_meetsTwin 24 = .ok (.iaload, 1) := by decide +kernel
theorem dX2_meetsTwin_25 : decode cX2_meetsTwin 25 = .ok (.iload 4, 2) := by decide +kernel
theorem dX2_meetsTwin_27 : decode cX2_meetsTwin 27 = .ok (.invokestatic 98, 3) := by decide +kernel
theorem dX2_meetsTwin_30 : decode cX2_meetsTwin 30 = .ok (.ifCond .eq 21, 3) := by decide +kernel
theorem dX2_meetsTwin_33 : decode cX2_meetsTwin 33 = .ok (.iload_n 3, 1) := by decide +kernel
theorem dX2_meetsTwin_34 : decode cX2_meetsTwin 34 = .ok (.aload_n 0, 1) := by decide +kernel
theorem dX2_meetsTwin_35 : decode cX2_meetsTwin 35 = .ok (.getfield 33, 3) := by decide +kernel
theorem dX2_meetsTwin_38 : decode cX2_meetsTwin 38 = .ok (.iload_n 1, 1) := by decide +kernel
theorem dX2_meetsTwin_39 : decode cX2_meetsTwin 39 = .ok (.iload 4, 2) := by decide +kernel
theorem dX2_meetsTwin_41 : decode cX2_meetsTwin 41 = .ok (.iadd, 1) := by decide +kernel
theorem dX2_meetsTwin_42 : decode cX2_meetsTwin 42 = .ok (.iaload, 1) := by decide +kernel
theorem dX2_meetsTwin_43 : decode cX2_meetsTwin 43 = .ok (.invokestatic 98, 3) := by decide +kernel
theorem dX2_meetsTwin_46 : decode cX2_meetsTwin 46 = .ok (.ifCond .eq 5, 3) := by decide +kernel
theorem dX2_meetsTwin_49 : decode cX2_meetsTwin 49 = .ok (.iconst 1, 1) := by decide +kernel
theorem dX2_meetsTwin_50 : decode cX2_meetsTwin 50 = .ok (.ireturn, 1) := by decide +kernel
theorem dX2_meetsTwin_51 : decode cX2_meetsTwin 51 = .ok (.iinc 4 1, 3) := by decide +kernel
theorem dX2_meetsTwin_54 : decode cX2_meetsTwin 54 = .ok (.goto (-49), 3) := by decide +kernel
theorem dX2_meetsTwin_57 : decode cX2_meetsTwin 57 = .ok (.iconst 0, 1) := by decide +kernel
theorem dX2_meetsTwin_58 : decode cX2_meetsTwin 58 = .ok (.ireturn, 1) := by decide +kernel
theorem dX2_nextTale_0 : decode cX2_nextTale 0 = .ok (.iload_n 1, 1) := by decide +kernel
theorem dX2_nextTale_1 : decode cX2_nextTale 1 = .ok (.iconst 1, 1) := by decide +kernel
theorem dX2_nextTale_2 : decode cX2_nextTale 2 = .ok (.isub, 1) := by decide +kernel
theorem dX2_nextTale_3 : decode cX2_nextTale 3 = .ok (.istore_n 2, 1) := by decide +kernel
theorem dX2_nextTale_4 : decode cX2_nextTale 4 = .ok (.iload_n 2, 1) := by decide +kernel
theorem dX2_nextTale_5 : decode cX2_nextTale 5 = .ok (.ifCond .lt 43, 3) := by decide +kernel
theorem dX2_nextTale_8 : decode cX2_nextTale 8 = .ok (.aload_n 0, 1) := by decide +kernel
theorem dX2_nextTale_9 : decode cX2_nextTale 9 = .ok (.getfield 27, 3) := by decide +kernel
theorem dX2_nextTale_12 : decode cX2_nextTale 12 = .ok (.iload_n 2, 1) := by decide +kernel
theorem dX2_nextTale_13 : decode cX2_nextTale 13 = .ok (.iaload, 1) := by decide +kernel
theorem dX2_nextTale_14 : decode cX2_nextTale 14 = .ok (.iconst 1, 1) := by decide +kernel
theorem dX2_nextTale_15 : decode cX2_nextTale 15 = .ok (.iadd, 1) := by decide +kernel
theorem dX2_nextTale_16 : decode cX2_nextTale 16 = .ok (.aload_n 0, 1) := by decide +kernel
theorem dX2_nextTale_17 : decode cX2_nextTale 17 = .ok (.getfield 21, 3) := by decide +kernel
theorem dX2_nextTale_20 : decode cX2_nextTale 20 = .ok (.if_icmp .ge 15, 3) := by decide +kernel
theorem dX2_nextTale_23 : decode cX2_nextTale 23 = .ok (.aload_n 0, 1) := by decide +kernel
theorem dX2_nextTale_24 : decode cX2_nextTale 24 = .ok (.getfield 27, 3) := by decide +kernel
theorem dX2_nextTale_27 : decode cX2_nextTale 27 = .ok (.iload_n 2, 1) := by decide +kernel
theorem dX2_nextTale_28 : decode cX2_nextTale 28 = .ok (.dup2, 1) := by decide +kernel
theorem dX2_nextTale_29 : decode cX2_nextTale 29 = .ok (.iaload, 1) := by decide +kernel
theorem dX2_nextTale_30 : decode cX2_nextTale 30 = .ok (.iconst 1, 1) := by decide +kernel
theorem dX2_nextTale_31 : decode cX2_nextTale 31 = .ok (.iadd, 1) := by decide +kernel
theorem dX2_nextTale_32 : decode cX2_nextTale 32 = .ok (.iastore, 1) := by decide +kernel
theorem dX2_nextTale_33 : decode cX2_nextTale 33 = .ok (.iload_n 2, 1) := by decide +kernel
theorem dX2_nextTale_34 : decode cX2_nextTale 34 = .ok (.ireturn, 1) := by decide +kernel
theorem dX2_nextTale_35 : decode cX2_nextTale 35 = .ok (.aload_n 0, 1) := by decide +kernel
theorem dX2_nextTale_36 : decode cX2_nextTale 36 = .ok (.getfield 27, 3) := by decide +kernel
theorem dX2_nextTale_39 : decode cX2_nextTale 39 = .ok (.iload_n 2, 1) := by decide +kernel
theorem dX2_nextTale_40 : decode cX2_nextTale 40 = .ok (.iconst 0, 1) := by decide +kernel
theorem dX2_nextTale_41 : decode cX2_nextTale 41 = .ok (.iastore, 1) := by decide +kernel
theorem dX2_nextTale_42 : decode cX2_nextTale 42 = .ok (.iinc 2 (-1), 3) := by decide +kernel
theorem dX2_nextTale_45 : decode cX2_nextTale 45 = .ok (.goto (-41), 3) := by decide +kernel
theorem dX2_nextTale_48 : decode cX2_nextTale 48 = .ok (.iconst (-1), 1) := by decide +kernel
theorem dX2_nextTale_49 : decode cX2_nextTale 49 = .ok (.ireturn, 1) := by decide +kernel
theorem dX2_makeTurn_0 : decode cX2_makeTurn 0 = .ok (.iload_n 1, 1) := by decide +kernel
theorem dX2_makeTurn_1 : decode cX2_makeTurn 1 = .ok (.bipush 24, 2) := by decide +kernel
theorem dX2_makeTurn_3 : decode cX2_makeTurn 3 = .ok (.imul, 1) := by decide +kernel
theorem dX2_makeTurn_4 : decode cX2_makeTurn 4 = .ok (.istore_n 2, 1) := by decide +kernel
theorem dX2_makeTurn_5 : decode cX2_makeTurn 5 = .ok (.iload_n 2, 1) := by decide +kernel
theorem dX2_makeTurn_6 : decode cX2_makeTurn 6 = .ok (.bipush 24, 2) := by decide +kernel
theorem dX2_makeTurn_8 : decode cX2_makeTurn 8 = .ok (.iadd, 1) := by decide +kernel
theorem dX2_makeTurn_9 : decode cX2_makeTurn 9 = .ok (.istore_n 3, 1) := by decide +kernel
theorem dX2_makeTurn_10 : decode cX2_makeTurn 10 = .ok (.aload_n 0, 1) := by decide +kernel
theorem dX2_makeTurn_11 : decode cX2_makeTurn 11 = .ok (.getfield 27, 3) := by decide +kernel
theorem dX2_makeTurn_14 : decode cX2_makeTurn 14 = .ok (.iload_n 1, 1) := by decide +kernel
theorem dX2_makeTurn_15 : decode cX2_makeTurn 15 = .ok (.iaload, 1) := by decide +kernel
theorem dX2_makeTurn_16 : decode cX2_makeTurn 16 = .ok (.bipush 24, 2) := by decide +kernel
theorem dX2_makeTurn_18 : decode cX2_makeTurn 18 = .ok (.imul, 1) := by decide +kernel
theorem dX2_makeTurn_19 : decode cX2_makeTurn 19 = .ok (.istore 4, 2) := by decide +kernel
theorem dX2_makeTurn_21 : decode cX2_makeTurn 21 = .ok (.iconst 0, 1) := by decide +kernel
theorem dX2_makeTurn_22 : decode cX2_makeTurn 22 = .ok (.istore 5, 2) := by decide +kernel
theorem dX2_makeTurn_24 : decode cX2_makeTurn 24 = .ok (.iload 5, 2) := by decide +kernel
theorem dX2_makeTurn_26 : decode cX2_makeTurn 26 = .ok (.bipush 6, 2) := by decide +kernel
theorem dX2_makeTurn_28 : decode cX2_makeTurn 28 = .ok (.if_icmp .gt 17, 3) := by decide +kernel
theorem dX2_makeTurn_31 : decode cX2_makeTurn 31 = .ok (.aload_n 0, 1) := by decide +kernel
theorem dX2_makeTurn_32 : decode cX2_makeTurn 32 = .ok (.getfield 42, 3) := by decide +kernel
theorem dX2_makeTurn_35 : decode cX2_makeTurn 35 = .ok (.iload 5, 2) := by decide +kernel
theorem dX2_makeTurn_37 : decode cX2_makeTurn 37 = .ok (.iconst 0, 1) := by decide +kernel
theorem dX2_makeTurn_38 : decode cX2_makeTurn 38 = .ok (.iastore, 1) := by decide +kernel
theorem dX2_makeTurn_39 : decode cX2_makeTurn 39 = .ok (.iinc 5 1, 3) := by decide +kernel
theorem dX2_makeTurn_42 : decode cX2_makeTurn 42 = .ok (.goto (-18), 3) := by decide +kernel
theorem dX2_makeTurn_45 : decode cX2_makeTurn 45 = .ok (.iconst 0, 1) := by decide +kernel
theorem dX2_makeTurn_46 : decode cX2_makeTurn 46 = .ok (.istore 5, 2) := by decide +kernel
theorem dX2_makeTurn_48 : decode cX2_makeTurn 48 = .ok (.iload 5, 2) := by decide +kernel
theorem dX2_makeTurn_50 : decode cX2_makeTurn 50 = .ok (.aload_n 0, 1) := by decide +kernel
theorem dX2_makeTurn_51 : decode cX2_makeTurn 51 = .ok (.getfield 45, 3) := by decide +kernel
theorem dX2_makeTurn_54 : decode cX2_makeTurn 54 = .ok (.getfield 72, 3) := by decide +kernel
theorem dX2_makeTurn_57 : decode cX2_makeTurn 57 = .ok (.if_icmp .ge 74, 3) := by decide +kernel
theorem dX2_makeTurn_60 : decode cX2_makeTurn 60 = .ok (.aload_n 0, 1) := by decide +kernel
theorem dX2_makeTurn_61 : decode cX2_makeTurn 61 = .ok (.getfield 39, 3) := by decide +kernel
theorem dX2_makeTurn_64 : decode cX2_makeTurn 64 = .ok (.iload_n 1, 1) := by decide +kernel
theorem dX2_makeTurn_65 : decode cX2_makeTurn 65 = .ok (.iaload, 1) := by decide +kernel
theorem dX2_makeTurn_66 : decode cX2_makeTurn 66 = .ok (.iload 5, 2) := by decide +kernel
theorem dX2_makeTurn_68 : decode cX2_makeTurn 68 = .ok (.invokestatic 98, 3) := by decide +kernel
theorem dX2_makeTurn_71 : decode cX2_makeTurn 71 = .ok (.ifCond .eq 54, 3) := by decide +kernel
theorem dX2_makeTurn_74 : decode cX2_makeTurn 74 = .ok (.aload_n 0, 1) := by decide +kernel
theorem dX2_makeTurn_75 : decode cX2_makeTurn 75 = .ok (.getfield 24, 3) := by decide +kernel
theorem dX2_makeTurn_78 : decode cX2_makeTurn 78 = .ok (.iload 4, 2) := by decide +kernel
theorem dX2_makeTurn_80 : decode cX2_makeTurn 80 = .ok (.aload_n 0, 1) := by decide +kernel
theorem dX2_makeTurn_81 : decode cX2_makeTurn 81 = .ok (.getfield 33, 3) := by decide +kernel
theorem dX2_makeTurn_84 : decode cX2_makeTurn 84 = .ok (.iload_n 2, 1) := by decide +kernel
theorem dX2_makeTurn_85 : decode cX2_makeTurn 85 = .ok (.iload 5, 2) := by decide +kernel
theorem dX2_makeTurn_87 : decode cX2_makeTurn 87 = .ok (.iadd, 1) := by decide +kernel
theorem dX2_makeTurn_88 : decode cX2_makeTurn 88 = .ok (.iaload, 1) := by decide +kernel
theorem dX2_makeTurn_89 : decode cX2_makeTurn 89 = .ok (.iadd, 1) := by decide +kernel
theorem dX2_makeTurn_90 : decode cX2_makeTurn 90 = .ok (.iaload, 1) := by decide +kernel
theorem dX2_makeTurn_91 : decode cX2_makeTurn 91 = .ok (.istore 6, 2) := by decide +kernel
theorem dX2_makeTurn_93 : decode cX2_makeTurn 93 = .ok (.aload_n 0, 1) := by decide +kernel
theorem dX2_makeTurn_94 : decode cX2_makeTurn 94 = .ok (.getfield 33, 3) := by decide +kernel
theorem dX2_makeTurn_97 : decode cX2_makeTurn 97 = .ok (.iload_n 3, 1) := by decide +kernel
theorem dX2_makeTurn_98 : decode cX2_makeTurn 98 = .ok (.iload 5, 2) := by decide +kernel
theorem dX2_makeTurn_100 : decode cX2_makeTurn 100 = .ok (.iadd, 1) := by decide +kernel
theorem dX2_makeTurn_101 : decode cX2_makeTurn 101 = .ok (.iload 6, 2) := by decide +kernel
theorem dX2_makeTurn_103 : decode cX2_makeTurn 103 = .ok (.iastore, 1) := by decide +kernel
theorem dX2_makeTurn_104 : decode cX2_makeTurn 104 = .ok (.aload_n 0, 1) := by decide +kernel
theorem dX2_makeTurn_105 : decode cX2_makeTurn 105 = .ok (.getfield 42, 3) := by decide +kernel
theorem dX2_makeTurn_108 : decode cX2_makeTurn 108 = .ok (.aload_n 0, 1) := by decide +kernel
theorem dX2_makeTurn_109 : decode cX2_makeTurn 109 = .ok (.getfield 45, 3) := by decide +kernel
theorem dX2_makeTurn_112 : decode cX2_makeTurn 112 = .ok (.iload 6, 2) := by decide +kernel
theorem dX2_makeTurn_114 : decode cX2_makeTurn 114 = .ok (.invokevirtual 84, 3) := by decide +kernel
theorem dX2_makeTurn_117 : decode cX2_makeTurn 117 = .ok (.dup2, 1) := by decide +kernel
theorem dX2_makeTurn_118 : decode cX2_makeTurn 118 = .ok (.iaload, 1) := by decide +kernel
theorem dX2_makeTurn_119 : decode cX2_makeTurn 119 = .ok (.iconst 1, 1) := by decide +kernel
theorem dX2_makeTurn_120 : decode cX2_makeTurn 120 = .ok (.iload 5, 2) := by decide +kernel
theorem dX2_makeTurn_122 : decode cX2_makeTurn 122 = .ok (.ishl, 1) := by decide +kernel
theorem dX2_makeTurn_123 : decode cX2_makeTurn 123 = .ok (.ior, 1) := by decide +kernel
theorem dX2_makeTurn_124 : decode cX2_makeTurn 124 = .ok (.iastore, 1) := by decide +kernel
theorem dX2_makeTurn_125 : decode cX2_makeTurn 125 = .ok (.iinc 5 1, 3) := by decide +kernel
theorem dX2_makeTurn_128 : decode cX2_makeTurn 128 = .ok (.goto (-80), 3) := by decide +kernel
theorem dX2_makeTurn_131 : decode cX2_makeTurn 131 = .ok (.aload_n 0, 1) := by decide +kernel
theorem dX2_makeTurn_132 : decode cX2_makeTurn 132 = .ok (.getfield 39, 3) := by decide +kernel
theorem dX2_makeTurn_135 : decode cX2_makeTurn 135 = .ok (.iload_n 1, 1) := by decide +kernel
theorem dX2_makeTurn_136 : decode cX2_makeTurn 136 = .ok (.iconst 1, 1) := by decide +kernel
theorem dX2_makeTurn_137 : decode cX2_makeTurn 137 = .ok (.iadd, 1) := by decide +kernel
theorem dX2_makeTurn_138 : decode cX2_makeTurn 138 = .ok (.iconst 0, 1) := by decide +kernel
theorem dX2_makeTurn_139 : decode cX2_makeTurn 139 = .ok (.iastore, 1) := by decide +kernel
theorem dX2_makeTurn_140 : decode cX2_makeTurn 140 = .ok (.iconst 0, 1) := by decide +kernel
theorem dX2_makeTurn_141 : decode cX2_makeTurn 141 = .ok (.istore 5, 2) := by decide +kernel
theorem dX2_makeTurn_143 : decode cX2_makeTurn 143 = .ok (.iload 5, 2) := by decide +kernel
theorem dX2_makeTurn_145 : decode cX2_makeTurn 145 = .ok (.aload_n 0, 1) := by decide +kernel
theorem dX2_makeTurn_146 : decode cX2_makeTurn 146 = .ok (.getfield 45, 3) := by decide +kernel
theorem dX2_makeTurn_149 : decode cX2_makeTurn 149 = .ok (.getfield 72, 3) := by decide +kernel
theorem dX2_makeTurn_152 : decode cX2_makeTurn 152 = .ok (.if_icmp .ge 102, 3) := by decide +kernel
theorem dX2_makeTurn_155 : decode cX2_makeTurn 155 = .ok (.aload_n 0, 1) := by decide +kernel
theorem dX2_makeTurn_156 : decode cX2_makeTurn 156 = .ok (.getfield 39, 3) := by decide +kernel
theorem dX2_makeTurn_159 : decode cX2_makeTurn 159 = .ok (.iload_n 1, 1) := by decide +kernel
theorem dX2_makeTurn_160 : decode cX2_makeTurn 160 = .ok (.iaload, 1) := by decide +kernel
theorem dX2_makeTurn_161 : decode cX2_makeTurn 161 = .ok (.iload 5, 2) := by decide +kernel
theorem dX2_makeTurn_163 : decode cX2_makeTurn 163 = .ok (.invokestatic 98, 3) := by decide +kernel
theorem dX2_makeTurn_166 : decode cX2_makeTurn 166 = .ok (.ifCond .eq 82, 3) := by decide +kernel
theorem dX2_makeTurn_169 : decode cX2_makeTurn 169 = .ok (.aload_n 0, 1) := by decide +kernel
theorem dX2_makeTurn_170 : decode cX2_makeTurn 170 = .ok (.getfield 36, 3) := by decide +kernel
theorem dX2_makeTurn_173 : decode cX2_makeTurn 173 = .ok (.iload_n 2, 1) := by decide +kernel
theorem dX2_makeTurn_174 : decode cX2_makeTurn 174 = .ok (.iload 5, 2) := by decide +kernel
theorem dX2_makeTurn_176 : decode cX2_makeTurn 176 = .ok (.iadd, 1) := by decide +kernel
theorem dX2_makeTurn_177 : decode cX2_makeTurn 177 = .ok (.iaload, 1) := by decide +kernel
theorem dX2_makeTurn_178 : decode cX2_makeTurn 178 = .ok (.aload_n 0, 1) := by decide +kernel
theorem dX2_makeTurn_179 : decode cX2_makeTurn 179 = .ok (.getfield 42, 3) := by decide +kernel
theorem dX2_makeTurn_182 : decode cX2_makeTurn 182 = .ok (.aload_n 0, 1) := by decide +kernel
theorem dX2_makeTurn_183 : decode cX2_makeTurn 183 = .ok (.getfield 45, 3) := by decide +kernel
theorem dX2_makeTurn_186 : decode cX2_makeTurn 186 = .ok (.aload_n 0, 1) := by decide +kernel
theorem dX2_makeTurn_187 : decode cX2_makeTurn 187 = .ok (.getfield 33, 3) := by decide +kernel
theorem dX2_makeTurn_190 : decode cX2_makeTurn 190 = .ok (.iload_n 3, 1) := by decide +kernel
theorem dX2_makeTurn_191 : decode cX2_makeTurn 191 = .ok (.iload 5, 2) := by decide +kernel
theorem dX2_makeTurn_193 : decode cX2_makeTurn 193 = .ok (.iadd, 1) := by decide +kernel
theorem dX2_makeTurn_194 : decode cX2_makeTurn 194 = .ok (.iaload, 1) := by decide +kernel
theorem dX2_makeTurn_195 : decode cX2_makeTurn 195 = .ok (.invokevirtual 84, 3) := by decide +kernel
theorem dX2_makeTurn_198 : decode cX2_makeTurn 198 = .ok (.iaload, 1) := by decide +kernel
theorem dX2_makeTurn_199 : decode cX2_makeTurn 199 = .ok (.iand, 1) := by decide +kernel
theorem dX2_makeTurn_200 : decode cX2_makeTurn 200 = .ok (.istore 6, 2) := by decide +kernel
theorem dX2_makeTurn_202 : decode cX2_makeTurn 202 = .ok (.aload_n 0, 1) := by decide +kernel
theorem dX2_makeTurn_203 : decode cX2_makeTurn 203 = .ok (.getfield 36, 3) := by decide +kernel
theorem dX2_makeTurn_206 : decode cX2_makeTurn 206 = .ok (.iload_n 3, 1) := by decide +kernel
theorem dX2_makeTurn_207 : decode cX2_makeTurn 207 = .ok (.iload 5, 2) := by decide +kernel
theorem dX2_makeTurn_209 : decode cX2_makeTurn 209 = .ok (.iadd, 1) := by decide +kernel
theorem dX2_makeTurn_210 : decode cX2_makeTurn 210 = .ok (.iload 6, 2) := by decide +kernel
theorem dX2_makeTurn_212 : decode cX2_makeTurn 212 = .ok (.iastore, 1) := by decide +kernel
theorem dX2_makeTurn_213 : decode cX2_makeTurn 213 = .ok (.aload_n 0, 1) := by decide +kernel
theorem dX2_makeTurn_214 : decode cX2_makeTurn 214 = .ok (.getfield 39, 3) := by decide +kernel
theorem dX2_makeTurn_217 : decode cX2_makeTurn 217 = .ok (.iload_n 1, 1) := by decide +kernel
theorem dX2_makeTurn_218 : decode cX2_makeTurn 218 = .ok (.iconst 1, 1) := by decide +kernel
theorem dX2_makeTurn_219 : decode cX2_makeTurn 219 = .ok (.iadd, 1) := by decide +kernel
theorem dX2_makeTurn_220 : decode cX2_makeTurn 220 = .ok (.aload_n 0, 1) := by decide +kernel
theorem dX2_makeTurn_221 : decode cX2_makeTurn 221 = .ok (.getfield 39, 3) := by decide +kernel
theorem dX2_makeTurn_224 : decode cX2_makeTurn 224 = .ok (.iload_n 1, 1) := by decide +kernel
theorem dX2_makeTurn_225 : decode cX2_makeTurn 225 = .ok (.iconst 1, 1) := by decide +kernel
theorem dX2_makeTurn_226 : decode cX2_makeTurn 226 = .ok (.iadd, 1) := by decide +kernel
theorem dX2_makeTurn_227 : decode cX2_makeTurn 227 = .ok (.iaload, 1) := by decide +kernel
theorem dX2_makeTurn_228 : decode cX2_makeTurn 228 = .ok (.iload 5, 2) := by decide +kernel
theorem dX2_makeTurn_230 : decode cX2_makeTurn 230 = .ok (.iload 6, 2) := by decide +kernel
theorem dX2_makeTurn_232 : decode cX2_makeTurn 232 = .ok (.iconst 1, 1) := by decide +kernel
theorem dX2_makeTurn_233 : decode cX2_makeTurn 233 = .ok (.iload 5, 2) := by decide +kernel
theorem dX2_makeTurn_235 : decode cX2_makeTurn 235 = .ok (.ishl, 1) := by decide +kernel
theorem dX2_makeTurn_236 : decode cX2_makeTurn 236 = .ok (.if_icmp .eq 7, 3) := by decide +kernel
theorem dX2_makeTurn_239 : decode cX2_makeTurn 239 = .ok (.iconst 1, 1) := by decide +kernel
theorem dX2_makeTurn_240 : decode cX2_makeTurn 240 = .ok (.goto 4, 3) := by decide +kernel
theorem dX2_makeTurn_243 : decode cX2_makeTurn 243 = .ok (.iconst 0, 1) := by decide +kernel
theorem dX2_makeTurn_244 : decode cX2_makeTurn 244 = .ok (.invokestatic 106, 3) := by decide +kernel
theorem dX2_makeTurn_247 : decode cX2_makeTurn 247 = .ok (.iastore, 1) := by decide +kernel
theorem dX2_makeTurn_248 : decode cX2_makeTurn 248 = .ok (.iinc 5 1, 3) := by decide +kernel
theorem dX2_makeTurn_251 : decode cX2_makeTurn 251 = .ok (.goto (-108), 3) := by decide +kernel
theorem dX2_makeTurn_254 : decode cX2_makeTurn 254 = .ok (.return_, 1) := by decide +kernel
theorem dX3_init_0 : decode cX3_init 0 = .ok (.aload_n 0, 1) := by decide +kernel
theorem dX3_init_1 : decode cX3_init 1 = .ok (.invokespecial 3, 3) := by decide +kernel
theorem dX3_init_4 : decode cX3_init 4 = .ok (.aload_n 0, 1) := by decide +kernel
theorem dX3_init_5 : decode cX3_init 5 = .ok (.iconst 0, 1) := by decide +kernel
theorem dX3_init_6 : decode cX3_init 6 = .ok (.putfield 11, 3) := by decide +kernel
theorem dX3_init_9 : decode cX3_init 9 = .ok (.aload_n 0, 1) := by decide +kernel
theorem dX3_init_10 : decode cX3_init 10 = .ok (.iconst (-1), 1) := by decide +kernel
theorem dX3_init_11 : decode cX3_init 11 = .ok (.putfield 15, 3) := by decide +kernel
theorem dX3_init_14 : decode cX3_init 14 = .ok (.aload_n 0, 1) := by decide +kernel
theorem dX3_init_15 : decode cX3_init 15 = .ok (.iconst 0, 1) := by decide +kernel
theorem dX3_init_16 : decode cX3_init 16 = .ok (.putfield 18, 3) := by decide +kernel
theorem dX3_init_19 : decode cX3_init 19 = .ok (.aload_n 0, 1) := by decide +kernel
theorem dX3_init_20 : decode cX3_init 20 = .ok (.iconst 0, 1) := by decide +kernel
theorem dX3_init_21 : decode cX3_init 21 = .ok (.putfield 21, 3) := by decide +kernel
theorem dX3_init_24 : decode cX3_init 24 = .ok (.aload_n 0, 1) := by decide +kernel
theorem dX3_init_25 : decode cX3_init 25 = .ok (.iconst 0, 1) := by decide +kernel
theorem dX3_init_26 : decode cX3_init 26 = .ok (.putfield 24, 3) := by decide +kernel
theorem dX3_init_29 : decode cX3_init 29 = .ok (.aload_n 0, 1) := by decide +kernel
theorem dX3_init_30 : decode cX3_init 30 = .ok (.iconst 0, 1) := by decide +kernel
theorem dX3_init_31 : decode cX3_init 31 = .ok (.putfield 27, 3) := by decide +kernel
theorem dX3_init_34 : decode cX3_init 34 = .ok (.aload_n 0, 1) := by decide +kernel
theorem dX3_init_35 : decode cX3_init 35 = .ok (.iconst 0, 1) := by decide +kernel
theorem dX3_init_36 : decode cX3_init 36 = .ok (.putfield 30, 3) := by decide +kernel
theorem dX3_init_39 : decode cX3_init 39 = .ok (.aload_n 0, 1) := by decide +kernel
theorem dX3_init_40 : decode cX3_init 40 = .ok (.bipush 8, 2) := by decide +kernel
theorem dX3_init_42 : decode cX3_init 42 = .ok (.newarray .int, 2) := by decide +kernel
theorem dX3_init_44 : decode cX3_init 44 = .ok (.putfield 35, 3) := by decide +kernel
theorem dX3_init_47 : decode cX3_init 47 = .ok (.aload_n 0, 1) := by decide +kernel
theorem dX3_init_48 : decode cX3_init 48 = .ok (.bipush 8, 2) := by decide +kernel
theorem dX3_init_50 : decode cX3_init 50 = .ok (.newarray .int, 2) := by decide +kernel
theorem dX3_init_52 : decode cX3_init 52 = .ok (.putfield 39, 3) := by decide +kernel
theorem dX3_init_55 : decode cX3_init 55 = .ok (.aload_n 0, 1) := by decide +kernel
theorem dX3_init_56 : decode cX3_init 56 = .ok (.iconst 0, 1) := by decide +kernel
theorem dX3_init_57 : decode cX3_init 57 = .ok (.putfield 42, 3) := by decide +kernel
theorem dX3_init_60 : decode cX3_init 60 = .ok (.aload_n 0, 1) := by decide +kernel
theorem dX3_init_61 : decode cX3_init 61 = .ok (.aload_n 1, 1) := by decide +kernel
theorem dX3_init_62 : decode cX3_init 62 = .ok (.getfield 45, 3) := by decide +kernel
theorem dX3_init_65 : decode cX3_init 65 = .ok (.putfield 50, 3) := by decide +kernel
theorem dX3_init_68 : decode cX3_init 68 = .ok (.return_, 1) := by decide +kernel
theorem dX3_read_0 : decode cX3_read 0 = .ok (.aload_n 0, 1) := by decide +kernel
theorem dX3_read_1 : decode cX3_read 1 = .ok (.iload_n 1, 1) := by decide +kernel
theorem dX3_read_2 : decode cX3_read 2 = .ok (.aload_n 0, 1) := by decide +kernel
theorem dX3_read_3 : decode cX3_read 3 = .ok (.getfield 50, 3) := by decide +kernel
theorem dX3_read_6 : decode cX3_read 6 = .ok (.arraylength, 1) := by decide +kernel
theorem dX3_read_7 : decode cX3_read 7 = .ok (.invokestatic 53, 3) := by decide +kernel
theorem dX3_read_10 : decode cX3_read 10 = .ok (.putfield 18, 3) := by decide +kernel
theorem dX3_read_13 : decode cX3_read 13 = .ok (.aload_n 0, 1) := by decide +kernel
theorem dX3_read_14 : decode cX3_read 14 = .ok (.iconst 0, 1) := by decide +kernel
theorem dX3_read_15 : decode cX3_read 15 = .ok (.putfield 21, 3) := by decide +kernel
theorem dX3_read_18 : decode cX3_read 18 = .ok (.aload_n 0, 1) := by decide +kernel
theorem dX3_read_19 : decode cX3_read 19 = .ok (.iconst 0, 1) := by decide +kernel
theorem dX3_read_20 : decode cX3_read 20 = .ok (.putfield 11, 3) := by decide +kernel
theorem dX3_read_23 : decode cX3_read 23 = .ok (.aload_n 0, 1) := by decide +kernel
theorem dX3_read_24 : decode cX3_read 24 = .ok (.iconst (-1), 1) := by decide +kernel
theorem dX3_read_25 : decode cX3_read 25 = .ok (.putfield 15, 3) := by decide +kernel
theorem dX3_read_28 : decode cX3_read 28 = .ok (.aload_n 0, 1) := by decide +kernel
theorem dX3_read_29 : decode cX3_read 29 = .ok (.iconst 0, 1) := by decide +kernel
theorem dX3_read_30 : decode cX3_read 30 = .ok (.putfield 42, 3) := by decide +kernel
theorem dX3_read_33 : decode cX3_read 33 = .ok (.aload_n 2, 1) := by decide +kernel
theorem dX3_read_34 : decode cX3_read 34 = .ok (.invokevirtual 59, 3) := by decide +kernel
theorem dX3_read_37 : decode cX3_read 37 = .ok (.iconst 0, 1) := by decide +kernel
theorem dX3_read_38 : decode cX3_read 38 = .ok (.istore_n 3, 1) := by decide +kernel
theorem dX3_read_39 : decode cX3_read 39 = .ok (.iload_n 3, 1) := by decide +kernel
theorem dX3_read_40 : decode cX3_read 40 = .ok (.iconst 4, 1) := by decide +kernel
theorem dX3_read_41 : decode cX3_read 41 = .ok (.if_icmp .gt 36, 3) := by decide +kernel
theorem dX3_read_44 : decode cX3_read 44 = .ok (.aload_n 0, 1) := by decide +kernel
theorem dX3_read_45 : decode cX3_read 45 = .ok (.iconst 3, 1) := by decide +kernel
theorem dX3_read_46 : decode cX3_read 46 = .ok (.invokevirtual 62, 3) := by decide +kernel
theorem dX3_read_49 : decode cX3_read 49 = .ok (.ifCond .eq 28, 3) := by decide +kernel
theorem dX3_read_52 : decode cX3_read 52 = .ok (.aload_n 0, 1) := by decide +kernel
theorem dX3_read_53 : decode cX3_read 53 = .ok (.getfield 24, 3) := by decide +kernel
theorem dX3_read_56 : decode cX3_read 56 = .ok (.iconst 1, 1) := by decide +kernel
theorem dX3_read_57 : decode cX3_read 57 = .ok (.if_icmp .eq 20, 3) := by decide +kernel
theorem dX3_read_60 : decode cX3_read 60 = .ok (.aload_n 0, 1) := by decide +kernel
theorem dX3_read_61 : decode cX3_read 61 = .ok (.aload_n 2, 1) := by decide +kernel
theorem dX3_read_62 : decode cX3_read 62 = .ok (.invokevirtual 66, 3) := by decide +kernel
theorem dX3_read_65 : decode cX3_read 65 = .ok (.ifCond .ne 6, 3) := by decide +kernel
theorem dX3_read_68 : decode cX3_read 68 = .ok (.goto 9, 3) := by decide +kernel
theorem dX3_read_71 : decode cX3_read 71 = .ok (.iinc 3 1, 3) := by decide +kernel
theorem dX3_read_74 : decode cX3_read 74 = .ok (.goto (-35), 3) := by decide +kernel
theorem dX3_read_77 : decode cX3_read 77 = .ok (.aload_n 0, 1) := by decide +kernel
theorem dX3_read_78 : decode cX3_read 78 = .ok (.getfield 11, 3) := by decide +kernel
theorem dX3_read_81 : decode cX3_read 81 = .ok (.ifCond .ne 8, 3) := by decide +kernel
theorem dX3_read_84 : decode cX3_read 84 = .ok (.aload_n 0, 1) := by decide +kernel
theorem dX3_read_85 : decode cX3_read 85 = .ok (.aload_n 2, 1) := by decide +kernel
theorem dX3_read_86 : decode cX3_read 86 = .ok (.invokevirtual 70, 3) := by decide +kernel
theorem dX3_read_89 : decode cX3_read 89 = .ok (.return_, 1) := by decide +kernel
theorem dX3_readLine_0 : decode cX3_readLine 0 = .ok (.aload_n 0, 1) := by decide +kernel
theorem dX3_readLine_1 : decode cX3_readLine 1 = .ok (.getfield 30, 3) := by decide +kernel
theorem dX3_readLine_4 : decode cX3_readLine 4 = .ok (.istore_n 2, 1) := by decide +kernel
theorem dX3_readLine_5 : decode cX3_readLine 5 = .ok (.aload_n 1, 1) := by decide +kernel
theorem dX3_readLine_6 : decode cX3_readLine 6 = .ok (.getfield 74, 3) := by decide +kernel
theorem dX3_readLine_9 : decode cX3_readLine 9 = .ok (.iload_n 2, 1) := by decide +kernel
theorem dX3_readLine_10 : decode cX3_readLine 10 = .ok (.invokestatic 77, 3) := by decide +kernel
theorem dX3_readLine_13 : decode cX3_readLine 13 = .ok (.ifCond .eq 14, 3) := by decide +kernel
theorem dX3_readLine_16 : decode cX3_readLine 16 = .ok (.aload_n 0, 1) := by decide +kernel
theorem dX3_readLine_17 : decode cX3_readLine 17 = .ok (.iconst 3, 1) := by decide +kernel
theorem dX3_readLine_18 : decode cX3_readLine 18 = .ok (.aload_n 0, 1) := by decide +kernel
theorem dX3_readLine_19 : decode cX3_readLine 19 = .ok (.getfield 27, 3) := by decide +kernel
theorem dX3_readLine_22 : decode cX3_readLine 22 = .ok (.invokevirtual 81, 3) := by decide +kernel
theorem dX3_readLine_25 : decode cX3_readLine 25 = .ok (.iconst 0, 1) := by decide +kernel
theorem dX3_readLine_26 : decode cX3_readLine 26 = .ok (.ireturn, 1) := by decide +kernel
theorem dX3_readLine_27 : decode cX3_readLine 27 = .ok (.aload_n 1, 1) := by decide +kernel
theorem dX3_readLine_28 : decode cX3_readLine 28 = .ok (.iload_n 2, 1) := by decide +kernel
theorem dX3_readLine_29 : decode cX3_readLine 29 = .ok (.invokevirtual 85, 3) := by decide +kernel
theorem dX3_readLine_32 : decode cX3_readLine 32 = .ok (.aload_n 0, 1) := by decide +kernel
theorem dX3_readLine_33 : decode cX3_readLine 33 = .ok (.bipush 16, 2) := by decide +kernel
theorem dX3_readLine_35 : decode cX3_readLine 35 = .ok (.invokevirtual 62, 3) := by decide +kernel
theorem dX3_readLine_38 : decode cX3_readLine 38 = .ok (.ifCond .eq 23, 3) := by decide +kernel
theorem dX3_readLine_41 : decode cX3_readLine 41 = .ok (.aload_n 0, 1) := by decide +kernel
theorem dX3_readLine_42 : decode cX3_readLine 42 = .ok (.aload_n 1, 1) := by decide +kernel
theorem dX3_readLine_43 : decode cX3_readLine 43 = .ok (.iconst 2, 1) := by decide +kernel
theorem dX3_readLine_44 : decode cX3_readLine 44 = .ok (.iload_n 2, 1) := by decide +kernel
theorem dX3_readLine_45 : decode cX3_readLine 45 = .ok (.imul, 1) := by decide +kernel
theorem dX3_readLine_46 : decode cX3_readLine 46 = .ok (.invokevirtual 89, 3) := by decide +kernel
theorem dX3_readLine_49 : decode cX3_readLine 49 = .ok (.ifCond .eq 12, 3) := by decide +kernel
theorem dX3_readLine_52 : decode cX3_readLine 52 = .ok (.aload_n 0, 1) := by decide +kernel
theorem dX3_readLine_53 : decode cX3_readLine 53 = .ok (.bipush 96, 2) := by decide +kernel
theorem dX3_readLine_55 : decode cX3_readLine 55 = .ok (.invokevirtual 62, 3) := by decide +kernel
theorem dX3_readLine_58 : decode cX3_readLine 58 = .ok (.ifCond .ne 5, 3) := by decide +kernel
theorem dX3_readLine_61 : decode cX3_readLine 61 = .ok (.iconst 0, 1) := by decide +kernel
theorem dX3_readLine_62 : decode cX3_readLine 62 = .ok (.ireturn, 1) := by decide +kernel
theorem dX3_readLine_63 : decode cX3_readLine 63 = .ok (.aload_n 0, 1) := by decide +kernel
theorem dX3_readLine_64 : decode cX3_readLine 64 = .ok (.getfield 24, 3) := by decide +kernel
theorem dX3_readLine_67 : decode cX3_readLine 67 = .ok (.bipush 64, 2) := by decide +kernel
theorem dX3_readLine_69 : decode cX3_readLine 69 = .ok (.if_icmp .ne 5, 3) := by decide +kernel
theorem dX3_readLine_72 : decode cX3_readLine 72 = .ok (.iconst 1, 1) := by decide +kernel
theorem dX3_readLine_73 : decode cX3_readLine 73 = .ok (.ireturn, 1) := by decide +kernel
theorem dX3_readLine_74 : decode cX3_readLine 74 = .ok (.aload_n 1, 1) := by decide +kernel
theorem dX3_readLine_75 : decode cX3_readLine 75 = .ok (.aload_n 1, 1) := by decide +kernel
theorem dX3_readLine_76 : decode cX3_readLine 76 = .ok (.getfield 93, 3) := by decide +kernel
theorem dX3_readLine_79 : decode cX3_readLine 79 = .ok (.iload_n 2, 1) := by decide +kernel
theorem dX3_readLine_80 : decode cX3_readLine 80 = .ok (.iconst 1, 1) := by decide +kernel
theorem dX3_readLine_81 : decode cX3_readLine 81 = .ok (.invokestatic 96, 3) := by decide +kernel
theorem dX3_readLine_84 : decode cX3_readLine 84 = .ok (.putfield 93, 3) := by decide +kernel
theorem dX3_readLine_87 : decode cX3_readLine 87 = .ok (.aload_n 0, 1) := by decide +kernel
theorem dX3_readLine_88 : decode cX3_readLine 88 = .ok (.aload_n 1, 1) := by decide +kernel
theorem dX3_readLine_89 : decode cX3_readLine 89 = .ok (.iconst 2, 1) := by decide +kernel
theorem dX3_readLine_90 : decode cX3_readLine 90 = .ok (.iload_n 2, 1) := by decide +kernel
theorem dX3_readLine_91 : decode cX3_readLine 91 = .ok (.imul, 1) := by decide +kernel
theorem dX3_readLine_92 : decode cX3_readLine 92 = .ok (.iconst 1, 1) := by decide +kernel
theorem dX3_readLine_93 : decode cX3_readLine 93 = .ok (.iadd, 1) := by decide +kernel
theorem dX3_readLine_94 : decode cX3_readLine 94 = .ok (.invokevirtual 89, 3) := by decide +kernel
theorem dX3_readLine_97 : decode cX3_readLine 97 = .ok (.ifCond .eq 16, 3) := by decide +kernel
theorem dX3_readLine_100 : decode cX3_readLine 100 = .ok (.aload_n 0, 1) := by decide +kernel
theorem dX3_readLine_101 : decode cX3_readLine 101 = .ok (.bipush 64, 2) := by decide +kernel
theorem dX3_readLine_103 : decode cX3_readLine 103 = .ok (.invokevirtual 62, 3) := by decide +kernel
theorem dX3_readLine_106 : decode cX3_readLine 106 = .ok (.ifCond .eq 7, 3) := by decide +kernel
theorem dX3_readLine_109 : decode cX3_readLine 109 = .ok (.iconst 1, 1) := by decide +kernel
theorem dX3_readLine_110 : decode cX3_readLine 110 = .ok (.goto 4, 3) := by decide +kernel
theorem dX3_readLine_113 : decode cX3_readLine 113 = .ok (.iconst 0, 1) := by decide +kernel
theorem dX3_readLine_114 : decode cX3_readLine 114 = .ok (.ireturn, 1) := by decide +kernel
theorem dX3_readAct_0 : decode cX3_readAct 0 = .ok (.aload_n 0, 1) := by decide +kernel
theorem dX3_readAct_1 : decode cX3_readAct 1 = .ok (.iconst 4, 1) := by decide +kernel
theorem dX3_readAct_2 : decode cX3_readAct 2 = .ok (.invokevirtual 62, 3) := by decide +kernel
theorem dX3_readAct_5 : decode cX3_readAct 5 = .ok (.ifCond .ne 5, 3) := by decide +kernel
theorem dX3_readAct_8 : decode cX3_readAct 8 = .ok (.iconst 0, 1) := by decide +kernel
theorem dX3_readAct_9 : decode cX3_readAct 9 = .ok (.ireturn, 1) := by decide +kernel
theorem dX3_readAct_10 : decode cX3_readAct 10 = .ok (.aload_n 0, 1) := by decide +kernel
theorem dX3_readAct_11 : decode cX3_readAct 11 = .ok (.getfield 30, 3) := by decide +kernel
theorem dX3_readAct_14 : decode cX3_readAct 14 = .ok (.bipush 9, 2) := by decide +kernel
theorem dX3_readAct_16 : decode cX3_readAct 16 = .ok (.if_icmp .le 14, 3) := by decide +kernel
theorem dX3_readAct_19 : decode cX3_readAct 19 = .ok (.aload_n 0, 1) := by decide +kernel
theorem dX3_readAct_20 : decode cX3_readAct 20 = .ok (.iconst 2, 1) := by decide +kernel
theorem dX3_readAct_21 : decode cX3_readAct 21 = .ok (.aload_n 0, 1) := by decide +kernel
