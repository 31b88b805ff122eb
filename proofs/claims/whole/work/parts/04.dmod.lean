theorem dX7_init_0 : decode cX7_init 0 = .ok (.aload_n 0, 1) := by decide +kernel
theorem dX7_init_1 : decode cX7_init 1 = .ok (.invokespecial 1, 3) := by decide +kernel
theorem dX7_init_4 : decode cX7_init 4 = .ok (.aload_n 0, 1) := by decide +kernel
theorem dX7_init_5 : decode cX7_init 5 = .ok (.sipush 367, 3) := by decide +kernel
theorem dX7_init_8 : decode cX7_init 8 = .ok (.newarray .int, 2) := by decide +kernel
theorem dX7_init_10 : decode cX7_init 10 = .ok (.putfield 7, 3) := by decide +kernel
theorem dX7_init_13 : decode cX7_init 13 = .ok (.aload_n 0, 1) := by decide +kernel
theorem dX7_init_14 : decode cX7_init 14 = .ok (.sipush 5872, 3) := by decide +kernel
theorem dX7_init_17 : decode cX7_init 17 = .ok (.newarray .int, 2) := by decide +kernel
theorem dX7_init_19 : decode cX7_init 19 = .ok (.putfield 13, 3) := by decide +kernel
theorem dX7_init_22 : decode cX7_init 22 = .ok (.aload_n 0, 1) := by decide +kernel
theorem dX7_init_23 : decode cX7_init 23 = .ok (.sipush 736, 3) := by decide +kernel
theorem dX7_init_26 : decode cX7_init 26 = .ok (.newarray .int, 2) := by decide +kernel
theorem dX7_init_28 : decode cX7_init 28 = .ok (.putfield 16, 3) := by decide +kernel
theorem dX7_init_31 : decode cX7_init 31 = .ok (.aload_n 0, 1) := by decide +kernel
theorem dX7_init_32 : decode cX7_init 32 = .ok (.iconst 2, 1) := by decide +kernel
theorem dX7_init_33 : decode cX7_init 33 = .ok (.newarray .boolean, 2) := by decide +kernel
theorem dX7_init_35 : decode cX7_init 35 = .ok (.putfield 19, 3) := by decide +kernel
theorem dX7_init_38 : decode cX7_init 38 = .ok (.aload_n 0, 1) := by decide +kernel
theorem dX7_init_39 : decode cX7_init 39 = .ok (.bipush 60, 2) := by decide +kernel
theorem dX7_init_41 : decode cX7_init 41 = .ok (.newarray .int, 2) := by decide +kernel
theorem dX7_init_43 : decode cX7_init 43 = .ok (.putfield 23, 3) := by decide +kernel
theorem dX7_init_46 : decode cX7_init 46 = .ok (.aload_n 0, 1) := by decide +kernel
theorem dX7_init_47 : decode cX7_init 47 = .ok (.bipush 20, 2) := by decide +kernel
theorem dX7_init_49 : decode cX7_init 49 = .ok (.newarray .int, 2) := by decide +kernel
theorem dX7_init_51 : decode cX7_init 51 = .ok (.putfield 26, 3) := by decide +kernel
theorem dX7_init_54 : decode cX7_init 54 = .ok (.aload_n 0, 1) := by decide +kernel
theorem dX7_init_55 : decode cX7_init 55 = .ok (.bipush 20, 2) := by decide +kernel
theorem dX7_init_57 : decode cX7_init 57 = .ok (.newarray .int, 2) := by decide +kernel
theorem dX7_init_59 : decode cX7_init 59 = .ok (.putfield 29, 3) := by decide +kernel
theorem dX7_init_62 : decode cX7_init 62 = .ok (.aload_n 0, 1) := by decide +kernel
theorem dX7_init_63 : decode cX7_init 63 = .ok (.bipush 20, 2) := by decide +kernel
theorem dX7_init_65 : decode cX7_init 65 = .ok (.newarray .int, 2) := by decide +kernel
theorem dX7_init_67 : decode cX7_init 67 = .ok (.putfield 32, 3) := by decide +kernel
theorem dX7_init_70 : decode cX7_init 70 = .ok (.aload_n 0, 1) := by decide +kernel
theorem dX7_init_71 : decode cX7_init 71 = .ok (.bipush 10, 2) := by decide +kernel
theorem dX7_init_73 : decode cX7_init 73 = .ok (.newarray .int, 2) := by decide +kernel
theorem dX7_init_75 : decode cX7_init 75 = .ok (.putfield 35, 3) := by decide +kernel
theorem dX7_init_78 : decode cX7_init 78 = .ok (.aload_n 0, 1) := by decide +kernel
theorem dX7_init_79 : decode cX7_init 79 = .ok (.iconst 0, 1) := by decide +kernel
theorem dX7_init_80 : decode cX7_init 80 = .ok (.iconst 4, 1) := by decide +kernel
theorem dX7_init_81 : decode cX7_init 81 = .ok (.iconst 4, 1) := by decide +kernel
theorem dX7_init_82 : decode cX7_init 82 = .ok (.invokevirtual 38, 3) := by decide +kernel
theorem dX7_init_85 : decode cX7_init 85 = .ok (.return_, 1) := by decide +kernel
theorem dX7_in_0 : decode cX7_in 0 = .ok (.iload_n 0, 1) := by decide +kernel
theorem dX7_in_1 : decode cX7_in 1 = .ok (.iload_n 1, 1) := by decide +kernel
theorem dX7_in_2 : decode cX7_in 2 = .ok (.if_icmp .lt 12, 3) := by decide +kernel
theorem dX7_in_5 : decode cX7_in 5 = .ok (.iload_n 0, 1) := by decide +kernel
theorem dX7_in_6 : decode cX7_in 6 = .ok (.iload_n 2, 1) := by decide +kernel
theorem dX7_in_7 : decode cX7_in 7 = .ok (.if_icmp .gt 7, 3) := by decide +kernel
theorem dX7_in_10 : decode cX7_in 10 = .ok (.iconst 1, 1) := by decide +kernel
theorem dX7_in_11 : decode cX7_in 11 = .ok (.goto 4, 3) := by decide +kernel
theorem dX7_in_14 : decode cX7_in 14 = .ok (.iconst 0, 1) := by decide +kernel
theorem dX7_in_15 : decode cX7_in 15 = .ok (.ireturn, 1) := by decide +kernel
theorem dX7_isValue_0 : decode cX7_isValue 0 = .ok (.iload_n 1, 1) := by decide +kernel
theorem dX7_isValue_1 : decode cX7_isValue 1 = .ok (.iconst 0, 1) := by decide +kernel
theorem dX7_isValue_2 : decode cX7_isValue 2 = .ok (.aload_n 0, 1) := by decide +kernel
theorem dX7_isValue_3 : decode cX7_isValue 3 = .ok (.getfield 7, 3) := by decide +kernel
theorem dX7_isValue_6 : decode cX7_isValue 6 = .ok (.iconst 0, 1) := by decide +kernel
theorem dX7_isValue_7 : decode cX7_isValue 7 = .ok (.iaload, 1) := by decide +kernel
theorem dX7_isValue_8 : decode cX7_isValue 8 = .ok (.iconst 1, 1) := by decide +kernel
theorem dX7_isValue_9 : decode cX7_isValue 9 = .ok (.isub, 1) := by decide +kernel
theorem dX7_isValue_10 : decode cX7_isValue 10 = .ok (.invokestatic 42, 3) := by decide +kernel
theorem dX7_isValue_13 : decode cX7_isValue 13 = .ok (.ireturn, 1) := by decide +kernel
theorem dX7_both_0 : decode cX7_both 0 = .ok (.aload_n 0, 1) := by decide +kernel
theorem dX7_both_1 : decode cX7_both 1 = .ok (.getfield 7, 3) := by decide +kernel
theorem dX7_both_4 : decode cX7_both 4 = .ok (.iconst 3, 1) := by decide +kernel
theorem dX7_both_5 : decode cX7_both 5 = .ok (.bipush 8, 2) := by decide +kernel
theorem dX7_both_7 : decode cX7_both 7 = .ok (.iload_n 1, 1) := by decide +kernel
theorem dX7_both_8 : decode cX7_both 8 = .ok (.imul, 1) := by decide +kernel
theorem dX7_both_9 : decode cX7_both 9 = .ok (.iadd, 1) := by decide +kernel
theorem dX7_both_10 : decode cX7_both 10 = .ok (.iload_n 2, 1) := by decide +kernel
theorem dX7_both_11 : decode cX7_both 11 = .ok (.iadd, 1) := by decide +kernel
theorem dX7_both_12 : decode cX7_both 12 = .ok (.iaload, 1) := by decide +kernel
theorem dX7_both_13 : decode cX7_both 13 = .ok (.ireturn, 1) := by decide +kernel
theorem dX7_isBelow_0 : decode cX7_isBelow 0 = .ok (.aload_n 0, 1) := by decide +kernel
theorem dX7_isBelow_1 : decode cX7_isBelow 1 = .ok (.iload_n 1, 1) := by decide +kernel
theorem dX7_isBelow_2 : decode cX7_isBelow 2 = .ok (.iload_n 2, 1) := by decide +kernel
theorem dX7_isBelow_3 : decode cX7_isBelow 3 = .ok (.invokevirtual 46, 3) := by decide +kernel
theorem dX7_isBelow_6 : decode cX7_isBelow 6 = .ok (.iload_n 2, 1) := by decide +kernel
theorem dX7_isBelow_7 : decode cX7_isBelow 7 = .ok (.if_icmp .ne 7, 3) := by decide +kernel
theorem dX7_isBelow_10 : decode cX7_isBelow 10 = .ok (.iconst 1, 1) := by decide +kernel
theorem dX7_isBelow_11 : decode cX7_isBelow 11 = .ok (.goto 4, 3) := by decide +kernel
theorem dX7_isBelow_14 : decode cX7_isBelow 14 = .ok (.iconst 0, 1) := by decide +kernel
theorem dX7_isBelow_15 : decode cX7_isBelow 15 = .ok (.ireturn, 1) := by decide +kernel
theorem dX7_holds_0 : decode cX7_holds 0 = .ok (.iload_n 1, 1) := by decide +kernel
theorem dX7_holds_1 : decode cX7_holds 1 = .ok (.tableswitch 97 1 3 #[27, 43, 64], 27) := by decide +kernel
theorem dX7_holds_28 : decode cX7_holds 28 = .ok (.aload_n 0, 1) := by decide +kernel
theorem dX7_holds_29 : decode cX7_holds 29 = .ok (.iload_n 2, 1) := by decide +kernel
theorem dX7_holds_30 : decode cX7_holds 30 = .ok (.iload_n 2, 1) := by decide +kernel
theorem dX7_holds_31 : decode cX7_holds 31 = .ok (.invokevirtual 46, 3) := by decide +kernel
theorem dX7_holds_34 : decode cX7_holds 34 = .ok (.iload_n 2, 1) := by decide +kernel
theorem dX7_holds_35 : decode cX7_holds 35 = .ok (.if_icmp .ne 7, 3) := by decide +kernel
theorem dX7_holds_38 : decode cX7_holds 38 = .ok (.iconst 1, 1) := by decide +kernel
theorem dX7_holds_39 : decode cX7_holds 39 = .ok (.goto 4, 3) := by decide +kernel
theorem dX7_holds_42 : decode cX7_holds 42 = .ok (.iconst 0, 1) := by decide +kernel
theorem dX7_holds_43 : decode cX7_holds 43 = .ok (.ireturn, 1) := by decide +kernel
theorem dX7_holds_44 : decode cX7_holds 44 = .ok (.aload_n 0, 1) := by decide +kernel
theorem dX7_holds_45 : decode cX7_holds 45 = .ok (.iload_n 2, 1) := by decide +kernel
theorem dX7_holds_46 : decode cX7_holds 46 = .ok (.iload_n 3, 1) := by decide +kernel
theorem dX7_holds_47 : decode cX7_holds 47 = .ok (.invokevirtual 46, 3) := by decide +kernel
theorem dX7_holds_50 : decode cX7_holds 50 = .ok (.aload_n 0, 1) := by decide +kernel
theorem dX7_holds_51 : decode cX7_holds 51 = .ok (.iload_n 3, 1) := by decide +kernel
theorem dX7_holds_52 : decode cX7_holds 52 = .ok (.iload_n 2, 1) := by decide +kernel
theorem dX7_holds_53 : decode cX7_holds 53 = .ok (.invokevirtual 46, 3) := by decide +kernel
theorem dX7_holds_56 : decode cX7_holds 56 = .ok (.if_icmp .ne 7, 3) := by decide +kernel
theorem dX7_holds_59 : decode cX7_holds 59 = .ok (.iconst 1, 1) := by decide +kernel
theorem dX7_holds_60 : decode cX7_holds 60 = .ok (.goto 4, 3) := by decide +kernel
theorem dX7_holds_63 : decode cX7_holds 63 = .ok (.iconst 0, 1) := by decide +kernel
theorem dX7_holds_64 : decode cX7_holds 64 = .ok (.ireturn, 1) := by decide +kernel
theorem dX7_holds_65 : decode cX7_holds 65 = .ok (.aload_n 0, 1) := by decide +kernel
theorem dX7_holds_66 : decode cX7_holds 66 = .ok (.aload_n 0, 1) := by decide +kernel
theorem dX7_holds_67 : decode cX7_holds 67 = .ok (.iload_n 2, 1) := by decide +kernel
theorem dX7_holds_68 : decode cX7_holds 68 = .ok (.iload_n 3, 1) := by decide +kernel
theorem dX7_holds_69 : decode cX7_holds 69 = .ok (.invokevirtual 46, 3) := by decide +kernel
theorem dX7_holds_72 : decode cX7_holds 72 = .ok (.iload 4, 2) := by decide +kernel
theorem dX7_holds_74 : decode cX7_holds 74 = .ok (.invokevirtual 46, 3) := by decide +kernel
theorem dX7_holds_77 : decode cX7_holds 77 = .ok (.aload_n 0, 1) := by decide +kernel
theorem dX7_holds_78 : decode cX7_holds 78 = .ok (.iload_n 2, 1) := by decide +kernel
theorem dX7_holds_79 : decode cX7_holds 79 = .ok (.aload_n 0, 1) := by decide +kernel
theorem dX7_holds_80 : decode cX7_holds 80 = .ok (.iload_n 3, 1) := by decide +kernel
theorem dX7_holds_81 : decode cX7_holds 81 = .ok (.iload 4, 2) := by decide +kernel
theorem dX7_holds_83 : decode cX7_holds 83 = .ok (.invokevirtual 46, 3) := by decide +kernel
theorem dX7_holds_86 : decode cX7_holds 86 = .ok (.invokevirtual 46, 3) := by decide +kernel
theorem dX7_holds_89 : decode cX7_holds 89 = .ok (.if_icmp .ne 7, 3) := by decide +kernel
theorem dX7_holds_92 : decode cX7_holds 92 = .ok (.iconst 1, 1) := by decide +kernel
theorem dX7_holds_93 : decode cX7_holds 93 = .ok (.goto 4, 3) := by decide +kernel
theorem dX7_holds_96 : decode cX7_holds 96 = .ok (.iconst 0, 1) := by decide +kernel
theorem dX7_holds_97 : decode cX7_holds 97 = .ok (.ireturn, 1) := by decide +kernel
theorem dX7_holds_98 : decode cX7_holds 98 = .ok (.aload_n 0, 1) := by decide +kernel
theorem dX7_holds_99 : decode cX7_holds 99 = .ok (.iconst 0, 1) := by decide +kernel
theorem dX7_holds_100 : decode cX7_holds 100 = .ok (.iload_n 2, 1) := by decide +kernel
theorem dX7_holds_101 : decode cX7_holds 101 = .ok (.invokevirtual 46, 3) := by decide +kernel
theorem dX7_holds_104 : decode cX7_holds 104 = .ok (.iload_n 2, 1) := by decide +kernel
theorem dX7_holds_105 : decode cX7_holds 105 = .ok (.if_icmp .ne 7, 3) := by decide +kernel
theorem dX7_holds_108 : decode cX7_holds 108 = .ok (.iconst 1, 1) := by decide +kernel
theorem dX7_holds_109 : decode cX7_holds 109 = .ok (.goto 4, 3) := by decide +kernel
theorem dX7_holds_112 : decode cX7_holds 112 = .ok (.iconst 0, 1) := by decide +kernel
theorem dX7_holds_113 : decode cX7_holds 113 = .ok (.ireturn, 1) := by decide +kernel
theorem dX7_broken_0 : decode cX7_broken 0 = .ok (.aload_n 0, 1) := by decide +kernel
theorem dX7_broken_1 : decode cX7_broken 1 = .ok (.getfield 7, 3) := by decide +kernel
theorem dX7_broken_4 : decode cX7_broken 4 = .ok (.iconst 0, 1) := by decide +kernel
theorem dX7_broken_5 : decode cX7_broken 5 = .ok (.iaload, 1) := by decide +kernel
theorem dX7_broken_6 : decode cX7_broken 6 = .ok (.istore_n 1, 1) := by decide +kernel
theorem dX7_broken_7 : decode cX7_broken 7 = .ok (.iconst 1, 1) := by decide +kernel
theorem dX7_broken_8 : decode cX7_broken 8 = .ok (.istore_n 2, 1) := by decide +kernel
theorem dX7_broken_9 : decode cX7_broken 9 = .ok (.iload_n 2, 1) := by decide +kernel
theorem dX7_broken_10 : decode cX7_broken 10 = .ok (.iconst 5, 1) := by decide +kernel
theorem dX7_broken_11 : decode cX7_broken 11 = .ok (.if_icmp .ge 49, 3) := by decide +kernel
theorem dX7_broken_14 : decode cX7_broken 14 = .ok (.iconst 0, 1) := by decide +kernel
theorem dX7_broken_15 : decode cX7_broken 15 = .ok (.istore_n 3, 1) := by decide +kernel
theorem dX7_broken_16 : decode cX7_broken 16 = .ok (.iload_n 3, 1) := by decide +kernel
theorem dX7_broken_17 : decode cX7_broken 17 = .ok (.iload_n 1, 1) := by decide +kernel
theorem dX7_broken_18 : decode cX7_broken 18 = .ok (.iload_n 1, 1) := by decide +kernel
theorem dX7_broken_19 : decode cX7_broken 19 = .ok (.imul, 1) := by decide +kernel
theorem dX7_broken_20 : decode cX7_broken 20 = .ok (.iload_n 1, 1) := by decide +kernel
theorem dX7_broken_21 : decode cX7_broken 21 = .ok (.imul, 1) := by decide +kernel
theorem dX7_broken_22 : decode cX7_broken 22 = .ok (.if_icmp .ge 32, 3) := by decide +kernel
theorem dX7_broken_25 : decode cX7_broken 25 = .ok (.aload_n 0, 1) := by decide +kernel
theorem dX7_broken_26 : decode cX7_broken 26 = .ok (.iload_n 2, 1) := by decide +kernel
theorem dX7_broken_27 : decode cX7_broken 27 = .ok (.iload_n 3, 1) := by decide +kernel
theorem dX7_broken_28 : decode cX7_broken 28 = .ok (.iload_n 1, 1) := by decide +kernel
theorem dX7_broken_29 : decode cX7_broken 29 = .ok (.idiv, 1) := by decide +kernel
theorem dX7_broken_30 : decode cX7_broken 30 = .ok (.iload_n 1, 1) := by decide +kernel
theorem dX7_broken_31 : decode cX7_broken 31 = .ok (.idiv, 1) := by decide +kernel
theorem dX7_broken_32 : decode cX7_broken 32 = .ok (.iload_n 3, 1) := by decide +kernel
theorem dX7_broken_33 : decode cX7_broken 33 = .ok (.iload_n 1, 1) := by decide +kernel
theorem dX7_broken_34 : decode cX7_broken 34 = .ok (.idiv, 1) := by decide +kernel
theorem dX7_broken_35 : decode cX7_broken 35 = .ok (.iload_n 1, 1) := by decide +kernel
theorem dX7_broken_36 : decode cX7_broken 36 = .ok (.irem, 1) := by decide +kernel
theorem dX7_broken_37 : decode cX7_broken 37 = .ok (.iload_n 3, 1) := by decide +kernel
theorem dX7_broken_38 : decode cX7_broken 38 = .ok (.iload_n 1, 1) := by decide +kernel
theorem dX7_broken_39 : decode cX7_broken 39 = .ok (.irem, 1) := by decide +kernel
theorem dX7_broken_40 : decode cX7_broken 40 = .ok (.invokevirtual 50, 3) := by decide +kernel
theorem dX7_broken_43 : decode cX7_broken 43 = .ok (.ifCond .ne 5, 3) := by decide +kernel
theorem dX7_broken_46 : decode cX7_broken 46 = .ok (.iload_n 2, 1) := by decide +kernel
theorem dX7_broken_47 : decode cX7_broken 47 = .ok (.ireturn, 1) := by decide +kernel
theorem dX7_broken_48 : decode cX7_broken 48 = .ok (.iinc 3 1, 3) := by decide +kernel
theorem dX7_broken_51 : decode cX7_broken 51 = .ok (.goto (-35), 3) := by decide +kernel
theorem dX7_broken_54 : decode cX7_broken 54 = .ok (.iinc 2 1, 3) := by decide +kernel
theorem dX7_broken_57 : decode cX7_broken 57 = .ok (.goto (-48), 3) := by decide +kernel
theorem dX7_broken_60 : decode cX7_broken 60 = .ok (.iconst 0, 1) := by decide +kernel
theorem dX7_broken_61 : decode cX7_broken 61 = .ok (.ireturn, 1) := by decide +kernel
theorem dX7_isPlace_0 : decode cX7_isPlace 0 = .ok (.iload_n 1, 1) := by decide +kernel
theorem dX7_isPlace_1 : decode cX7_isPlace 1 = .ok (.iconst 0, 1) := by decide +kernel
theorem dX7_isPlace_2 : decode cX7_isPlace 2 = .ok (.aload_n 0, 1) := by decide +kernel
theorem dX7_isPlace_3 : decode cX7_isPlace 3 = .ok (.getfield 7, 3) := by decide +kernel
theorem dX7_isPlace_6 : decode cX7_isPlace 6 = .ok (.iconst 1, 1) := by decide +kernel
theorem dX7_isPlace_7 : decode cX7_isPlace 7 = .ok (.iaload, 1) := by decide +kernel
theorem dX7_isPlace_8 : decode cX7_isPlace 8 = .ok (.iconst 1, 1) := by decide +kernel
theorem dX7_isPlace_9 : decode cX7_isPlace 9 = .ok (.isub, 1) := by decide +kernel
theorem dX7_isPlace_10 : decode cX7_isPlace 10 = .ok (.invokestatic 42, 3) := by decide +kernel
theorem dX7_isPlace_13 : decode cX7_isPlace 13 = .ok (.ireturn, 1) := by decide +kernel
theorem dX7_isWay_0 : decode cX7_isWay 0 = .ok (.iload_n 1, 1) := by decide +kernel
theorem dX7_isWay_1 : decode cX7_isWay 1 = .ok (.iconst 0, 1) := by decide +kernel
theorem dX7_isWay_2 : decode cX7_isWay 2 = .ok (.aload_n 0, 1) := by decide +kernel
theorem dX7_isWay_3 : decode cX7_isWay 3 = .ok (.getfield 7, 3) := by decide +kernel
theorem dX7_isWay_6 : decode cX7_isWay 6 = .ok (.iconst 2, 1) := by decide +kernel
theorem dX7_isWay_7 : decode cX7_isWay 7 = .ok (.iaload, 1) := by decide +kernel
theorem dX7_isWay_8 : decode cX7_isWay 8 = .ok (.iconst 1, 1) := by decide +kernel
theorem dX7_isWay_9 : decode cX7_isWay 9 = .ok (.isub, 1) := by decide +kernel
theorem dX7_isWay_10 : decode cX7_isWay 10 = .ok (.invokestatic 42, 3) := by decide +kernel
theorem dX7_isWay_13 : decode cX7_isWay 13 = .ok (.ireturn, 1) := by decide +kernel
theorem dX7_of_0 : decode cX7_of 0 = .ok (.aload_n 0, 1) := by decide +kernel
theorem dX7_of_1 : decode cX7_of 1 = .ok (.getfield 7, 3) := by decide +kernel
theorem dX7_of_4 : decode cX7_of 4 = .ok (.bipush 107, 2) := by decide +kernel
theorem dX7_of_6 : decode cX7_of 6 = .ok (.bipush 13, 2) := by decide +kernel
theorem dX7_of_8 : decode cX7_of 8 = .ok (.iload_n 1, 1) := by decide +kernel
theorem dX7_of_9 : decode cX7_of 9 = .ok (.imul, 1) := by decide +kernel
theorem dX7_of_10 : decode cX7_of 10 = .ok (.iadd, 1) := by decide +kernel
theorem dX7_of_11 : decode cX7_of 11 = .ok (.iload_n 2, 1) := by decide +kernel
theorem dX7_of_12 : decode cX7_of 12 = .ok (.iadd, 1) := by decide +kernel
theorem dX7_of_13 : decode cX7_of 13 = .ok (.iaload, 1) := by decide +kernel
theorem dX7_of_14 : decode cX7_of 14 = .ok (.ireturn, 1) := by decide +kernel
theorem dX7_keepsOrder_0 : decode cX7_keepsOrder 0 = .ok (.iconst 0, 1) := by decide +kernel
theorem dX7_keepsOrder_1 : decode cX7_keepsOrder 1 = .ok (.istore_n 2, 1) := by decide +kernel
theorem dX7_keepsOrder_2 : decode cX7_keepsOrder 2 = .ok (.iload_n 2, 1) := by decide +kernel
theorem dX7_keepsOrder_3 : decode cX7_keepsOrder 3 = .ok (.aload_n 0, 1) := by decide +kernel
theorem dX7_keepsOrder_4 : decode cX7_keepsOrder 4 = .ok (.getfield 7, 3) := by decide +kernel
theorem dX7_keepsOrder_7 : decode cX7_keepsOrder 7 = .ok (.iconst 0, 1) := by decide +kernel
theorem dX7_keepsOrder_8 : decode cX7_keepsOrder 8 = .ok (.iaload, 1) := by decide +kernel
theorem dX7_keepsOrder_9 : decode cX7_keepsOrder 9 = .ok (.if_icmp .ge 61, 3) := by decide +kernel
theorem dX7_keepsOrder_12 : decode cX7_keepsOrder 12 = .ok (.iconst 0, 1) := by decide +kernel
theorem dX7_keepsOrder_13 : decode cX7_keepsOrder 13 = .ok (.istore_n 3, 1) := by decide +kernel
theorem dX7_keepsOrder_14 : decode cX7_keepsOrder 14 = .ok (.iload_n 3, 1) := by decide +kernel
theorem dX7_keepsOrder_15 : decode cX7_keepsOrder 15 = .ok (.aload_n 0, 1) := by decide +kernel
theorem dX7_keepsOrder_16 : decode cX7_keepsOrder 16 = .ok (.getfield 7, 3) := by decide +kernel
theorem dX7_keepsOrder_19 : decode cX7_keepsOrder 19 = .ok (.iconst 0, 1) := by decide +kernel
theorem dX7_keepsOrder_20 : decode cX7_keepsOrder 20 = .ok (.iaload, 1) := by decide +kernel
theorem dX7_keepsOrder_21 : decode cX7_keepsOrder 21 = .ok (.if_icmp .ge 43, 3) := by decide +kernel
theorem dX7_keepsOrder_24 : decode cX7_keepsOrder 24 = .ok (.aload_n 0, 1) := by decide +kernel
theorem dX7_keepsOrder_25 : decode cX7_keepsOrder 25 = .ok (.iload_n 2, 1) := by decide +kernel
theorem dX7_keepsOrder_26 : decode cX7_keepsOrder 26 = .ok (.iload_n 3, 1) := by decide +kernel
theorem dX7_keepsOrder_27 : decode cX7_keepsOrder 27 = .ok (.invokevirtual 54, 3) := by decide +kernel
theorem dX7_keepsOrder_30 : decode cX7_keepsOrder 30 = .ok (.ifCond .eq 28, 3) := by decide +kernel
theorem dX7_keepsOrder_33 : decode cX7_keepsOrder 33 = .ok (.aload_n 0, 1) := by decide +kernel
theorem dX7_keepsOrder_34 : decode cX7_keepsOrder 34 = .ok (.aload_n 0, 1) := by decide +kernel
theorem dX7_keepsOrder_35 : decode cX7_keepsOrder 35 = .ok (.iload_n 1, 1) := by decide +kernel
theorem dX7_keepsOrder_36 : decode cX7_keepsOrder 36 = .ok (.iconst 5, 1) := by decide +kernel
theorem dX7_keepsOrder_37 : decode cX7_keepsOrder 37 = .ok (.iload_n 2, 1) := by decide +kernel
theorem dX7_keepsOrder_38 : decode cX7_keepsOrder 38 = .ok (.iadd, 1) := by decide +kernel
theorem dX7_keepsOrder_39 : decode cX7_keepsOrder 39 = .ok (.invokevirtual 58, 3) := by decide +kernel
theorem dX7_keepsOrder_42 : decode cX7_keepsOrder 42 = .ok (.aload_n 0, 1) := by decide +kernel
theorem dX7_keepsOrder_43 : decode cX7_keepsOrder 43 = .ok (.iload_n 1, 1) := by decide +kernel
theorem dX7_keepsOrder_44 : decode cX7_keepsOrder 44 = .ok (.iconst 5, 1) := by decide +kernel
theorem dX7_keepsOrder_45 : decode cX7_keepsOrder 45 = .ok (.iload_n 3, 1) := by decide +kernel
theorem dX7_keepsOrder_46 : decode cX7_keepsOrder 46 = .ok (.iadd, 1) := by decide +kernel
theorem dX7_keepsOrder_47 : decode cX7_keepsOrder 47 = .ok (.invokevirtual 58, 3) := by decide +kernel
theorem dX7_keepsOrder_50 : decode cX7_keepsOrder 50 = .ok (.invokevirtual 54, 3) := by decide +kernel
theorem dX7_keepsOrder_53 : decode cX7_keepsOrder 53 = .ok (.ifCond .ne 5, 3) := by decide +kernel
theorem dX7_keepsOrder_56 : decode cX7_keepsOrder 56 = .ok (.iconst 0, 1) := by decide +kernel
theorem dX7_keepsOrder_57 : decode cX7_keepsOrder 57 = .ok (.ireturn, 1) := by decide +kernel
theorem dX7_keepsOrder_58 : decode cX7_keepsOrder 58 = .ok (.iinc 3 1, 3) := by decide +kernel
theorem dX7_keepsOrder_61 : decode cX7_keepsOrder 61 = .ok (.goto (-47), 3) := by decide +kernel
theorem dX7_keepsOrder_64 : decode cX7_keepsOrder 64 = .ok (.iinc 2 1, 3) := by decide +kernel
theorem dX7_keepsOrder_67 : decode cX7_keepsOrder 67 = .ok (.goto (-65), 3) := by decide +kernel
theorem dX7_keepsOrder_70 : decode cX7_keepsOrder 70 = .ok (.iconst 1, 1) := by decide +kernel
theorem dX7_keepsOrder_71 : decode cX7_keepsOrder 71 = .ok (.ireturn, 1) := by decide +kernel
theorem dX7_firstUnordered_0 : decode cX7_firstUnordered 0 = .ok (.iconst 0, 1) := by decide +kernel
theorem dX7_firstUnordered_1 : decode cX7_firstUnordered 1 = .ok (.istore_n 1, 1) := by decide +kernel
theorem dX7_firstUnordered_2 : decode cX7_firstUnordered 2 = .ok (.iload_n 1, 1) := by decide +kernel
theorem dX7_firstUnordered_3 : decode cX7_firstUnordered 3 = .ok (.aload_n 0, 1) := by decide +kernel
theorem dX7_firstUnordered_4 : decode cX7_firstUnordered 4 = .ok (.getfield 7, 3) := by decide +kernel
theorem dX7_firstUnordered_7 : decode cX7_firstUnordered 7 = .ok (.iconst 2, 1) := by decide +kernel
theorem dX7_firstUnordered_8 : decode cX7_firstUnordered 8 = .ok (.iaload, 1) := by decide +kernel
theorem dX7_firstUnordered_9 : decode cX7_firstUnordered 9 = .ok (.if_icmp .ge 19, 3) := by decide +kernel
theorem dX7_firstUnordered_12 : decode cX7_firstUnordered 12 = .ok (.aload_n 0, 1) := by decide +kernel
theorem dX7_firstUnordered_13 : decode cX7_firstUnordered 13 = .ok (.iload_n 1, 1) := by decide +kernel
theorem dX7_firstUnordered_14 : decode cX7_firstUnordered 14 = .ok (.invokevirtual 61, 3) := by decide +kernel
theorem dX7_firstUnordered_17 : decode cX7_firstUnordered 17 = .ok (.ifCond .ne 5, 3) := by decide +kernel
theorem dX7_firstUnordered_20 : decode cX7_firstUnordered 20 = .ok (.iload_n 1, 1) := by decide +kernel
theorem dX7_firstUnordered_21 : decode cX7_firstUnordered 21 = .ok (.ireturn, 1) := by decide +kernel
theorem dX7_firstUnordered_22 : decode cX7_firstUnordered 22 = .ok (.iinc 1 1, 3) := by decide +kernel
theorem dX7_firstUnordered_25 : decode cX7_firstUnordered 25 = .ok (.goto (-23), 3) := by decide +kernel
theorem dX7_firstUnordered_28 : decode cX7_firstUnordered 28 = .ok (.iconst (-1), 1) := by decide +kernel
theorem dX7_firstUnordered_29 : decode cX7_firstUnordered 29 = .ok (.ireturn, 1) := by decide +kernel
theorem dX7_isWell_0 : decode cX7_isWell 0 = .ok (.aload_n 0, 1) := by decide +kernel
theorem dX7_isWell_1 : decode cX7_isWell 1 = .ok (.invokevirtual 65, 3) := by decide +kernel
theorem dX7_isWell_4 : decode cX7_isWell 4 = .ok (.ifCond .ne 15, 3) := by decide +kernel
theorem dX7_isWell_7 : decode cX7_isWell 7 = .ok (.aload_n 0, 1) := by decide +kernel
theorem dX7_isWell_8 : decode cX7_isWell 8 = .ok (.invokevirtual 69, 3) := by decide +kernel
theorem dX7_isWell_11 : decode cX7_isWell 11 = .ok (.iconst (-1), 1) := by decide +kernel
theorem dX7_isWell_12 : decode cX7_isWell 12 = .ok (.if_icmp .ne 7, 3) := by decide +kernel
theorem dX7_isWell_15 : decode cX7_isWell 15 = .ok (.iconst 1, 1) := by decide +kernel
theorem dX7_isWell_16 : decode cX7_isWell 16 = .ok (.goto 4, 3) := by decide +kernel
theorem dX7_isWell_19 : decode cX7_isWell 19 = .ok (.iconst 0, 1) := by decide +kernel
theorem dX7_isWell_20 : decode cX7_isWell 20 = .ok (.ireturn, 1) := by decide +kernel
theorem dX7_isSet_0 : decode cX7_isSet 0 = .ok (.iload_n 0, 1) := by decide +kernel
theorem dX7_isSet_1 : decode cX7_isSet 1 = .ok (.iconst 0, 1) := by decide +kernel
theorem dX7_isSet_2 : decode cX7_isSet 2 = .ok (.sipush 255, 3) := by decide +kernel
theorem dX7_isSet_5 : decode cX7_isSet 5 = .ok (.invokestatic 42, 3) := by decide +kernel
theorem dX7_isSet_8 : decode cX7_isSet 8 = .ok (.ireturn, 1) := by decide +kernel
theorem dX7_brings_0 : decode cX7_brings 0 = .ok (.aload_n 0, 1) := by decide +kernel
theorem dX7_brings_1 : decode cX7_brings 1 = .ok (.aload_n 0, 1) := by decide +kernel
theorem dX7_brings_2 : decode cX7_brings 2 = .ok (.iload_n 1, 1) := by decide +kernel
theorem dX7_brings_3 : decode cX7_brings 3 = .ok (.iconst 4, 1) := by decide +kernel
theorem dX7_brings_4 : decode cX7_brings 4 = .ok (.invokevirtual 58, 3) := by decide +kernel
theorem dX7_brings_7 : decode cX7_brings 7 = .ok (.iload_n 2, 1) := by decide +kernel
theorem dX7_brings_8 : decode cX7_brings 8 = .ok (.invokevirtual 54, 3) := by decide +kernel
theorem dX7_brings_11 : decode cX7_brings 11 = .ok (.istore 4, 2) := by decide +kernel
theorem dX7_brings_13 : decode cX7_brings 13 = .ok (.aload_n 0, 1) := by decide +kernel
theorem dX7_brings_14 : decode cX7_brings 14 = .ok (.iload 4, 2) := by decide +kernel
theorem dX7_brings_16 : decode cX7_brings 16 = .ok (.ifCond .eq 14, 3) := by decide +kernel
theorem dX7_brings_19 : decode cX7_brings 19 = .ok (.aload_n 0, 1) := by decide +kernel
theorem dX7_brings_20 : decode cX7_brings 20 = .ok (.iload_n 1, 1) := by decide +kernel
theorem dX7_brings_21 : decode cX7_brings 21 = .ok (.iconst 5, 1) := by decide +kernel
theorem dX7_brings_22 : decode cX7_brings 22 = .ok (.iload_n 2, 1) := by decide +kernel
theorem dX7_brings_23 : decode cX7_brings 23 = .ok (.iadd, 1) := by decide +kernel
theorem dX7_brings_24 : decode cX7_brings 24 = .ok (.invokevirtual 58, 3) := by decide +kernel
theorem dX7_brings_27 : decode cX7_brings 27 = .ok (.goto 4, 3) := by decide +kernel
theorem dX7_brings_30 : decode cX7_brings 30 = .ok (.iconst 0, 1) := by decide +kernel
theorem dX7_brings_31 : decode cX7_brings 31 = .ok (.putfield 72, 3) := by decide +kernel
theorem dX7_brings_34 : decode cX7_brings 34 = .ok (.aload_n 0, 1) := by decide +kernel
theorem dX7_brings_35 : decode cX7_brings 35 = .ok (.iload 4, 2) := by decide +kernel
theorem dX7_brings_37 : decode cX7_brings 37 = .ok (.ifCond .eq 23, 3) := by decide +kernel
theorem dX7_brings_40 : decode cX7_brings 40 = .ok (.iload_n 3, 1) := by decide +kernel
theorem dX7_brings_41 : decode cX7_brings 41 = .ok (.aload_n 0, 1) := by decide +kernel
theorem dX7_brings_42 : decode cX7_brings 42 = .ok (.iload_n 1, 1) := by decide +kernel
theorem dX7_brings_43 : decode cX7_brings 43 = .ok (.iconst 3, 1) := by decide +kernel
theorem dX7_brings_44 : decode cX7_brings 44 = .ok (.invokevirtual 58, 3) := by decide +kernel
theorem dX7_brings_47 : decode cX7_brings 47 = .ok (.iconst (-1), 1) := by decide +kernel
theorem dX7_brings_48 : decode cX7_brings 48 = .ok (.ixor, 1) := by decide +kernel
theorem dX7_brings_49 : decode cX7_brings 49 = .ok (.iand, 1) := by decide +kernel
theorem dX7_brings_50 : decode cX7_brings 50 = .ok (.aload_n 0, 1) := by decide +kernel
theorem dX7_brings_51 : decode cX7_brings 51 = .ok (.iload_n 1, 1) := by decide +kernel
theorem dX7_brings_52 : decode cX7_brings 52 = .ok (.iconst 2, 1) := by decide +kernel
theorem dX7_brings_53 : decode cX7_brings 53 = .ok (.invokevirtual 58, 3) := by decide +kernel
theorem dX7_brings_56 : decode cX7_brings 56 = .ok (.ior, 1) := by decide +kernel
theorem dX7_brings_57 : decode cX7_brings 57 = .ok (.goto 4, 3) := by decide +kernel
theorem dX7_brings_60 : decode cX7_brings 60 = .ok (.iconst 0, 1) := by decide +kernel
theorem dX7_brings_61 : decode cX7_brings 61 = .ok (.putfield 76, 3) := by decide +kernel
theorem dX7_brings_64 : decode cX7_brings 64 = .ok (.return_, 1) := by decide +kernel
theorem dX7_gathers_0 : decode cX7_gathers 0 = .ok (.aload_n 0, 1) := by decide +kernel
theorem dX7_gathers_1 : decode cX7_gathers 1 = .ok (.aload_n 0, 1) := by decide +kernel
theorem dX7_gathers_2 : decode cX7_gathers 2 = .ok (.getfield 7, 3) := by decide +kernel
theorem dX7_gathers_5 : decode cX7_gathers 5 = .ok (.bipush 67, 2) := by decide +kernel
theorem dX7_gathers_7 : decode cX7_gathers 7 = .ok (.iload_n 2, 1) := by decide +kernel
theorem dX7_gathers_8 : decode cX7_gathers 8 = .ok (.iadd, 1) := by decide +kernel
theorem dX7_gathers_9 : decode cX7_gathers 9 = .ok (.iaload, 1) := by decide +kernel
theorem dX7_gathers_10 : decode cX7_gathers 10 = .ok (.putfield 79, 3) := by decide +kernel
theorem dX7_gathers_13 : decode cX7_gathers 13 = .ok (.aload_n 0, 1) := by decide +kernel
theorem dX7_gathers_14 : decode cX7_gathers 14 = .ok (.aload_n 0, 1) := by decide +kernel
theorem dX7_gathers_15 : decode cX7_gathers 15 = .ok (.getfield 7, 3) := by decide +kernel
theorem dX7_gathers_18 : decode cX7_gathers 18 = .ok (.bipush 77, 2) := by decide +kernel
theorem dX7_gathers_20 : decode cX7_gathers 20 = .ok (.iload_n 2, 1) := by decide +kernel
theorem dX7_gathers_21 : decode cX7_gathers 21 = .ok (.iadd, 1) := by decide +kernel
theorem dX7_gathers_22 : decode cX7_gathers 22 = .ok (.iaload, 1) := by decide +kernel
theorem dX7_gathers_23 : decode cX7_gathers 23 = .ok (.putfield 82, 3) := by decide +kernel
theorem dX7_gathers_26 : decode cX7_gathers 26 = .ok (.iconst 0, 1) := by decide +kernel
theorem dX7_gathers_27 : decode cX7_gathers 27 = .ok (.istore 4, 2) := by decide +kernel
theorem dX7_gathers_29 : decode cX7_gathers 29 = .ok (.iload 4, 2) := by decide +kernel
theorem dX7_gathers_31 : decode cX7_gathers 31 = .ok (.aload_n 0, 1) := by decide +kernel
theorem dX7_gathers_32 : decode cX7_gathers 32 = .ok (.getfield 7, 3) := by decide +kernel
theorem dX7_gathers_35 : decode cX7_gathers 35 = .ok (.iconst 2, 1) := by decide +kernel
theorem dX7_gathers_36 : decode cX7_gathers 36 = .ok (.iaload, 1) := by decide +kernel
theorem dX7_gathers_37 : decode cX7_gathers 37 = .ok (.if_icmp .ge 82, 3) := by decide +kernel
theorem dX7_gathers_40 : decode cX7_gathers 40 = .ok (.iload 4, 2) := by decide +kernel
theorem dX7_gathers_42 : decode cX7_gathers 42 = .ok (.iload_n 3, 1) := by decide +kernel
theorem dX7_gathers_43 : decode cX7_gathers 43 = .ok (.if_icmp .eq 70, 3) := by decide +kernel
theorem dX7_gathers_46 : decode cX7_gathers 46 = .ok (.aload_n 0, 1) := by decide +kernel
theorem dX7_gathers_47 : decode cX7_gathers 47 = .ok (.iload 4, 2) := by decide +kernel
theorem dX7_gathers_49 : decode cX7_gathers 49 = .ok (.iconst 1, 1) := by decide +kernel
theorem dX7_gathers_50 : decode cX7_gathers 50 = .ok (.invokevirtual 58, 3) := by decide +kernel
theorem dX7_gathers_53 : decode cX7_gathers 53 = .ok (.iload_n 2, 1) := by decide +kernel
theorem dX7_gathers_54 : decode cX7_gathers 54 = .ok (.if_icmp .ne 59, 3) := by decide +kernel
theorem dX7_gathers_57 : decode cX7_gathers 57 = .ok (.aload_n 0, 1) := by decide +kernel
theorem dX7_gathers_58 : decode cX7_gathers 58 = .ok (.iload 4, 2) := by decide +kernel
theorem dX7_gathers_60 : decode cX7_gathers 60 = .ok (.aload_n 1, 1) := by decide +kernel
theorem dX7_gathers_61 : decode cX7_gathers 61 = .ok (.aload_n 0, 1) := by decide +kernel
theorem dX7_gathers_62 : decode cX7_gathers 62 = .ok (.iload 4, 2) := by decide +kernel
theorem dX7_gathers_64 : decode cX7_gathers 64 = .ok (.iconst 0, 1) := by decide +kernel
theorem dX7_gathers_65 : decode cX7_gathers 65 = .ok (.invokevirtual 58, 3) := by decide +kernel
theorem dX7_gathers_68 : decode cX7_gathers 68 = .ok (.iaload, 1) := by decide +kernel
theorem dX7_gathers_69 : decode cX7_gathers 69 = .ok (.aload_n 1, 1) := by decide +kernel
theorem dX7_gathers_70 : decode cX7_gathers 70 = .ok (.bipush 10, 2) := by decide +kernel
theorem dX7_gathers_72 : decode cX7_gathers 72 = .ok (.aload_n 0, 1) := by decide +kernel
theorem dX7_gathers_73 : decode cX7_gathers 73 = .ok (.iload 4, 2) := by decide +kernel
theorem dX7_gathers_75 : decode cX7_gathers 75 = .ok (.iconst 0, 1) := by decide +kernel
theorem dX7_gathers_76 : decode cX7_gathers 76 = .ok (.invokevirtual 58, 3) := by decide +kernel
theorem dX7_gathers_79 : decode cX7_gathers 79 = .ok (.iadd, 1) := by decide +kernel
theorem dX7_gathers_80 : decode cX7_gathers 80 = .ok (.iaload, 1) := by decide +kernel
theorem dX7_gathers_81 : decode cX7_gathers 81 = .ok (.invokevirtual 85, 3) := by decide +kernel
theorem dX7_gathers_84 : decode cX7_gathers 84 = .ok (.aload_n 0, 1) := by decide +kernel
theorem dX7_gathers_85 : decode cX7_gathers 85 = .ok (.aload_n 0, 1) := by decide +kernel
theorem dX7_gathers_86 : decode cX7_gathers 86 = .ok (.aload_n 0, 1) := by decide +kernel
theorem dX7_gathers_87 : decode cX7_gathers 87 = .ok (.getfield 79, 3) := by decide +kernel
theorem dX7_gathers_90 : decode cX7_gathers 90 = .ok (.aload_n 0, 1) := by decide +kernel
theorem dX7_gathers_91 : decode cX7_gathers 91 = .ok (.getfield 72, 3) := by decide +kernel
theorem dX7_gathers_94 : decode cX7_gathers 94 = .ok (.invokevirtual 46, 3) := by decide +kernel
theorem dX7_gathers_97 : decode cX7_gathers 97 = .ok (.putfield 79, 3) := by decide +kernel
theorem dX7_gathers_100 : decode cX7_gathers 100 = .ok (.aload_n 0, 1) := by decide +kernel
theorem dX7_gathers_101 : decode cX7_gathers 101 = .ok (.dup, 1) := by decide +kernel
theorem dX7_gathers_102 : decode cX7_gathers 102 = .ok (.getfield 82, 3) := by decide +kernel
theorem dX7_gathers_105 : decode cX7_gathers 105 = .ok (.aload_n 0, 1) := by decide +kernel
theorem dX7_gathers_106 : decode cX7_gathers 106 = .ok (.getfield 76, 3) := by decide +kernel
theorem dX7_gathers_109 : decode cX7_gathers 109 = .ok (.ior, 1) := by decide +kernel
theorem dX7_gathers_110 : decode cX7_gathers 110 = .ok (.putfield 82, 3) := by decide +kernel
theorem dX7_gathers_113 : decode cX7_gathers 113 = .ok (.iinc 4 1, 3) := by decide +kernel
theorem dX7_gathers_116 : decode cX7_gathers 116 = .ok (.goto (-87), 3) := by decide +kernel
theorem dX7_gathers_119 : decode cX7_gathers 119 = .ok (.return_, 1) := by decide +kernel
theorem dX7_waits_0 : decode cX7_waits 0 = .ok (.iconst 0, 1) := by decide +kernel
theorem dX7_waits_1 : decode cX7_waits 1 = .ok (.istore_n 2, 1) := by decide +kernel
theorem dX7_waits_2 : decode cX7_waits 2 = .ok (.iload_n 2, 1) := by decide +kernel
theorem dX7_waits_3 : decode cX7_waits 3 = .ok (.aload_n 0, 1) := by decide +kernel
theorem dX7_waits_4 : decode cX7_waits 4 = .ok (.getfield 88, 3) := by decide +kernel
theorem dX7_waits_7 : decode cX7_waits 7 = .ok (.if_icmp .ge 21, 3) := by decide +kernel
theorem dX7_waits_10 : decode cX7_waits 10 = .ok (.aload_n 0, 1) := by decide +kernel
theorem dX7_waits_11 : decode cX7_waits 11 = .ok (.getfield 35, 3) := by decide +kernel
theorem dX7_waits_14 : decode cX7_waits 14 = .ok (.iload_n 2, 1) := by decide +kernel
theorem dX7_waits_15 : decode cX7_waits 15 = .ok (.iaload, 1) := by decide +kernel
theorem dX7_waits_16 : decode cX7_waits 16 = .ok (.iload_n 1, 1) := by decide +kernel
theorem dX7_waits_17 : decode cX7_waits 17 = .ok (.if_icmp .ne 5, 3) := by decide +kernel
theorem dX7_waits_20 : decode cX7_waits 20 = .ok (.iconst 1, 1) := by decide +kernel
theorem dX7_waits_21 : decode cX7_waits 21 = .ok (.ireturn, 1) := by decide +kernel
theorem dX7_waits_22 : decode cX7_waits 22 = .ok (.iinc 2 1, 3) := by decide +kernel
theorem dX7_waits_25 : decode cX7_waits 25 = .ok (.goto (-23), 3) := by decide +kernel
theorem dX7_waits_28 : decode cX7_waits 28 = .ok (.iconst 0, 1) := by decide +kernel
theorem dX7_waits_29 : decode cX7_waits 29 = .ok (.ireturn, 1) := by decide +kernel
theorem dX7_taken_0 : decode cX7_taken 0 = .ok (.iload_n 1, 1) := by decide +kernel
theorem dX7_taken_1 : decode cX7_taken 1 = .ok (.iconst 2, 1) := by decide +kernel
theorem dX7_taken_2 : decode cX7_taken 2 = .ok (.if_icmp .ne 12, 3) := by decide +kernel
theorem dX7_taken_5 : decode cX7_taken 5 = .ok (.aload_n 0, 1) := by decide +kernel
theorem dX7_taken_6 : decode cX7_taken 6 = .ok (.getfield 88, 3) := by decide +kernel
theorem dX7_taken_9 : decode cX7_taken 9 = .ok (.iconst 1, 1) := by decide +kernel
theorem dX7_taken_10 : decode cX7_taken 10 = .ok (.isub, 1) := by decide +kernel
theorem dX7_taken_11 : decode cX7_taken 11 = .ok (.goto 4, 3) := by decide +kernel
theorem dX7_taken_14 : decode cX7_taken 14 = .ok (.iconst 0, 1) := by decide +kernel
theorem dX7_taken_15 : decode cX7_taken 15 = .ok (.istore_n 2, 1) := by decide +kernel
theorem dX7_taken_16 : decode cX7_taken 16 = .ok (.iconst 0, 1) := by decide +kernel
theorem dX7_taken_17 : decode cX7_taken 17 = .ok (.istore_n 3, 1) := by decide +kernel
theorem dX7_taken_18 : decode cX7_taken 18 = .ok (.iload_n 3, 1) := by decide +kernel
theorem dX7_taken_19 : decode cX7_taken 19 = .ok (.aload_n 0, 1) := by decide +kernel
theorem dX7_taken_20 : decode cX7_taken 20 = .ok (.getfield 88, 3) := by decide +kernel
theorem dX7_taken_23 : decode cX7_taken 23 = .ok (.if_icmp .ge 34, 3) := by decide +kernel
theorem dX7_taken_26 : decode cX7_taken 26 = .ok (.iload_n 1, 1) := by decide +kernel
theorem dX7_taken_27 : decode cX7_taken 27 = .ok (.ifCond .ne 30, 3) := by decide +kernel
theorem dX7_taken_30 : decode cX7_taken 30 = .ok (.aload_n 0, 1) := by decide +kernel
theorem dX7_taken_31 : decode cX7_taken 31 = .ok (.getfield 35, 3) := by decide +kernel
theorem dX7_taken_34 : decode cX7_taken 34 = .ok (.iload_n 3, 1) := by decide +kernel
theorem dX7_taken_35 : decode cX7_taken 35 = .ok (.iaload, 1) := by decide +kernel
theorem dX7_taken_36 : decode cX7_taken 36 = .ok (.aload_n 0, 1) := by decide +kernel
theorem dX7_taken_37 : decode cX7_taken 37 = .ok (.getfield 35, 3) := by decide +kernel
theorem dX7_taken_40 : decode cX7_taken 40 = .ok (.iload_n 2, 1) := by decide +kernel
theorem dX7_taken_41 : decode cX7_taken 41 = .ok (.iaload, 1) := by decide +kernel
theorem dX7_taken_42 : decode cX7_taken 42 = .ok (.if_icmp .ge 7, 3) := by decide +kernel
theorem dX7_taken_45 : decode cX7_taken 45 = .ok (.iload_n 3, 1) := by decide +kernel
theorem dX7_taken_46 : decode cX7_taken 46 = .ok (.goto 4, 3) := by decide +kernel
theorem dX7_taken_49 : decode cX7_taken 49 = .ok (.iload_n 2, 1) := by decide +kernel
theorem dX7_taken_50 : decode cX7_taken 50 = .ok (.istore_n 2, 1) := by decide +kernel
theorem dX7_taken_51 : decode cX7_taken 51 = .ok (.iinc 3 1, 3) := by decide +kernel
theorem dX7_taken_54 : decode cX7_taken 54 = .ok (.goto (-36), 3) := by decide +kernel
theorem dX7_taken_57 : decode cX7_taken 57 = .ok (.aload_n 0, 1) := by decide +kernel
theorem dX7_taken_58 : decode cX7_taken 58 = .ok (.getfield 35, 3) := by decide +kernel
theorem dX7_taken_61 : decode cX7_taken 61 = .ok (.iload_n 2, 1) := by decide +kernel
theorem dX7_taken_62 : decode cX7_taken 62 = .ok (.iaload, 1) := by decide +kernel
theorem dX7_taken_63 : decode cX7_taken 63 = .ok (.istore_n 3, 1) := by decide +kernel
theorem dX7_taken_64 : decode cX7_taken 64 = .ok (.aload_n 0, 1) := by decide +kernel
theorem dX7_taken_65 : decode cX7_taken 65 = .ok (.dup, 1) := by decide +kernel
theorem dX7_taken_66 : decode cX7_taken 66 = .ok (.getfield 88, 3) := by decide +kernel
theorem dX7_taken_69 : decode cX7_taken 69 = .ok (.iconst 1, 1) := by decide +kernel
theorem dX7_taken_70 : decode cX7_taken 70 = .ok (.isub, 1) := by decide +kernel
theorem dX7_taken_71 : decode cX7_taken 71 = .ok (.putfield 88, 3) := by decide +kernel
theorem dX7_taken_74 : decode cX7_taken 74 = .ok (.iload_n 2, 1) := by decide +kernel
theorem dX7_taken_75 : decode cX7_taken 75 = .ok (.istore 4, 2) := by decide +kernel
theorem dX7_taken_77 : decode cX7_taken 77 = .ok (.iload 4, 2) := by decide +kernel
theorem dX7_taken_79 : decode cX7_taken 79 = .ok (.aload_n 0, 1) := by decide +kernel
theorem dX7_taken_80 : decode cX7_taken 80 = .ok (.getfield 88, 3) := by decide +kernel
theorem dX7_taken_83 : decode cX7_taken 83 = .ok (.if_icmp .ge 25, 3) := by decide +kernel
theorem dX7_taken_86 : decode cX7_taken 86 = .ok (.aload_n 0, 1) := by decide +kernel
theorem dX7_taken_87 : decode cX7_taken 87 = .ok (.getfield 35, 3) := by decide +kernel
theorem dX7_taken_90 : decode cX7_taken 90 = .ok (.iload 4, 2) := by decide +kernel
theorem dX7_taken_92 : decode cX7_taken 92 = .ok (.aload_n 0, 1) := by decide +kernel
theorem dX7_taken_93 : decode cX7_taken 93 = .ok (.getfield 35, 3) := by decide +kernel
theorem dX7_taken_96 : decode cX7_taken 96 = .ok (.iload 4, 2) := by decide +kernel
theorem dX7_taken_98 : decode cX7_taken 98 = .ok (.iconst 1, 1) := by decide +kernel
theorem dX7_taken_99 : decode cX7_taken 99 = .ok (.iadd, 1) := by decide +kernel
theorem dX7_taken_100 : decode cX7_taken 100 = .ok (.iaload, 1) := by decide +kernel
theorem dX7_taken_101 : decode cX7_taken 101 = .ok (.iastore, 1) := by decide +kernel
theorem dX7_taken_102 : decode cX7_taken 102 = .ok (.iinc 4 1, 3) := by decide +kernel
theorem dX7_taken_105 : decode cX7_taken 105 = .ok (.goto (-28), 3) := by decide +kernel
theorem dX7_taken_108 : decode cX7_taken 108 = .ok (.iload_n 3, 1) := by decide +kernel
theorem dX7_taken_109 : decode cX7_taken 109 = .ok (.ireturn, 1) := by decide +kernel
theorem dX7_works_0 : decode cX7_works 0 = .ok (.iconst 0, 1) := by decide +kernel
theorem dX7_works_1 : decode cX7_works 1 = .ok (.istore 4, 2) := by decide +kernel
theorem dX7_works_3 : decode cX7_works 3 = .ok (.iload 4, 2) := by decide +kernel
theorem dX7_works_5 : decode cX7_works 5 = .ok (.bipush 20, 2) := by decide +kernel
theorem dX7_works_7 : decode cX7_works 7 = .ok (.if_icmp .ge 14, 3) := by decide +kernel
theorem dX7_works_10 : decode cX7_works 10 = .ok (.aload_n 1, 1) := by decide +kernel
theorem dX7_works_11 : decode cX7_works 11 = .ok (.iload 4, 2) := by decide +kernel
theorem dX7_works_13 : decode cX7_works 13 = .ok (.iconst 0, 1) := by decide +kernel
theorem dX7_works_14 : decode cX7_works 14 = .ok (.iastore, 1) := by decide +kernel
theorem dX7_works_15 : decode cX7_works 15 = .ok (.iinc 4 1, 3) := by decide +kernel
theorem dX7_works_18 : decode cX7_works 18 = .ok (.goto (-15), 3) := by decide +kernel
theorem dX7_works_21 : decode cX7_works 21 = .ok (.aload_n 0, 1) := by decide +kernel
theorem dX7_works_22 : decode cX7_works 22 = .ok (.aload_n 0, 1) := by decide +kernel
theorem dX7_works_23 : decode cX7_works 23 = .ok (.getfield 7, 3) := by decide +kernel
theorem dX7_works_26 : decode cX7_works 26 = .ok (.iconst 1, 1) := by decide +kernel
theorem dX7_works_27 : decode cX7_works 27 = .ok (.iaload, 1) := by decide +kernel
theorem dX7_works_28 : decode cX7_works 28 = .ok (.putfield 88, 3) := by decide +kernel
theorem dX7_works_31 : decode cX7_works 31 = .ok (.iconst 0, 1) := by decide +kernel
theorem dX7_works_32 : decode cX7_works 32 = .ok (.istore 4, 2) := by decide +kernel
theorem dX7_works_34 : decode cX7_works 34 = .ok (.iload 4, 2) := by decide +kernel
theorem dX7_works_36 : decode cX7_works 36 = .ok (.aload_n 0, 1) := by decide +kernel
theorem dX7_works_37 : decode cX7_works 37 = .ok (.getfield 88, 3) := by decide +kernel
theorem dX7_works_40 : decode cX7_works 40 = .ok (.if_icmp .ge 18, 3) := by decide +kernel
theorem dX7_works_43 : decode cX7_works 43 = .ok (.aload_n 0, 1) := by decide +kernel
theorem dX7_works_44 : decode cX7_works 44 = .ok (.getfield 35, 3) := by decide +kernel
theorem dX7_works_47 : decode cX7_works 47 = .ok (.iload 4, 2) := by decide +kernel
theorem dX7_works_49 : decode cX7_works 49 = .ok (.iload 4, 2) := by decide +kernel
theorem dX7_works_51 : decode cX7_works 51 = .ok (.iastore, 1) := by decide +kernel
theorem dX7_works_52 : decode cX7_works 52 = .ok (.iinc 4 1, 3) := by decide +kernel
theorem dX7_works_55 : decode cX7_works 55 = .ok (.goto (-21), 3) := by decide +kernel
theorem dX7_works_58 : decode cX7_works 58 = .ok (.iconst 0, 1) := by decide +kernel
theorem dX7_works_59 : decode cX7_works 59 = .ok (.istore 4, 2) := by decide +kernel
theorem dX7_works_61 : decode cX7_works 61 = .ok (.aload_n 0, 1) := by decide +kernel
theorem dX7_works_62 : decode cX7_works 62 = .ok (.getfield 88, 3) := by decide +kernel
theorem dX7_works_65 : decode cX7_works 65 = .ok (.ifCond .le 154, 3) := by decide +kernel
theorem dX7_works_68 : decode cX7_works 68 = .ok (.iload 4, 2) := by decide +kernel
theorem dX7_works_70 : decode cX7_works 70 = .ok (.sipush 2000, 3) := by decide +kernel
theorem dX7_works_73 : decode cX7_works 73 = .ok (.if_icmp .ge 146, 3) := by decide +kernel
theorem dX7_works_76 : decode cX7_works 76 = .ok (.aload_n 0, 1) := by decide +kernel
theorem dX7_works_77 : decode cX7_works 77 = .ok (.iload_n 2, 1) := by decide +kernel
theorem dX7_works_78 : decode cX7_works 78 = .ok (.invokevirtual 91, 3) := by decide +kernel
theorem dX7_works_81 : decode cX7_works 81 = .ok (.istore 5, 2) := by decide +kernel
theorem dX7_works_83 : decode cX7_works 83 = .ok (.iinc 4 1, 3) := by decide +kernel
theorem dX7_works_86 : decode cX7_works 86 = .ok (.aload_n 0, 1) := by decide +kernel
theorem dX7_works_87 : decode cX7_works 87 = .ok (.aload_n 1, 1) := by decide +kernel
theorem dX7_works_88 : decode cX7_works 88 = .ok (.iload 5, 2) := by decide +kernel
theorem dX7_works_90 : decode cX7_works 90 = .ok (.iload_n 3, 1) := by decide +kernel
theorem dX7_works_91 : decode cX7_works 91 = .ok (.invokevirtual 95, 3) := by decide +kernel
theorem dX7_works_94 : decode cX7_works 94 = .ok (.aload_n 0, 1) := by decide +kernel
theorem dX7_works_95 : decode cX7_works 95 = .ok (.getfield 79, 3) := by decide +kernel
theorem dX7_works_98 : decode cX7_works 98 = .ok (.aload_n 1, 1) := by decide +kernel
theorem dX7_works_99 : decode cX7_works 99 = .ok (.iload 5, 2) := by decide +kernel
theorem dX7_works_101 : decode cX7_works 101 = .ok (.iaload, 1) := by decide +kernel
theorem dX7_works_102 : decode cX7_works 102 = .ok (.if_icmp .ne 17, 3) := by decide +kernel
theorem dX7_works_105 : decode cX7_works 105 = .ok (.aload_n 0, 1) := by decide +kernel
theorem dX7_works_106 : decode cX7_works 106 = .ok (.getfield 82, 3) := by decide +kernel
theorem dX7_works_109 : decode cX7_works 109 = .ok (.aload_n 1, 1) := by decide +kernel
theorem dX7_works_110 : decode cX7_works 110 = .ok (.bipush 10, 2) := by decide +kernel
theorem dX7_works_112 : decode cX7_works 112 = .ok (.iload 5, 2) := by decide +kernel
theorem dX7_works_114 : decode cX7_works 114 = .ok (.iadd, 1) := by decide +kernel
theorem dX7_works_115 : decode cX7_works 115 = .ok (.iaload, 1) := by decide +kernel
theorem dX7_works_116 : decode cX7_works 116 = .ok (.if_icmp .eq 100, 3) := by decide +kernel
theorem dX7_works_119 : decode cX7_works 119 = .ok (.aload_n 1, 1) := by decide +kernel
theorem dX7_works_120 : decode cX7_works 120 = .ok (.iload 5, 2) := by decide +kernel
theorem dX7_works_122 : decode cX7_works 122 = .ok (.aload_n 0, 1) := by decide +kernel
theorem dX7_works_123 : decode cX7_works 123 = .ok (.getfield 79, 3) := by decide +kernel
theorem dX7_works_126 : decode cX7_works 126 = .ok (.iastore, 1) := by decide +kernel
theorem dX7_works_127 : decode cX7_works 127 = .ok (.aload_n 1, 1) := by decide +kernel
theorem dX7_works_128 : decode cX7_works 128 = .ok (.bipush 10, 2) := by decide +kernel
theorem dX7_works_130 : decode cX7_works 130 = .ok (.iload 5, 2) := by decide +kernel
theorem dX7_works_132 : decode cX7_works 132 = .ok (.iadd, 1) := by decide +kernel
theorem dX7_works_133 : decode cX7_works 133 = .ok (.aload_n 0, 1) := by decide +kernel
theorem dX7_works_134 : decode cX7_works 134 = .ok (.getfield 82, 3) := by decide +kernel
theorem dX7_works_137 : decode cX7_works 137 = .ok (.iastore, 1) := by decide +kernel
theorem dX7_works_138 : decode cX7_works 138 = .ok (.iconst 0, 1) := by decide +kernel
theorem dX7_works_139 : decode cX7_works 139 = .ok (.istore 6, 2) := by decide +kernel
theorem dX7_works_141 : decode cX7_works 141 = .ok (.iload 6, 2) := by decide +kernel
theorem dX7_works_143 : decode cX7_works 143 = .ok (.aload_n 0, 1) := by decide +kernel
theorem dX7_works_144 : decode cX7_works 144 = .ok (.getfield 7, 3) := by decide +kernel
theorem dX7_works_147 : decode cX7_works 147 = .ok (.iconst 2, 1) := by decide +kernel
theorem dX7_works_148 : decode cX7_works 148 = .ok (.iaload, 1) := by decide +kernel
theorem dX7_works_149 : decode cX7_works 149 = .ok (.if_icmp .ge 67, 3) := by decide +kernel
theorem dX7_works_152 : decode cX7_works 152 = .ok (.iload 6, 2) := by decide +kernel
theorem dX7_works_154 : decode cX7_works 154 = .ok (.iload_n 3, 1) := by decide +kernel
theorem dX7_works_155 : decode cX7_works 155 = .ok (.if_icmp .eq 55, 3) := by decide +kernel
theorem dX7_works_158 : decode cX7_works 158 = .ok (.aload_n 0, 1) := by decide +kernel
theorem dX7_works_159 : decode cX7_works 159 = .ok (.iload 6, 2) := by decide +kernel
theorem dX7_works_161 : decode cX7_works 161 = .ok (.iconst 0, 1) := by decide +kernel
theorem dX7_works_162 : decode cX7_works 162 = .ok (.invokevirtual 58, 3) := by decide +kernel
theorem dX7_works_165 : decode cX7_works 165 = .ok (.iload 5, 2) := by decide +kernel
theorem dX7_works_167 : decode cX7_works 167 = .ok (.if_icmp .ne 43, 3) := by decide +kernel
theorem dX7_works_170 : decode cX7_works 170 = .ok (.aload_n 0, 1) := by decide +kernel
theorem dX7_works_171 : decode cX7_works 171 = .ok (.aload_n 0, 1) := by decide +kernel
theorem dX7_works_172 : decode cX7_works 172 = .ok (.iload 6, 2) := by decide +kernel
theorem dX7_works_174 : decode cX7_works 174 = .ok (.iconst 1, 1) := by decide +kernel
theorem dX7_works_175 : decode cX7_works 175 = .ok (.invokevirtual 58, 3) := by decide +kernel
theorem dX7_works_178 : decode cX7_works 178 = .ok (.invokevirtual 99, 3) := by decide +kernel
theorem dX7_works_181 : decode cX7_works 181 = .ok (.ifCond .ne 29, 3) := by decide +kernel
theorem dX7_works_184 : decode cX7_works 184 = .ok (.aload_n 0, 1) := by decide +kernel
theorem dX7_works_185 : decode cX7_works 185 = .ok (.getfield 35, 3) := by decide +kernel
theorem dX7_works_188 : decode cX7_works 188 = .ok (.aload_n 0, 1) := by decide +kernel
theorem dX7_works_189 : decode cX7_works 189 = .ok (.getfield 88, 3) := by decide +kernel
theorem dX7_works_192 : decode cX7_works 192 = .ok (.aload_n 0, 1) := by decide +kernel
theorem dX7_works_193 : decode cX7_works 193 = .ok (.iload 6, 2) := by decide +kernel
theorem dX7_works_195 : decode cX7_works 195 = .ok (.iconst 1, 1) := by decide +kernel
theorem dX7_works_196 : decode cX7_works 196 = .ok (.invokevirtual 58, 3) := by decide +kernel
theorem dX7_works_199 : decode cX7_works 199 = .ok (.iastore, 1) := by decide +kernel
theorem dX7_works_200 : decode cX7_works 200 = .ok (.aload_n 0, 1) := by decide +kernel
theorem dX7_works_201 : decode cX7_works 201 = .ok (.dup, 1) := by decide +kernel
theorem dX7_works_202 : decode cX7_works 202 = .ok (.getfield 88, 3) := by decide +kernel
theorem dX7_works_205 : decode cX7_works 205 = .ok (.iconst 1, 1) := by decide +kernel
theorem dX7_works_206 : decode cX7_works 206 = .ok (.iadd, 1) := by decide +kernel
theorem dX7_works_207 : decode cX7_works 207 = .ok (.putfield 88, 3) := by decide +kernel
theorem dX7_works_210 : decode cX7_works 210 = .ok (.iinc 6 1, 3) := by decide +kernel
theorem dX7_works_213 : decode cX7_works 213 = .ok (.goto (-72), 3) := by decide +kernel
theorem dX7_works_216 : decode cX7_works 216 = .ok (.goto (-155), 3) := by decide +kernel
theorem dX7_works_219 : decode cX7_works 219 = .ok (.aload_n 0, 1) := by decide +kernel
theorem dX7_works_220 : decode cX7_works 220 = .ok (.getfield 88, 3) := by decide +kernel
theorem dX7_works_223 : decode cX7_works 223 = .ok (.ifCond .le 7, 3) := by decide +kernel
theorem dX7_works_226 : decode cX7_works 226 = .ok (.iconst (-1), 1) := by decide +kernel
theorem dX7_works_227 : decode cX7_works 227 = .ok (.goto 5, 3) := by decide +kernel
theorem dX7_works_230 : decode cX7_works 230 = .ok (.iload 4, 2) := by decide +kernel
theorem dX7_works_232 : decode cX7_works 232 = .ok (.ireturn, 1) := by decide +kernel
theorem dX7_without_0 : decode cX7_without 0 = .ok (.aload_n 0, 1) := by decide +kernel
theorem dX7_without_1 : decode cX7_without 1 = .ok (.aload_n 0, 1) := by decide +kernel
theorem dX7_without_2 : decode cX7_without 2 = .ok (.getfield 26, 3) := by decide +kernel
theorem dX7_without_5 : decode cX7_without 5 = .ok (.iconst 0, 1) := by decide +kernel
theorem dX7_without_6 : decode cX7_without 6 = .ok (.iconst (-1), 1) := by decide +kernel
theorem dX7_without_7 : decode cX7_without 7 = .ok (.invokevirtual 102, 3) := by decide +kernel
theorem dX7_without_10 : decode cX7_without 10 = .ok (.istore_n 2, 1) := by decide +kernel
theorem dX7_without_11 : decode cX7_without 11 = .ok (.aload_n 0, 1) := by decide +kernel
theorem dX7_without_12 : decode cX7_without 12 = .ok (.aload_n 0, 1) := by decide +kernel
theorem dX7_without_13 : decode cX7_without 13 = .ok (.getfield 29, 3) := by decide +kernel
theorem dX7_without_16 : decode cX7_without 16 = .ok (.iconst 0, 1) := by decide +kernel
theorem dX7_without_17 : decode cX7_without 17 = .ok (.iload_n 1, 1) := by decide +kernel
theorem dX7_without_18 : decode cX7_without 18 = .ok (.invokevirtual 102, 3) := by decide +kernel
theorem dX7_without_21 : decode cX7_without 21 = .ok (.istore_n 3, 1) := by decide +kernel
theorem dX7_without_22 : decode cX7_without 22 = .ok (.iconst 0, 1) := by decide +kernel
theorem dX7_without_23 : decode cX7_without 23 = .ok (.istore 4, 2) := by decide +kernel
theorem dX7_without_25 : decode cX7_without 25 = .ok (.iconst 0, 1) := by decide +kernel
theorem dX7_without_26 : decode cX7_without 26 = .ok (.istore 5, 2) := by decide +kernel
theorem dX7_without_28 : decode cX7_without 28 = .ok (.iload 5, 2) := by decide +kernel
theorem dX7_without_30 : decode cX7_without 30 = .ok (.aload_n 0, 1) := by decide +kernel
theorem dX7_without_31 : decode cX7_without 31 = .ok (.getfield 7, 3) := by decide +kernel
theorem dX7_without_34 : decode cX7_without 34 = .ok (.iconst 1, 1) := by decide +kernel
theorem dX7_without_35 : decode cX7_without 35 = .ok (.iaload, 1) := by decide +kernel
theorem dX7_without_36 : decode cX7_without 36 = .ok (.if_icmp .ge 59, 3) := by decide +kernel
theorem dX7_without_39 : decode cX7_without 39 = .ok (.iload 4, 2) := by decide +kernel
theorem dX7_without_41 : decode cX7_without 41 = .ok (.aload_n 0, 1) := by decide +kernel
theorem dX7_without_42 : decode cX7_without 42 = .ok (.getfield 26, 3) := by decide +kernel
theorem dX7_without_45 : decode cX7_without 45 = .ok (.iload 5, 2) := by decide +kernel
theorem dX7_without_47 : decode cX7_without 47 = .ok (.iaload, 1) := by decide +kernel
theorem dX7_without_48 : decode cX7_without 48 = .ok (.aload_n 0, 1) := by decide +kernel
theorem dX7_without_49 : decode cX7_without 49 = .ok (.getfield 29, 3) := by decide +kernel
theorem dX7_without_52 : decode cX7_without 52 = .ok (.iload 5, 2) := by decide +kernel
theorem dX7_without_54 : decode cX7_without 54 = .ok (.iaload, 1) := by decide +kernel
theorem dX7_without_55 : decode cX7_without 55 = .ok (.if_icmp .ne 26, 3) := by decide +kernel
theorem dX7_without_58 : decode cX7_without 58 = .ok (.aload_n 0, 1) := by decide +kernel
theorem dX7_without_59 : decode cX7_without 59 = .ok (.getfield 26, 3) := by decide +kernel
theorem dX7_without_62 : decode cX7_without 62 = .ok (.bipush 10, 2) := by decide +kernel
theorem dX7_without_64 : decode cX7_without 64 = .ok (.iload 5, 2) := by decide +kernel
theorem dX7_without_66 : decode cX7_without 66 = .ok (.iadd, 1) := by decide +kernel
theorem dX7_without_67 : decode cX7_without 67 = .ok (.iaload, 1) := by decide +kernel
theorem dX7_without_68 : decode cX7_without 68 = .ok (.aload_n 0, 1) := by decide +kernel
theorem dX7_without_69 : decode cX7_without 69 = .ok (.getfield 29, 3) := by decide +kernel
theorem dX7_without_72 : decode cX7_without 72 = .ok (.bipush 10, 2) := by decide +kernel
theorem dX7_without_74 : decode cX7_without 74 = .ok (.iload 5, 2) := by decide +kernel
theorem dX7_without_76 : decode cX7_without 76 = .ok (.iadd, 1) := by decide +kernel
theorem dX7_without_77 : decode cX7_without 77 = .ok (.iaload, 1) := by decide +kernel
theorem dX7_without_78 : decode cX7_without 78 = .ok (.if_icmp .eq 7, 3) := by decide +kernel
theorem dX7_without_81 : decode cX7_without 81 = .ok (.iconst 1, 1) := by decide +kernel
theorem dX7_without_82 : decode cX7_without 82 = .ok (.goto 4, 3) := by decide +kernel
theorem dX7_without_85 : decode cX7_without 85 = .ok (.iconst 0, 1) := by decide +kernel
theorem dX7_without_86 : decode cX7_without 86 = .ok (.iadd, 1) := by decide +kernel
theorem dX7_without_87 : decode cX7_without 87 = .ok (.istore 4, 2) := by decide +kernel
theorem dX7_without_89 : decode cX7_without 89 = .ok (.iinc 5 1, 3) := by decide +kernel
theorem dX7_without_92 : decode cX7_without 92 = .ok (.goto (-64), 3) := by decide +kernel
theorem dX7_without_95 : decode cX7_without 95 = .ok (.iload_n 2, 1) := by decide +kernel
theorem dX7_without_96 : decode cX7_without 96 = .ok (.ifCond .lt 7, 3) := by decide +kernel
theorem dX7_without_99 : decode cX7_without 99 = .ok (.iload_n 3, 1) := by decide +kernel
theorem dX7_without_100 : decode cX7_without 100 = .ok (.ifCond .ge 7, 3) := by decide +kernel
theorem dX7_without_103 : decode cX7_without 103 = .ok (.iconst (-1), 1) := by decide +kernel
theorem dX7_without_104 : decode cX7_without 104 = .ok (.goto 5, 3) := by decide +kernel
theorem dX7_without_107 : decode cX7_without 107 = .ok (.iload 4, 2) := by decide +kernel
theorem dX7_without_109 : decode cX7_without 109 = .ok (.ireturn, 1) := by decide +kernel
theorem dX7_matters_0 : decode cX7_matters 0 = .ok (.iconst 0, 1) := by decide +kernel
theorem dX7_matters_1 : decode cX7_matters 1 = .ok (.istore_n 1, 1) := by decide +kernel
theorem dX7_matters_2 : decode cX7_matters 2 = .ok (.iconst 0, 1) := by decide +kernel
theorem dX7_matters_3 : decode cX7_matters 3 = .ok (.istore_n 2, 1) := by decide +kernel
theorem dX7_matters_4 : decode cX7_matters 4 = .ok (.iload_n 2, 1) := by decide +kernel
theorem dX7_matters_5 : decode cX7_matters 5 = .ok (.aload_n 0, 1) := by decide +kernel
theorem dX7_matters_6 : decode cX7_matters 6 = .ok (.getfield 7, 3) := by decide +kernel
theorem dX7_matters_9 : decode cX7_matters 9 = .ok (.iconst 2, 1) := by decide +kernel
theorem dX7_matters_10 : decode cX7_matters 10 = .ok (.iaload, 1) := by decide +kernel
theorem dX7_matters_11 : decode cX7_matters 11 = .ok (.if_icmp .ge 27, 3) := by decide +kernel
theorem dX7_matters_14 : decode cX7_matters 14 = .ok (.iload_n 1, 1) := by decide +kernel
theorem dX7_matters_15 : decode cX7_matters 15 = .ok (.aload_n 0, 1) := by decide +kernel
theorem dX7_matters_16 : decode cX7_matters 16 = .ok (.iload_n 2, 1) := by decide +kernel
theorem dX7_matters_17 : decode cX7_matters 17 = .ok (.invokevirtual 106, 3) := by decide +kernel
theorem dX7_matters_20 : decode cX7_matters 20 = .ok (.ifCond .le 9, 3) := by decide +kernel
theorem dX7_matters_23 : decode cX7_matters 23 = .ok (.iconst 1, 1) := by decide +kernel
theorem dX7_matters_24 : decode cX7_matters 24 = .ok (.iload_n 2, 1) := by decide +kernel
theorem dX7_matters_25 : decode cX7_matters 25 = .ok (.ishl, 1) := by decide +kernel
theorem dX7_matters_26 : decode cX7_matters 26 = .ok (.goto 4, 3) := by decide +kernel
theorem dX7_matters_29 : decode cX7_matters 29 = .ok (.iconst 0, 1) := by decide +kernel
theorem dX7_matters_30 : decode cX7_matters 30 = .ok (.ior, 1) := by decide +kernel
theorem dX7_matters_31 : decode cX7_matters 31 = .ok (.istore_n 1, 1) := by decide +kernel
theorem dX7_matters_32 : decode cX7_matters 32 = .ok (.iinc 2 1, 3) := by decide +kernel
theorem dX7_matters_35 : decode cX7_matters 35 = .ok (.goto (-31), 3) := by decide +kernel
theorem dX7_matters_38 : decode cX7_matters 38 = .ok (.iload_n 1, 1) := by decide +kernel
theorem dX7_matters_39 : decode cX7_matters 39 = .ok (.ireturn, 1) := by decide +kernel
theorem dX7_isKept_0 : decode cX7_isKept 0 = .ok (.iconst 0, 1) := by decide +kernel
theorem dX7_isKept_1 : decode cX7_isKept 1 = .ok (.istore_n 2, 1) := by decide +kernel
theorem dX7_isKept_2 : decode cX7_isKept 2 = .ok (.iload_n 2, 1) := by decide +kernel
theorem dX7_isKept_3 : decode cX7_isKept 3 = .ok (.aload_n 0, 1) := by decide +kernel
theorem dX7_isKept_4 : decode cX7_isKept 4 = .ok (.getfield 7, 3) := by decide +kernel
theorem dX7_isKept_7 : decode cX7_isKept 7 = .ok (.iconst 2, 1) := by decide +kernel
theorem dX7_isKept_8 : decode cX7_isKept 8 = .ok (.iaload, 1) := by decide +kernel
theorem dX7_isKept_9 : decode cX7_isKept 9 = .ok (.if_icmp .ge 31, 3) := by decide +kernel
theorem dX7_isKept_12 : decode cX7_isKept 12 = .ok (.aload_n 0, 1) := by decide +kernel
theorem dX7_isKept_13 : decode cX7_isKept 13 = .ok (.iload_n 2, 1) := by decide +kernel
theorem dX7_isKept_14 : decode cX7_isKept 14 = .ok (.iconst 1, 1) := by decide +kernel
theorem dX7_isKept_15 : decode cX7_isKept 15 = .ok (.invokevirtual 58, 3) := by decide +kernel
theorem dX7_isKept_18 : decode cX7_isKept 18 = .ok (.iload_n 1, 1) := by decide +kernel
theorem dX7_isKept_19 : decode cX7_isKept 19 = .ok (.if_icmp .ne 15, 3) := by decide +kernel
theorem dX7_isKept_22 : decode cX7_isKept 22 = .ok (.aload_n 0, 1) := by decide +kernel
theorem dX7_isKept_23 : decode cX7_isKept 23 = .ok (.iload_n 2, 1) := by decide +kernel
theorem dX7_isKept_24 : decode cX7_isKept 24 = .ok (.iconst 0, 1) := by decide +kernel
theorem dX7_isKept_25 : decode cX7_isKept 25 = .ok (.invokevirtual 58, 3) := by decide +kernel
theorem dX7_isKept_28 : decode cX7_isKept 28 = .ok (.iload_n 1, 1) := by decide +kernel
theorem dX7_isKept_29 : decode cX7_isKept 29 = .ok (.if_icmp .lt 5, 3) := by decide +kernel
theorem dX7_isKept_32 : decode cX7_isKept 32 = .ok (.iconst 1, 1) := by decide +kernel
theorem dX7_isKept_33 : decode cX7_isKept 33 = .ok (.ireturn, 1) := by decide +kernel
theorem dX7_isKept_34 : decode cX7_isKept 34 = .ok (.iinc 2 1, 3) := by decide +kernel
theorem dX7_isKept_37 : decode cX7_isKept 37 = .ok (.goto (-35), 3) := by decide +kernel
theorem dX7_isKept_40 : decode cX7_isKept 40 = .ok (.iconst 0, 1) := by decide +kernel
theorem dX7_isKept_41 : decode cX7_isKept 41 = .ok (.ireturn, 1) := by decide +kernel
theorem dX7_kept_0 : decode cX7_kept 0 = .ok (.iconst 0, 1) := by decide +kernel
theorem dX7_kept_1 : decode cX7_kept 1 = .ok (.istore_n 1, 1) := by decide +kernel
theorem dX7_kept_2 : decode cX7_kept 2 = .ok (.iconst 0, 1) := by decide +kernel
theorem dX7_kept_3 : decode cX7_kept 3 = .ok (.istore_n 2, 1) := by decide +kernel
theorem dX7_kept_4 : decode cX7_kept 4 = .ok (.iload_n 2, 1) := by decide +kernel
theorem dX7_kept_5 : decode cX7_kept 5 = .ok (.aload_n 0, 1) := by decide +kernel
theorem dX7_kept_6 : decode cX7_kept 6 = .ok (.getfield 7, 3) := by decide +kernel
theorem dX7_kept_9 : decode cX7_kept 9 = .ok (.iconst 1, 1) := by decide +kernel
theorem dX7_kept_10 : decode cX7_kept 10 = .ok (.iaload, 1) := by decide +kernel
theorem dX7_kept_11 : decode cX7_kept 11 = .ok (.if_icmp .ge 27, 3) := by decide +kernel
theorem dX7_kept_14 : decode cX7_kept 14 = .ok (.iload_n 1, 1) := by decide +kernel
theorem dX7_kept_15 : decode cX7_kept 15 = .ok (.aload_n 0, 1) := by decide +kernel
theorem dX7_kept_16 : decode cX7_kept 16 = .ok (.iload_n 2, 1) := by decide +kernel
theorem dX7_kept_17 : decode cX7_kept 17 = .ok (.invokevirtual 109, 3) := by decide +kernel
theorem dX7_kept_20 : decode cX7_kept 20 = .ok (.ifCond .eq 9, 3) := by decide +kernel
theorem dX7_kept_23 : decode cX7_kept 23 = .ok (.iconst 1, 1) := by decide +kernel
theorem dX7_kept_24 : decode cX7_kept 24 = .ok (.iload_n 2, 1) := by decide +kernel
theorem dX7_kept_25 : decode cX7_kept 25 = .ok (.ishl, 1) := by decide +kernel
theorem dX7_kept_26 : decode cX7_kept 26 = .ok (.goto 4, 3) := by decide +kernel
theorem dX7_kept_29 : decode cX7_kept 29 = .ok (.iconst 0, 1) := by decide +kernel
theorem dX7_kept_30 : decode cX7_kept 30 = .ok (.ior, 1) := by decide +kernel
theorem dX7_kept_31 : decode cX7_kept 31 = .ok (.istore_n 1, 1) := by decide +kernel
theorem dX7_kept_32 : decode cX7_kept 32 = .ok (.iinc 2 1, 3) := by decide +kernel
theorem dX7_kept_35 : decode cX7_kept 35 = .ok (.goto (-31), 3) := by decide +kernel
theorem dX7_kept_38 : decode cX7_kept 38 = .ok (.iload_n 1, 1) := by decide +kernel
theorem dX7_kept_39 : decode cX7_kept 39 = .ok (.ireturn, 1) := by decide +kernel
theorem dX7_rebuilds_0 : decode cX7_rebuilds 0 = .ok (.iconst 0, 1) := by decide +kernel
theorem dX7_rebuilds_1 : decode cX7_rebuilds 1 = .ok (.istore_n 1, 1) := by decide +kernel
theorem dX7_rebuilds_2 : decode cX7_rebuilds 2 = .ok (.iload_n 1, 1) := by decide +kernel
theorem dX7_rebuilds_3 : decode cX7_rebuilds 3 = .ok (.aload_n 0, 1) := by decide +kernel
theorem dX7_rebuilds_4 : decode cX7_rebuilds 4 = .ok (.getfield 7, 3) := by decide +kernel
theorem dX7_rebuilds_7 : decode cX7_rebuilds 7 = .ok (.iconst 1, 1) := by decide +kernel
theorem dX7_rebuilds_8 : decode cX7_rebuilds 8 = .ok (.iaload, 1) := by decide +kernel
theorem dX7_rebuilds_9 : decode cX7_rebuilds 9 = .ok (.if_icmp .ge 80, 3) := by decide +kernel
theorem dX7_rebuilds_12 : decode cX7_rebuilds 12 = .ok (.aload_n 0, 1) := by decide +kernel
theorem dX7_rebuilds_13 : decode cX7_rebuilds 13 = .ok (.iload_n 1, 1) := by decide +kernel
theorem dX7_rebuilds_14 : decode cX7_rebuilds 14 = .ok (.invokevirtual 109, 3) := by decide +kernel
theorem dX7_rebuilds_17 : decode cX7_rebuilds 17 = .ok (.istore_n 2, 1) := by decide +kernel
theorem dX7_rebuilds_18 : decode cX7_rebuilds 18 = .ok (.aload_n 0, 1) := by decide +kernel
theorem dX7_rebuilds_19 : decode cX7_rebuilds 19 = .ok (.aload_n 0, 1) := by decide +kernel
theorem dX7_rebuilds_20 : decode cX7_rebuilds 20 = .ok (.getfield 32, 3) := by decide +kernel
theorem dX7_rebuilds_23 : decode cX7_rebuilds 23 = .ok (.iload_n 1, 1) := by decide +kernel
theorem dX7_rebuilds_24 : decode cX7_rebuilds 24 = .ok (.iconst (-1), 1) := by decide +kernel
theorem dX7_rebuilds_25 : decode cX7_rebuilds 25 = .ok (.invokevirtual 95, 3) := by decide +kernel
theorem dX7_rebuilds_28 : decode cX7_rebuilds 28 = .ok (.aload_n 0, 1) := by decide +kernel
theorem dX7_rebuilds_29 : decode cX7_rebuilds 29 = .ok (.getfield 32, 3) := by decide +kernel
theorem dX7_rebuilds_32 : decode cX7_rebuilds 32 = .ok (.iload_n 1, 1) := by decide +kernel
theorem dX7_rebuilds_33 : decode cX7_rebuilds 33 = .ok (.iload_n 2, 1) := by decide +kernel
theorem dX7_rebuilds_34 : decode cX7_rebuilds 34 = .ok (.ifCond .eq 15, 3) := by decide +kernel
theorem dX7_rebuilds_37 : decode cX7_rebuilds 37 = .ok (.aload_n 0, 1) := by decide +kernel
theorem dX7_rebuilds_38 : decode cX7_rebuilds 38 = .ok (.getfield 7, 3) := by decide +kernel
theorem dX7_rebuilds_41 : decode cX7_rebuilds 41 = .ok (.bipush 87, 2) := by decide +kernel
theorem dX7_rebuilds_43 : decode cX7_rebuilds 43 = .ok (.iload_n 1, 1) := by decide +kernel
theorem dX7_rebuilds_44 : decode cX7_rebuilds 44 = .ok (.iadd, 1) := by decide +kernel
theorem dX7_rebuilds_45 : decode cX7_rebuilds 45 = .ok (.iaload, 1) := by decide +kernel
theorem dX7_rebuilds_46 : decode cX7_rebuilds 46 = .ok (.goto 7, 3) := by decide +kernel
theorem dX7_rebuilds_49 : decode cX7_rebuilds 49 = .ok (.aload_n 0, 1) := by decide +kernel
theorem dX7_rebuilds_50 : decode cX7_rebuilds 50 = .ok (.getfield 79, 3) := by decide +kernel
theorem dX7_rebuilds_53 : decode cX7_rebuilds 53 = .ok (.iastore, 1) := by decide +kernel
theorem dX7_rebuilds_54 : decode cX7_rebuilds 54 = .ok (.aload_n 0, 1) := by decide +kernel
theorem dX7_rebuilds_55 : decode cX7_rebuilds 55 = .ok (.getfield 32, 3) := by decide +kernel
theorem dX7_rebuilds_58 : decode cX7_rebuilds 58 = .ok (.bipush 10, 2) := by decide +kernel
theorem dX7_rebuilds_60 : decode cX7_rebuilds 60 = .ok (.iload_n 1, 1) := by decide +kernel
theorem dX7_rebuilds_61 : decode cX7_rebuilds 61 = .ok (.iadd, 1) := by decide +kernel
theorem dX7_rebuilds_62 : decode cX7_rebuilds 62 = .ok (.iload_n 2, 1) := by decide +kernel
theorem dX7_rebuilds_63 : decode cX7_rebuilds 63 = .ok (.ifCond .eq 15, 3) := by decide +kernel
theorem dX7_rebuilds_66 : decode cX7_rebuilds 66 = .ok (.aload_n 0, 1) := by decide +kernel
theorem dX7_rebuilds_67 : decode cX7_rebuilds 67 = .ok (.getfield 7, 3) := by decide +kernel
theorem dX7_rebuilds_70 : decode cX7_rebuilds 70 = .ok (.bipush 97, 2) := by decide +kernel
theorem dX7_rebuilds_72 : decode cX7_rebuilds 72 = .ok (.iload_n 1, 1) := by decide +kernel
theorem dX7_rebuilds_73 : decode cX7_rebuilds 73 = .ok (.iadd, 1) := by decide +kernel
theorem dX7_rebuilds_74 : decode cX7_rebuilds 74 = .ok (.iaload, 1) := by decide +kernel
theorem dX7_rebuilds_75 : decode cX7_rebuilds 75 = .ok (.goto 7, 3) := by decide +kernel
theorem dX7_rebuilds_78 : decode cX7_rebuilds 78 = .ok (.aload_n 0, 1) := by decide +kernel
theorem dX7_rebuilds_79 : decode cX7_rebuilds 79 = .ok (.getfield 82, 3) := by decide +kernel
theorem dX7_rebuilds_82 : decode cX7_rebuilds 82 = .ok (.iastore, 1) := by decide +kernel
theorem dX7_rebuilds_83 : decode cX7_rebuilds 83 = .ok (.iinc 1 1, 3) := by decide +kernel
theorem dX7_rebuilds_86 : decode cX7_rebuilds 86 = .ok (.goto (-84), 3) := by decide +kernel
theorem dX7_rebuilds_89 : decode cX7_rebuilds 89 = .ok (.return_, 1) := by decide +kernel
theorem dX7_isLess_0 : decode cX7_isLess 0 = .ok (.aload_n 0, 1) := by decide +kernel
theorem dX7_isLess_1 : decode cX7_isLess 1 = .ok (.iload_n 1, 1) := by decide +kernel
theorem dX7_isLess_2 : decode cX7_isLess 2 = .ok (.aload_n 0, 1) := by decide +kernel
theorem dX7_isLess_3 : decode cX7_isLess 3 = .ok (.getfield 7, 3) := by decide +kernel
theorem dX7_isLess_6 : decode cX7_isLess 6 = .ok (.bipush 87, 2) := by decide +kernel
theorem dX7_isLess_8 : decode cX7_isLess 8 = .ok (.iload_n 3, 1) := by decide +kernel
theorem dX7_isLess_9 : decode cX7_isLess 9 = .ok (.iadd, 1) := by decide +kernel
theorem dX7_isLess_10 : decode cX7_isLess 10 = .ok (.iaload, 1) := by decide +kernel
theorem dX7_isLess_11 : decode cX7_isLess 11 = .ok (.invokevirtual 54, 3) := by decide +kernel
theorem dX7_isLess_14 : decode cX7_isLess 14 = .ok (.ifCond .eq 23, 3) := by decide +kernel
theorem dX7_isLess_17 : decode cX7_isLess 17 = .ok (.iload_n 2, 1) := by decide +kernel
theorem dX7_isLess_18 : decode cX7_isLess 18 = .ok (.aload_n 0, 1) := by decide +kernel
theorem dX7_isLess_19 : decode cX7_isLess 19 = .ok (.getfield 7, 3) := by decide +kernel
theorem dX7_isLess_22 : decode cX7_isLess 22 = .ok (.bipush 97, 2) := by decide +kernel
theorem dX7_isLess_24 : decode cX7_isLess 24 = .ok (.iload_n 3, 1) := by decide +kernel
theorem dX7_isLess_25 : decode cX7_isLess 25 = .ok (.iadd, 1) := by decide +kernel
theorem dX7_isLess_26 : decode cX7_isLess 26 = .ok (.iaload, 1) := by decide +kernel
theorem dX7_isLess_27 : decode cX7_isLess 27 = .ok (.iconst (-1), 1) := by decide +kernel
theorem dX7_isLess_28 : decode cX7_isLess 28 = .ok (.ixor, 1) := by decide +kernel
theorem dX7_isLess_29 : decode cX7_isLess 29 = .ok (.iand, 1) := by decide +kernel
theorem dX7_isLess_30 : decode cX7_isLess 30 = .ok (.ifCond .ne 7, 3) := by decide +kernel
theorem dX7_isLess_33 : decode cX7_isLess 33 = .ok (.iconst 1, 1) := by decide +kernel
theorem dX7_isLess_34 : decode cX7_isLess 34 = .ok (.goto 4, 3) := by decide +kernel
theorem dX7_isLess_37 : decode cX7_isLess 37 = .ok (.iconst 0, 1) := by decide +kernel
theorem dX7_isLess_38 : decode cX7_isLess 38 = .ok (.ireturn, 1) := by decide +kernel
theorem dX7_isTakenAt_0 : decode cX7_isTakenAt 0 = .ok (.aload_n 0, 1) := by decide +kernel
theorem dX7_isTakenAt_1 : decode cX7_isTakenAt 1 = .ok (.aload_n 0, 1) := by decide +kernel
theorem dX7_isTakenAt_2 : decode cX7_isTakenAt 2 = .ok (.getfield 32, 3) := by decide +kernel
theorem dX7_isTakenAt_5 : decode cX7_isTakenAt 5 = .ok (.iload_n 1, 1) := by decide +kernel
theorem dX7_isTakenAt_6 : decode cX7_isTakenAt 6 = .ok (.iconst (-1), 1) := by decide +kernel
theorem dX7_isTakenAt_7 : decode cX7_isTakenAt 7 = .ok (.invokevirtual 95, 3) := by decide +kernel
theorem dX7_isTakenAt_10 : decode cX7_isTakenAt 10 = .ok (.aload_n 0, 1) := by decide +kernel
theorem dX7_isTakenAt_11 : decode cX7_isTakenAt 11 = .ok (.aload_n 0, 1) := by decide +kernel
theorem dX7_isTakenAt_12 : decode cX7_isTakenAt 12 = .ok (.getfield 79, 3) := by decide +kernel
theorem dX7_isTakenAt_15 : decode cX7_isTakenAt 15 = .ok (.aload_n 0, 1) := by decide +kernel
theorem dX7_isTakenAt_16 : decode cX7_isTakenAt 16 = .ok (.getfield 82, 3) := by decide +kernel
theorem dX7_isTakenAt_19 : decode cX7_isTakenAt 19 = .ok (.iload_n 1, 1) := by decide +kernel
theorem dX7_isTakenAt_20 : decode cX7_isTakenAt 20 = .ok (.invokevirtual 112, 3) := by decide +kernel
theorem dX7_isTakenAt_23 : decode cX7_isTakenAt 23 = .ok (.ireturn, 1) := by decide +kernel
theorem dX7_refused_0 : decode cX7_refused 0 = .ok (.aload_n 0, 1) := by decide +kernel
theorem dX7_refused_1 : decode cX7_refused 1 = .ok (.invokevirtual 115, 3) := by decide +kernel
theorem dX7_refused_4 : decode cX7_refused 4 = .ok (.iconst 0, 1) := by decide +kernel
theorem dX7_refused_5 : decode cX7_refused 5 = .ok (.istore_n 1, 1) := by decide +kernel
theorem dX7_refused_6 : decode cX7_refused 6 = .ok (.iload_n 1, 1) := by decide +kernel
theorem dX7_refused_7 : decode cX7_refused 7 = .ok (.aload_n 0, 1) := by decide +kernel
theorem dX7_refused_8 : decode cX7_refused 8 = .ok (.getfield 7, 3) := by decide +kernel
theorem dX7_refused_11 : decode cX7_refused 11 = .ok (.iconst 1, 1) := by decide +kernel
theorem dX7_refused_12 : decode cX7_refused 12 = .ok (.iaload, 1) := by decide +kernel
theorem dX7_refused_13 : decode cX7_refused 13 = .ok (.if_icmp .ge 27, 3) := by decide +kernel
theorem dX7_refused_16 : decode cX7_refused 16 = .ok (.aload_n 0, 1) := by decide +kernel
theorem dX7_refused_17 : decode cX7_refused 17 = .ok (.iload_n 1, 1) := by decide +kernel
theorem dX7_refused_18 : decode cX7_refused 18 = .ok (.invokevirtual 109, 3) := by decide +kernel
theorem dX7_refused_21 : decode cX7_refused 21 = .ok (.ifCond .eq 13, 3) := by decide +kernel
theorem dX7_refused_24 : decode cX7_refused 24 = .ok (.aload_n 0, 1) := by decide +kernel
theorem dX7_refused_25 : decode cX7_refused 25 = .ok (.iload_n 1, 1) := by decide +kernel
theorem dX7_refused_26 : decode cX7_refused 26 = .ok (.invokevirtual 118, 3) := by decide +kernel
theorem dX7_refused_29 : decode cX7_refused 29 = .ok (.ifCond .ne 5, 3) := by decide +kernel
theorem dX7_refused_32 : decode cX7_refused 32 = .ok (.iload_n 1, 1) := by decide +kernel
theorem dX7_refused_33 : decode cX7_refused 33 = .ok (.ireturn, 1) := by decide +kernel
theorem dX7_refused_34 : decode cX7_refused 34 = .ok (.iinc 1 1, 3) := by decide +kernel
theorem dX7_refused_37 : decode cX7_refused 37 = .ok (.goto (-31), 3) := by decide +kernel
theorem dX7_refused_40 : decode cX7_refused 40 = .ok (.iconst (-1), 1) := by decide +kernel
theorem dX7_refused_41 : decode cX7_refused 41 = .ok (.ireturn, 1) := by decide +kernel
theorem dX7_isExact_0 : decode cX7_isExact 0 = .ok (.aload_n 0, 1) := by decide +kernel
theorem dX7_isExact_1 : decode cX7_isExact 1 = .ok (.invokevirtual 121, 3) := by decide +kernel
theorem dX7_isExact_4 : decode cX7_isExact 4 = .ok (.ifCond .eq 11, 3) := by decide +kernel
theorem dX7_isExact_7 : decode cX7_isExact 7 = .ok (.aload_n 0, 1) := by decide +kernel
theorem dX7_isExact_8 : decode cX7_isExact 8 = .ok (.invokevirtual 125, 3) := by decide +kernel
theorem dX7_isExact_11 : decode cX7_isExact 11 = .ok (.iconst (-1), 1) := by decide +kernel
theorem dX7_isExact_12 : decode cX7_isExact 12 = .ok (.if_icmp .eq 5, 3) := by decide +kernel
theorem dX7_isExact_15 : decode cX7_isExact 15 = .ok (.iconst 0, 1) := by decide +kernel
theorem dX7_isExact_16 : decode cX7_isExact 16 = .ok (.ireturn, 1) := by decide +kernel
theorem dX7_isExact_17 : decode cX7_isExact 17 = .ok (.aload_n 0, 1) := by decide +kernel
theorem dX7_isExact_18 : decode cX7_isExact 18 = .ok (.aload_n 0, 1) := by decide +kernel
theorem dX7_isExact_19 : decode cX7_isExact 19 = .ok (.getfield 26, 3) := by decide +kernel
theorem dX7_isExact_22 : decode cX7_isExact 22 = .ok (.iconst 0, 1) := by decide +kernel
theorem dX7_isExact_23 : decode cX7_isExact 23 = .ok (.iconst (-1), 1) := by decide +kernel
theorem dX7_isExact_24 : decode cX7_isExact 24 = .ok (.invokevirtual 102, 3) := by decide +kernel
theorem dX7_isExact_27 : decode cX7_isExact 27 = .ok (.ifCond .lt 7, 3) := by decide +kernel
theorem dX7_isExact_30 : decode cX7_isExact 30 = .ok (.iconst 1, 1) := by decide +kernel
theorem dX7_isExact_31 : decode cX7_isExact 31 = .ok (.goto 4, 3) := by decide +kernel
theorem dX7_isExact_34 : decode cX7_isExact 34 = .ok (.iconst 0, 1) := by decide +kernel
theorem dX7_isExact_35 : decode cX7_isExact 35 = .ok (.istore_n 1, 1) := by decide +kernel
theorem dX7_isExact_36 : decode cX7_isExact 36 = .ok (.iconst 0, 1) := by decide +kernel
theorem dX7_isExact_37 : decode cX7_isExact 37 = .ok (.istore_n 2, 1) := by decide +kernel
theorem dX7_isExact_38 : decode cX7_isExact 38 = .ok (.iload_n 2, 1) := by decide +kernel
theorem dX7_isExact_39 : decode cX7_isExact 39 = .ok (.aload_n 0, 1) := by decide +kernel
theorem dX7_isExact_40 : decode cX7_isExact 40 = .ok (.getfield 7, 3) := by decide +kernel
theorem dX7_isExact_43 : decode cX7_isExact 43 = .ok (.iconst 1, 1) := by decide +kernel
theorem dX7_isExact_44 : decode cX7_isExact 44 = .ok (.iaload, 1) := by decide +kernel
theorem dX7_isExact_45 : decode cX7_isExact 45 = .ok (.if_icmp .ge 55, 3) := by decide +kernel
theorem dX7_isExact_48 : decode cX7_isExact 48 = .ok (.iload_n 1, 1) := by decide +kernel
theorem dX7_isExact_49 : decode cX7_isExact 49 = .ok (.ifCond .eq 43, 3) := by decide +kernel
theorem dX7_isExact_52 : decode cX7_isExact 52 = .ok (.aload_n 0, 1) := by decide +kernel
theorem dX7_isExact_53 : decode cX7_isExact 53 = .ok (.getfield 26, 3) := by decide +kernel
theorem dX7_isExact_56 : decode cX7_isExact 56 = .ok (.iload_n 2, 1) := by decide +kernel
theorem dX7_isExact_57 : decode cX7_isExact 57 = .ok (.iaload, 1) := by decide +kernel
theorem dX7_isExact_58 : decode cX7_isExact 58 = .ok (.aload_n 0, 1) := by decide +kernel
theorem dX7_isExact_59 : decode cX7_isExact 59 = .ok (.getfield 32, 3) := by decide +kernel
theorem dX7_isExact_62 : decode cX7_isExact 62 = .ok (.iload_n 2, 1) := by decide +kernel
theorem dX7_isExact_63 : decode cX7_isExact 63 = .ok (.iaload, 1) := by decide +kernel
theorem dX7_isExact_64 : decode cX7_isExact 64 = .ok (.if_icmp .ne 28, 3) := by decide +kernel
theorem dX7_isExact_67 : decode cX7_isExact 67 = .ok (.aload_n 0, 1) := by decide +kernel
theorem dX7_isExact_68 : decode cX7_isExact 68 = .ok (.getfield 26, 3) := by decide +kernel
theorem dX7_isExact_71 : decode cX7_isExact 71 = .ok (.bipush 10, 2) := by decide +kernel
theorem dX7_isExact_73 : decode cX7_isExact 73 = .ok (.iload_n 2, 1) := by decide +kernel
theorem dX7_isExact_74 : decode cX7_isExact 74 = .ok (.iadd, 1) := by decide +kernel
theorem dX7_isExact_75 : decode cX7_isExact 75 = .ok (.iaload, 1) := by decide +kernel
theorem dX7_isExact_76 : decode cX7_isExact 76 = .ok (.aload_n 0, 1) := by decide +kernel
theorem dX7_isExact_77 : decode cX7_isExact 77 = .ok (.getfield 32, 3) := by decide +kernel
theorem dX7_isExact_80 : decode cX7_isExact 80 = .ok (.bipush 10, 2) := by decide +kernel
theorem dX7_isExact_82 : decode cX7_isExact 82 = .ok (.iload_n 2, 1) := by decide +kernel
theorem dX7_isExact_83 : decode cX7_isExact 83 = .ok (.iadd, 1) := by decide +kernel
theorem dX7_isExact_84 : decode cX7_isExact 84 = .ok (.iaload, 1) := by decide +kernel
theorem dX7_isExact_85 : decode cX7_isExact 85 = .ok (.if_icmp .ne 7, 3) := by decide +kernel
theorem dX7_isExact_88 : decode cX7_isExact 88 = .ok (.iconst 1, 1) := by decide +kernel
theorem dX7_isExact_89 : decode cX7_isExact 89 = .ok (.goto 4, 3) := by decide +kernel
theorem dX7_isExact_92 : decode cX7_isExact 92 = .ok (.iconst 0, 1) := by decide +kernel
theorem dX7_isExact_93 : decode cX7_isExact 93 = .ok (.istore_n 1, 1) := by decide +kernel
theorem dX7_isExact_94 : decode cX7_isExact 94 = .ok (.iinc 2 1, 3) := by decide +kernel
theorem dX7_isExact_97 : decode cX7_isExact 97 = .ok (.goto (-59), 3) := by decide +kernel
theorem dX7_isExact_100 : decode cX7_isExact 100 = .ok (.iload_n 1, 1) := by decide +kernel
theorem dX7_isExact_101 : decode cX7_isExact 101 = .ok (.ireturn, 1) := by decide +kernel
theorem dX7_wrong_0 : decode cX7_wrong 0 = .ok (.aload_n 0, 1) := by decide +kernel
theorem dX7_wrong_1 : decode cX7_wrong 1 = .ok (.invokevirtual 121, 3) := by decide +kernel
theorem dX7_wrong_4 : decode cX7_wrong 4 = .ok (.ifCond .eq 20, 3) := by decide +kernel
theorem dX7_wrong_7 : decode cX7_wrong 7 = .ok (.aload_n 0, 1) := by decide +kernel
theorem dX7_wrong_8 : decode cX7_wrong 8 = .ok (.aload_n 0, 1) := by decide +kernel
theorem dX7_wrong_9 : decode cX7_wrong 9 = .ok (.getfield 26, 3) := by decide +kernel
theorem dX7_wrong_12 : decode cX7_wrong 12 = .ok (.iconst 0, 1) := by decide +kernel
theorem dX7_wrong_13 : decode cX7_wrong 13 = .ok (.iconst (-1), 1) := by decide +kernel
theorem dX7_wrong_14 : decode cX7_wrong 14 = .ok (.invokevirtual 102, 3) := by decide +kernel
theorem dX7_wrong_17 : decode cX7_wrong 17 = .ok (.ifCond .lt 7, 3) := by decide +kernel
theorem dX7_wrong_20 : decode cX7_wrong 20 = .ok (.iconst 1, 1) := by decide +kernel
theorem dX7_wrong_21 : decode cX7_wrong 21 = .ok (.goto 4, 3) := by decide +kernel
theorem dX7_wrong_24 : decode cX7_wrong 24 = .ok (.iconst 0, 1) := by decide +kernel
theorem dX7_wrong_25 : decode cX7_wrong 25 = .ok (.istore_n 1, 1) := by decide +kernel
theorem dX7_wrong_26 : decode cX7_wrong 26 = .ok (.iconst 0, 1) := by decide +kernel
theorem dX7_wrong_27 : decode cX7_wrong 27 = .ok (.istore_n 2, 1) := by decide +kernel
theorem dX7_wrong_28 : decode cX7_wrong 28 = .ok (.iload_n 2, 1) := by decide +kernel
theorem dX7_wrong_29 : decode cX7_wrong 29 = .ok (.aload_n 0, 1) := by decide +kernel
theorem dX7_wrong_30 : decode cX7_wrong 30 = .ok (.getfield 128, 3) := by decide +kernel
theorem dX7_wrong_33 : decode cX7_wrong 33 = .ok (.if_icmp .ge 73, 3) := by decide +kernel
theorem dX7_wrong_36 : decode cX7_wrong 36 = .ok (.aload_n 0, 1) := by decide +kernel
theorem dX7_wrong_37 : decode cX7_wrong 37 = .ok (.getfield 23, 3) := by decide +kernel
theorem dX7_wrong_40 : decode cX7_wrong 40 = .ok (.iconst 3, 1) := by decide +kernel
theorem dX7_wrong_41 : decode cX7_wrong 41 = .ok (.iload_n 2, 1) := by decide +kernel
theorem dX7_wrong_42 : decode cX7_wrong 42 = .ok (.imul, 1) := by decide +kernel
theorem dX7_wrong_43 : decode cX7_wrong 43 = .ok (.iaload, 1) := by decide +kernel
theorem dX7_wrong_44 : decode cX7_wrong 44 = .ok (.istore_n 3, 1) := by decide +kernel
theorem dX7_wrong_45 : decode cX7_wrong 45 = .ok (.iload_n 1, 1) := by decide +kernel
theorem dX7_wrong_46 : decode cX7_wrong 46 = .ok (.ifCond .eq 52, 3) := by decide +kernel
theorem dX7_wrong_49 : decode cX7_wrong 49 = .ok (.aload_n 0, 1) := by decide +kernel
theorem dX7_wrong_50 : decode cX7_wrong 50 = .ok (.iload_n 3, 1) := by decide +kernel
theorem dX7_wrong_51 : decode cX7_wrong 51 = .ok (.invokevirtual 131, 3) := by decide +kernel
theorem dX7_wrong_54 : decode cX7_wrong 54 = .ok (.ifCond .eq 44, 3) := by decide +kernel
theorem dX7_wrong_57 : decode cX7_wrong 57 = .ok (.aload_n 0, 1) := by decide +kernel
theorem dX7_wrong_58 : decode cX7_wrong 58 = .ok (.getfield 26, 3) := by decide +kernel
theorem dX7_wrong_61 : decode cX7_wrong 61 = .ok (.iload_n 3, 1) := by decide +kernel
theorem dX7_wrong_62 : decode cX7_wrong 62 = .ok (.iaload, 1) := by decide +kernel
theorem dX7_wrong_63 : decode cX7_wrong 63 = .ok (.aload_n 0, 1) := by decide +kernel
theorem dX7_wrong_64 : decode cX7_wrong 64 = .ok (.getfield 23, 3) := by decide +kernel
theorem dX7_wrong_67 : decode cX7_wrong 67 = .ok (.iconst 3, 1) := by decide +kernel
theorem dX7_wrong_68 : decode cX7_wrong 68 = .ok (.iload_n 2, 1) := by decide +kernel
theorem dX7_wrong_69 : decode cX7_wrong 69 = .ok (.imul, 1) := by decide +kernel
theorem dX7_wrong_70 : decode cX7_wrong 70 = .ok (.iconst 1, 1) := by decide +kernel
theorem dX7_wrong_71 : decode cX7_wrong 71 = .ok (.iadd, 1) := by decide +kernel
theorem dX7_wrong_72 : decode cX7_wrong 72 = .ok (.iaload, 1) := by decide +kernel
theorem dX7_wrong_73 : decode cX7_wrong 73 = .ok (.if_icmp .ne 25, 3) := by decide +kernel
theorem dX7_wrong_76 : decode cX7_wrong 76 = .ok (.aload_n 0, 1) := by decide +kernel
theorem dX7_wrong_77 : decode cX7_wrong 77 = .ok (.getfield 26, 3) := by decide +kernel
theorem dX7_wrong_80 : decode cX7_wrong 80 = .ok (.bipush 10, 2) := by decide +kernel
theorem dX7_wrong_82 : decode cX7_wrong 82 = .ok (.iload_n 3, 1) := by decide +kernel
theorem dX7_wrong_83 : decode cX7_wrong 83 = .ok (.iadd, 1) := by decide +kernel
theorem dX7_wrong_84 : decode cX7_wrong 84 = .ok (.iaload, 1) := by decide +kernel
theorem dX7_wrong_85 : decode cX7_wrong 85 = .ok (.aload_n 0, 1) := by decide +kernel
theorem dX7_wrong_86 : decode cX7_wrong 86 = .ok (.getfield 23, 3) := by decide +kernel
theorem dX7_wrong_89 : decode cX7_wrong 89 = .ok (.iconst 3, 1) := by decide +kernel
theorem dX7_wrong_90 : decode cX7_wrong 90 = .ok (.iload_n 2, 1) := by decide +kernel
theorem dX7_wrong_91 : decode cX7_wrong 91 = .ok (.imul, 1) := by decide +kernel
theorem dX7_wrong_92 : decode cX7_wrong 92 = .ok (.iconst 2, 1) := by decide +kernel
theorem dX7_wrong_93 : decode cX7_wrong 93 = .ok (.iadd, 1) := by decide +kernel
theorem dX7_wrong_94 : decode cX7_wrong 94 = .ok (.iaload, 1) := by decide +kernel
theorem dX7_wrong_95 : decode cX7_wrong 95 = .ok (.if_icmp .eq 5, 3) := by decide +kernel
theorem dX7_wrong_98 : decode cX7_wrong 98 = .ok (.iload_n 2, 1) := by decide +kernel
theorem dX7_wrong_99 : decode cX7_wrong 99 = .ok (.ireturn, 1) := by decide +kernel
theorem dX7_wrong_100 : decode cX7_wrong 100 = .ok (.iinc 2 1, 3) := by decide +kernel
theorem dX7_wrong_103 : decode cX7_wrong 103 = .ok (.goto (-75), 3) := by decide +kernel
theorem dX7_wrong_106 : decode cX7_wrong 106 = .ok (.iconst (-1), 1) := by decide +kernel
theorem dX7_wrong_107 : decode cX7_wrong 107 = .ok (.ireturn, 1) := by decide +kernel
theorem dX7_told_0 : decode cX7_told 0 = .ok (.iload_n 1, 1) := by decide +kernel
theorem dX7_told_1 : decode cX7_told 1 = .ok (.tableswitch 165 0 12 #[67, 74, 81, 88, 93, 98, 111, 116, 121, 134, 150, 155, 160], 67) := by decide +kernel
theorem dX7_told_68 : decode cX7_told 68 = .ok (.aload_n 0, 1) := by decide +kernel
theorem dX7_told_69 : decode cX7_told 69 = .ok (.getfield 7, 3) := by decide +kernel
theorem dX7_told_72 : decode cX7_told 72 = .ok (.iconst 0, 1) := by decide +kernel
theorem dX7_told_73 : decode cX7_told 73 = .ok (.iaload, 1) := by decide +kernel
theorem dX7_told_74 : decode cX7_told 74 = .ok (.ireturn, 1) := by decide +kernel
theorem dX7_told_75 : decode cX7_told 75 = .ok (.aload_n 0, 1) := by decide +kernel
theorem dX7_told_76 : decode cX7_told 76 = .ok (.getfield 7, 3) := by decide +kernel
theorem dX7_told_79 : decode cX7_told 79 = .ok (.iconst 1, 1) := by decide +kernel
theorem dX7_told_80 : decode cX7_told 80 = .ok (.iaload, 1) := by decide +kernel
theorem dX7_told_81 : decode cX7_told 81 = .ok (.ireturn, 1) := by decide +kernel
theorem dX7_told_82 : decode cX7_told 82 = .ok (.aload_n 0, 1) := by decide +kernel
theorem dX7_told_83 : decode cX7_told 83 = .ok (.getfield 7, 3) := by decide +kernel
theorem dX7_told_86 : decode cX7_told 86 = .ok (.iconst 2, 1) := by decide +kernel
theorem dX7_told_87 : decode cX7_told 87 = .ok (.iaload, 1) := by decide +kernel
theorem dX7_told_88 : decode cX7_told 88 = .ok (.ireturn, 1) := by decide +kernel
theorem dX7_told_89 : decode cX7_told 89 = .ok (.aload_n 0, 1) := by decide +kernel
theorem dX7_told_90 : decode cX7_told 90 = .ok (.invokevirtual 65, 3) := by decide +kernel
theorem dX7_told_93 : decode cX7_told 93 = .ok (.ireturn, 1) := by decide +kernel
theorem dX7_told_94 : decode cX7_told 94 = .ok (.aload_n 0, 1) := by decide +kernel
theorem dX7_told_95 : decode cX7_told 95 = .ok (.invokevirtual 69, 3) := by decide +kernel
theorem dX7_told_98 : decode cX7_told 98 = .ok (.ireturn, 1) := by decide +kernel
theorem dX7_told_99 : decode cX7_told 99 = .ok (.aload_n 0, 1) := by decide +kernel
theorem dX7_told_100 : decode cX7_told 100 = .ok (.invokevirtual 121, 3) := by decide +kernel
theorem dX7_told_103 : decode cX7_told 103 = .ok (.ifCond .eq 7, 3) := by decide +kernel
theorem dX7_told_106 : decode cX7_told 106 = .ok (.iconst 1, 1) := by decide +kernel
theorem dX7_told_107 : decode cX7_told 107 = .ok (.goto 4, 3) := by decide +kernel
theorem dX7_told_110 : decode cX7_told 110 = .ok (.iconst 0, 1) := by decide +kernel
theorem dX7_told_111 : decode cX7_told 111 = .ok (.ireturn, 1) := by decide +kernel
theorem dX7_told_112 : decode cX7_told 112 = .ok (.aload_n 0, 1) := by decide +kernel
theorem dX7_told_113 : decode cX7_told 113 = .ok (.invokevirtual 134, 3) := by decide +kernel
theorem dX7_told_116 : decode cX7_told 116 = .ok (.ireturn, 1) := by decide +kernel
theorem dX7_told_117 : decode cX7_told 117 = .ok (.aload_n 0, 1) := by decide +kernel
theorem dX7_told_118 : decode cX7_told 118 = .ok (.invokevirtual 125, 3) := by decide +kernel
theorem dX7_told_121 : decode cX7_told 121 = .ok (.ireturn, 1) := by decide +kernel
theorem dX7_told_122 : decode cX7_told 122 = .ok (.aload_n 0, 1) := by decide +kernel
theorem dX7_told_123 : decode cX7_told 123 = .ok (.invokevirtual 137, 3) := by decide +kernel
theorem dX7_told_126 : decode cX7_told 126 = .ok (.ifCond .eq 7, 3) := by decide +kernel
theorem dX7_told_129 : decode cX7_told 129 = .ok (.iconst 1, 1) := by decide +kernel
theorem dX7_told_130 : decode cX7_told 130 = .ok (.goto 4, 3) := by decide +kernel
theorem dX7_told_133 : decode cX7_told 133 = .ok (.iconst 0, 1) := by decide +kernel
theorem dX7_told_134 : decode cX7_told 134 = .ok (.ireturn, 1) := by decide +kernel
theorem dX7_told_135 : decode cX7_told 135 = .ok (.aload_n 0, 1) := by decide +kernel
theorem dX7_told_136 : decode cX7_told 136 = .ok (.invokevirtual 121, 3) := by decide +kernel
theorem dX7_told_139 : decode cX7_told 139 = .ok (.ifCond .eq 10, 3) := by decide +kernel
theorem dX7_told_142 : decode cX7_told 142 = .ok (.aload_n 0, 1) := by decide +kernel
theorem dX7_told_143 : decode cX7_told 143 = .ok (.invokevirtual 140, 3) := by decide +kernel
theorem dX7_told_146 : decode cX7_told 146 = .ok (.goto 4, 3) := by decide +kernel
theorem dX7_told_149 : decode cX7_told 149 = .ok (.iconst (-1), 1) := by decide +kernel
theorem dX7_told_150 : decode cX7_told 150 = .ok (.ireturn, 1) := by decide +kernel
theorem dX7_told_151 : decode cX7_told 151 = .ok (.aload_n 0, 1) := by decide +kernel
theorem dX7_told_152 : decode cX7_told 152 = .ok (.getfield 128, 3) := by decide +kernel
theorem dX7_told_155 : decode cX7_told 155 = .ok (.ireturn, 1) := by decide +kernel
theorem dX7_told_156 : decode cX7_told 156 = .ok (.aload_n 0, 1) := by decide +kernel
theorem dX7_told_157 : decode cX7_told 157 = .ok (.invokevirtual 143, 3) := by decide +kernel
theorem dX7_told_160 : decode cX7_told 160 = .ok (.ireturn, 1) := by decide +kernel
theorem dX7_told_161 : decode cX7_told 161 = .ok (.aload_n 0, 1) := by decide +kernel
theorem dX7_told_162 : decode cX7_told 162 = .ok (.getfield 146, 3) := by decide +kernel
theorem dX7_told_165 : decode cX7_told 165 = .ok (.ireturn, 1) := by decide +kernel
theorem dX7_told_166 : decode cX7_told 166 = .ok (.ldc 149, 2) := by decide +kernel
theorem dX7_told_168 : decode cX7_told 168 = .ok (.ireturn, 1) := by decide +kernel
theorem dX7_joined_0 : decode cX7_joined 0 = .ok (.aload_n 0, 1) := by decide +kernel
theorem dX7_joined_1 : decode cX7_joined 1 = .ok (.iload_n 1, 1) := by decide +kernel
theorem dX7_joined_2 : decode cX7_joined 2 = .ok (.invokevirtual 150, 3) := by decide +kernel
theorem dX7_joined_5 : decode cX7_joined 5 = .ok (.ifCond .eq 20, 3) := by decide +kernel
theorem dX7_joined_8 : decode cX7_joined 8 = .ok (.aload_n 0, 1) := by decide +kernel
theorem dX7_joined_9 : decode cX7_joined 9 = .ok (.iload_n 2, 1) := by decide +kernel
theorem dX7_joined_10 : decode cX7_joined 10 = .ok (.invokevirtual 150, 3) := by decide +kernel
theorem dX7_joined_13 : decode cX7_joined 13 = .ok (.ifCond .eq 12, 3) := by decide +kernel
theorem dX7_joined_16 : decode cX7_joined 16 = .ok (.aload_n 0, 1) := by decide +kernel
theorem dX7_joined_17 : decode cX7_joined 17 = .ok (.iload_n 1, 1) := by decide +kernel
theorem dX7_joined_18 : decode cX7_joined 18 = .ok (.iload_n 2, 1) := by decide +kernel
theorem dX7_joined_19 : decode cX7_joined 19 = .ok (.invokevirtual 46, 3) := by decide +kernel
theorem dX7_joined_22 : decode cX7_joined 22 = .ok (.goto 5, 3) := by decide +kernel
theorem dX7_joined_25 : decode cX7_joined 25 = .ok (.ldc 153, 2) := by decide +kernel
theorem dX7_joined_27 : decode cX7_joined 27 = .ok (.ireturn, 1) := by decide +kernel
theorem dX7_below_0 : decode cX7_below 0 = .ok (.aload_n 0, 1) := by decide +kernel
theorem dX7_below_1 : decode cX7_below 1 = .ok (.iload_n 1, 1) := by decide +kernel
theorem dX7_below_2 : decode cX7_below 2 = .ok (.invokevirtual 150, 3) := by decide +kernel
theorem dX7_below_5 : decode cX7_below 5 = .ok (.ifCond .eq 11, 3) := by decide +kernel
theorem dX7_below_8 : decode cX7_below 8 = .ok (.aload_n 0, 1) := by decide +kernel
theorem dX7_below_9 : decode cX7_below 9 = .ok (.iload_n 2, 1) := by decide +kernel
theorem dX7_below_10 : decode cX7_below 10 = .ok (.invokevirtual 150, 3) := by decide +kernel
theorem dX7_below_13 : decode cX7_below 13 = .ok (.ifCond .ne 6, 3) := by decide +kernel
theorem dX7_below_16 : decode cX7_below 16 = .ok (.ldc 153, 2) := by decide +kernel
theorem dX7_below_18 : decode cX7_below 18 = .ok (.ireturn, 1) := by decide +kernel
theorem dX7_below_19 : decode cX7_below 19 = .ok (.aload_n 0, 1) := by decide +kernel
theorem dX7_below_20 : decode cX7_below 20 = .ok (.iload_n 1, 1) := by decide +kernel
theorem dX7_below_21 : decode cX7_below 21 = .ok (.iload_n 2, 1) := by decide +kernel
theorem dX7_below_22 : decode cX7_below 22 = .ok (.invokevirtual 54, 3) := by decide +kernel
theorem dX7_below_25 : decode cX7_below 25 = .ok (.ifCond .eq 7, 3) := by decide +kernel
theorem dX7_below_28 : decode cX7_below 28 = .ok (.iconst 1, 1) := by decide +kernel
theorem dX7_below_29 : decode cX7_below 29 = .ok (.goto 4, 3) := by decide +kernel
theorem dX7_below_32 : decode cX7_below 32 = .ok (.iconst 0, 1) := by decide +kernel
theorem dX7_below_33 : decode cX7_below 33 = .ok (.ireturn, 1) := by decide +kernel
theorem dX7_knownAt_0 : decode cX7_knownAt 0 = .ok (.aload_n 0, 1) := by decide +kernel
theorem dX7_knownAt_1 : decode cX7_knownAt 1 = .ok (.invokevirtual 121, 3) := by decide +kernel
theorem dX7_knownAt_4 : decode cX7_knownAt 4 = .ok (.ifCond .eq 25, 3) := by decide +kernel
theorem dX7_knownAt_7 : decode cX7_knownAt 7 = .ok (.aload_n 0, 1) := by decide +kernel
theorem dX7_knownAt_8 : decode cX7_knownAt 8 = .ok (.aload_n 0, 1) := by decide +kernel
theorem dX7_knownAt_9 : decode cX7_knownAt 9 = .ok (.getfield 26, 3) := by decide +kernel
theorem dX7_knownAt_12 : decode cX7_knownAt 12 = .ok (.iconst 0, 1) := by decide +kernel
theorem dX7_knownAt_13 : decode cX7_knownAt 13 = .ok (.iconst (-1), 1) := by decide +kernel
theorem dX7_knownAt_14 : decode cX7_knownAt 14 = .ok (.invokevirtual 102, 3) := by decide +kernel
theorem dX7_knownAt_17 : decode cX7_knownAt 17 = .ok (.ifCond .lt 12, 3) := by decide +kernel
theorem dX7_knownAt_20 : decode cX7_knownAt 20 = .ok (.aload_n 0, 1) := by decide +kernel
theorem dX7_knownAt_21 : decode cX7_knownAt 21 = .ok (.getfield 26, 3) := by decide +kernel
theorem dX7_knownAt_24 : decode cX7_knownAt 24 = .ok (.iload_n 1, 1) := by decide +kernel
theorem dX7_knownAt_25 : decode cX7_knownAt 25 = .ok (.iaload, 1) := by decide +kernel
theorem dX7_knownAt_26 : decode cX7_knownAt 26 = .ok (.goto 4, 3) := by decide +kernel
theorem dX7_knownAt_29 : decode cX7_knownAt 29 = .ok (.iconst (-1), 1) := by decide +kernel
theorem dX7_knownAt_30 : decode cX7_knownAt 30 = .ok (.ireturn, 1) := by decide +kernel
theorem dX7_rebuiltAt_0 : decode cX7_rebuiltAt 0 = .ok (.aload_n 0, 1) := by decide +kernel
theorem dX7_rebuiltAt_1 : decode cX7_rebuiltAt 1 = .ok (.invokevirtual 115, 3) := by decide +kernel
theorem dX7_rebuiltAt_4 : decode cX7_rebuiltAt 4 = .ok (.aload_n 0, 1) := by decide +kernel
theorem dX7_rebuiltAt_5 : decode cX7_rebuiltAt 5 = .ok (.getfield 32, 3) := by decide +kernel
theorem dX7_rebuiltAt_8 : decode cX7_rebuiltAt 8 = .ok (.iload_n 1, 1) := by decide +kernel
theorem dX7_rebuiltAt_9 : decode cX7_rebuiltAt 9 = .ok (.iaload, 1) := by decide +kernel
theorem dX7_rebuiltAt_10 : decode cX7_rebuiltAt 10 = .ok (.ireturn, 1) := by decide +kernel
theorem dX7_place_0 : decode cX7_place 0 = .ok (.aload_n 0, 1) := by decide +kernel
theorem dX7_place_1 : decode cX7_place 1 = .ok (.iload_n 1, 1) := by decide +kernel
theorem dX7_place_2 : decode cX7_place 2 = .ok (.invokevirtual 131, 3) := by decide +kernel
theorem dX7_place_5 : decode cX7_place 5 = .ok (.ifCond .ne 6, 3) := by decide +kernel
theorem dX7_place_8 : decode cX7_place 8 = .ok (.ldc 153, 2) := by decide +kernel
theorem dX7_place_10 : decode cX7_place 10 = .ok (.ireturn, 1) := by decide +kernel
theorem dX7_place_11 : decode cX7_place 11 = .ok (.iload_n 2, 1) := by decide +kernel
theorem dX7_place_12 : decode cX7_place 12 = .ok (.tableswitch 142 0 7 #[48, 58, 68, 74, 83, 89, 98, 120], 48) := by decide +kernel
theorem dX7_place_60 : decode cX7_place 60 = .ok (.aload_n 0, 1) := by decide +kernel
theorem dX7_place_61 : decode cX7_place 61 = .ok (.getfield 7, 3) := by decide +kernel
theorem dX7_place_64 : decode cX7_place 64 = .ok (.bipush 67, 2) := by decide +kernel
theorem dX7_place_66 : decode cX7_place 66 = .ok (.iload_n 1, 1) := by decide +kernel
theorem dX7_place_67 : decode cX7_place 67 = .ok (.iadd, 1) := by decide +kernel
theorem dX7_place_68 : decode cX7_place 68 = .ok (.iaload, 1) := by decide +kernel
theorem dX7_place_69 : decode cX7_place 69 = .ok (.ireturn, 1) := by decide +kernel
theorem dX7_place_70 : decode cX7_place 70 = .ok (.aload_n 0, 1) := by decide +kernel
theorem dX7_place_71 : decode cX7_place 71 = .ok (.getfield 7, 3) := by decide +kernel
theorem dX7_place_74 : decode cX7_place 74 = .ok (.bipush 77, 2) := by decide +kernel
theorem dX7_place_76 : decode cX7_place 76 = .ok (.iload_n 1, 1) := by decide +kernel
theorem dX7_place_77 : decode cX7_place 77 = .ok (.iadd, 1) := by decide +kernel
theorem dX7_place_78 : decode cX7_place 78 = .ok (.iaload, 1) := by decide +kernel
theorem dX7_place_79 : decode cX7_place 79 = .ok (.ireturn, 1) := by decide +kernel
theorem dX7_place_80 : decode cX7_place 80 = .ok (.aload_n 0, 1) := by decide +kernel
theorem dX7_place_81 : decode cX7_place 81 = .ok (.iload_n 1, 1) := by decide +kernel
theorem dX7_place_82 : decode cX7_place 82 = .ok (.invokevirtual 154, 3) := by decide +kernel
theorem dX7_place_85 : decode cX7_place 85 = .ok (.ireturn, 1) := by decide +kernel
theorem dX7_place_86 : decode cX7_place 86 = .ok (.aload_n 0, 1) := by decide +kernel
theorem dX7_place_87 : decode cX7_place 87 = .ok (.bipush 10, 2) := by decide +kernel
theorem dX7_place_89 : decode cX7_place 89 = .ok (.iload_n 1, 1) := by decide +kernel
theorem dX7_place_90 : decode cX7_place 90 = .ok (.iadd, 1) := by decide +kernel
theorem dX7_place_91 : decode cX7_place 91 = .ok (.invokevirtual 154, 3) := by decide +kernel
theorem dX7_place_94 : decode cX7_place 94 = .ok (.ireturn, 1) := by decide +kernel
theorem dX7_place_95 : decode cX7_place 95 = .ok (.aload_n 0, 1) := by decide +kernel
theorem dX7_place_96 : decode cX7_place 96 = .ok (.iload_n 1, 1) := by decide +kernel
theorem dX7_place_97 : decode cX7_place 97 = .ok (.invokevirtual 157, 3) := by decide +kernel
theorem dX7_place_100 : decode cX7_place 100 = .ok (.ireturn, 1) := by decide +kernel
theorem dX7_place_101 : decode cX7_place 101 = .ok (.aload_n 0, 1) := by decide +kernel
theorem dX7_place_102 : decode cX7_place 102 = .ok (.bipush 10, 2) := by decide +kernel
theorem dX7_place_104 : decode cX7_place 104 = .ok (.iload_n 1, 1) := by decide +kernel
theorem dX7_place_105 : decode cX7_place 105 = .ok (.iadd, 1) := by decide +kernel
theorem dX7_place_106 : decode cX7_place 106 = .ok (.invokevirtual 157, 3) := by decide +kernel
theorem dX7_place_109 : decode cX7_place 109 = .ok (.ireturn, 1) := by decide +kernel
theorem dX7_place_110 : decode cX7_place 110 = .ok (.aload_n 0, 1) := by decide +kernel
theorem dX7_place_111 : decode cX7_place 111 = .ok (.iload_n 1, 1) := by decide +kernel
theorem dX7_place_112 : decode cX7_place 112 = .ok (.invokevirtual 109, 3) := by decide +kernel
theorem dX7_place_115 : decode cX7_place 115 = .ok (.ifCond .eq 15, 3) := by decide +kernel
theorem dX7_place_118 : decode cX7_place 118 = .ok (.aload_n 0, 1) := by decide +kernel
theorem dX7_place_119 : decode cX7_place 119 = .ok (.getfield 7, 3) := by decide +kernel
theorem dX7_place_122 : decode cX7_place 122 = .ok (.bipush 87, 2) := by decide +kernel
theorem dX7_place_124 : decode cX7_place 124 = .ok (.iload_n 1, 1) := by decide +kernel
theorem dX7_place_125 : decode cX7_place 125 = .ok (.iadd, 1) := by decide +kernel
theorem dX7_place_126 : decode cX7_place 126 = .ok (.iaload, 1) := by decide +kernel
theorem dX7_place_127 : decode cX7_place 127 = .ok (.goto 4, 3) := by decide +kernel
theorem dX7_place_130 : decode cX7_place 130 = .ok (.iconst (-1), 1) := by decide +kernel
theorem dX7_place_131 : decode cX7_place 131 = .ok (.ireturn, 1) := by decide +kernel
theorem dX7_place_132 : decode cX7_place 132 = .ok (.aload_n 0, 1) := by decide +kernel
theorem dX7_place_133 : decode cX7_place 133 = .ok (.iload_n 1, 1) := by decide +kernel
theorem dX7_place_134 : decode cX7_place 134 = .ok (.invokevirtual 109, 3) := by decide +kernel
theorem dX7_place_137 : decode cX7_place 137 = .ok (.ifCond .eq 15, 3) := by decide +kernel
theorem dX7_place_140 : decode cX7_place 140 = .ok (.aload_n 0, 1) := by decide +kernel
theorem dX7_place_141 : decode cX7_place 141 = .ok (.getfield 7, 3) := by decide +kernel
theorem dX7_place_144 : decode cX7_place 144 = .ok (.bipush 97, 2) := by decide +kernel
theorem dX7_place_146 : decode cX7_place 146 = .ok (.iload_n 1, 1) := by decide +kernel
theorem dX7_place_147 : decode cX7_place 147 = .ok (.iadd, 1) := by decide +kernel
theorem dX7_place_148 : decode cX7_place 148 = .ok (.iaload, 1) := by decide +kernel
theorem dX7_place_149 : decode cX7_place 149 = .ok (.goto 4, 3) := by decide +kernel
theorem dX7_place_152 : decode cX7_place 152 = .ok (.iconst (-1), 1) := by decide +kernel
theorem dX7_place_153 : decode cX7_place 153 = .ok (.ireturn, 1) := by decide +kernel
theorem dX7_place_154 : decode cX7_place 154 = .ok (.ldc 149, 2) := by decide +kernel
theorem dX7_place_156 : decode cX7_place 156 = .ok (.ireturn, 1) := by decide +kernel
theorem dX7_broughtBy_0 : decode cX7_broughtBy 0 = .ok (.aload_n 0, 1) := by decide +kernel
theorem dX7_broughtBy_1 : decode cX7_broughtBy 1 = .ok (.invokevirtual 121, 3) := by decide +kernel
theorem dX7_broughtBy_4 : decode cX7_broughtBy 4 = .ok (.ifCond .eq 16, 3) := by decide +kernel
theorem dX7_broughtBy_7 : decode cX7_broughtBy 7 = .ok (.aload_n 0, 1) := by decide +kernel
theorem dX7_broughtBy_8 : decode cX7_broughtBy 8 = .ok (.aload_n 0, 1) := by decide +kernel
theorem dX7_broughtBy_9 : decode cX7_broughtBy 9 = .ok (.getfield 26, 3) := by decide +kernel
theorem dX7_broughtBy_12 : decode cX7_broughtBy 12 = .ok (.iconst 0, 1) := by decide +kernel
theorem dX7_broughtBy_13 : decode cX7_broughtBy 13 = .ok (.iconst (-1), 1) := by decide +kernel
theorem dX7_broughtBy_14 : decode cX7_broughtBy 14 = .ok (.invokevirtual 102, 3) := by decide +kernel
theorem dX7_broughtBy_17 : decode cX7_broughtBy 17 = .ok (.ifCond .ge 5, 3) := by decide +kernel
theorem dX7_broughtBy_20 : decode cX7_broughtBy 20 = .ok (.iconst (-1), 1) := by decide +kernel
theorem dX7_broughtBy_21 : decode cX7_broughtBy 21 = .ok (.ireturn, 1) := by decide +kernel
theorem dX7_broughtBy_22 : decode cX7_broughtBy 22 = .ok (.aload_n 0, 1) := by decide +kernel
theorem dX7_broughtBy_23 : decode cX7_broughtBy 23 = .ok (.iload_n 1, 1) := by decide +kernel
theorem dX7_broughtBy_24 : decode cX7_broughtBy 24 = .ok (.aload_n 0, 1) := by decide +kernel
theorem dX7_broughtBy_25 : decode cX7_broughtBy 25 = .ok (.getfield 26, 3) := by decide +kernel
theorem dX7_broughtBy_28 : decode cX7_broughtBy 28 = .ok (.aload_n 0, 1) := by decide +kernel
theorem dX7_broughtBy_29 : decode cX7_broughtBy 29 = .ok (.iload_n 1, 1) := by decide +kernel
theorem dX7_broughtBy_30 : decode cX7_broughtBy 30 = .ok (.iconst 0, 1) := by decide +kernel
theorem dX7_broughtBy_31 : decode cX7_broughtBy 31 = .ok (.invokevirtual 58, 3) := by decide +kernel
theorem dX7_broughtBy_34 : decode cX7_broughtBy 34 = .ok (.iaload, 1) := by decide +kernel
theorem dX7_broughtBy_35 : decode cX7_broughtBy 35 = .ok (.aload_n 0, 1) := by decide +kernel
theorem dX7_broughtBy_36 : decode cX7_broughtBy 36 = .ok (.getfield 26, 3) := by decide +kernel
theorem dX7_broughtBy_39 : decode cX7_broughtBy 39 = .ok (.bipush 10, 2) := by decide +kernel
theorem dX7_broughtBy_41 : decode cX7_broughtBy 41 = .ok (.aload_n 0, 1) := by decide +kernel
theorem dX7_broughtBy_42 : decode cX7_broughtBy 42 = .ok (.iload_n 1, 1) := by decide +kernel
theorem dX7_broughtBy_43 : decode cX7_broughtBy 43 = .ok (.iconst 0, 1) := by decide +kernel
theorem dX7_broughtBy_44 : decode cX7_broughtBy 44 = .ok (.invokevirtual 58, 3) := by decide +kernel
theorem dX7_broughtBy_47 : decode cX7_broughtBy 47 = .ok (.iadd, 1) := by decide +kernel
theorem dX7_broughtBy_48 : decode cX7_broughtBy 48 = .ok (.iaload, 1) := by decide +kernel
theorem dX7_broughtBy_49 : decode cX7_broughtBy 49 = .ok (.invokevirtual 85, 3) := by decide +kernel
theorem dX7_broughtBy_52 : decode cX7_broughtBy 52 = .ok (.iload_n 2, 1) := by decide +kernel
theorem dX7_broughtBy_53 : decode cX7_broughtBy 53 = .ok (.bipush 7, 2) := by decide +kernel
theorem dX7_broughtBy_55 : decode cX7_broughtBy 55 = .ok (.if_icmp .ne 10, 3) := by decide +kernel
theorem dX7_broughtBy_58 : decode cX7_broughtBy 58 = .ok (.aload_n 0, 1) := by decide +kernel
theorem dX7_broughtBy_59 : decode cX7_broughtBy 59 = .ok (.getfield 72, 3) := by decide +kernel
theorem dX7_broughtBy_62 : decode cX7_broughtBy 62 = .ok (.goto 7, 3) := by decide +kernel
theorem dX7_broughtBy_65 : decode cX7_broughtBy 65 = .ok (.aload_n 0, 1) := by decide +kernel
theorem dX7_broughtBy_66 : decode cX7_broughtBy 66 = .ok (.getfield 76, 3) := by decide +kernel
theorem dX7_broughtBy_69 : decode cX7_broughtBy 69 = .ok (.ireturn, 1) := by decide +kernel
theorem dX7_wayAt_0 : decode cX7_wayAt 0 = .ok (.aload_n 0, 1) := by decide +kernel
theorem dX7_wayAt_1 : decode cX7_wayAt 1 = .ok (.iload_n 1, 1) := by decide +kernel
theorem dX7_wayAt_2 : decode cX7_wayAt 2 = .ok (.invokevirtual 160, 3) := by decide +kernel
theorem dX7_wayAt_5 : decode cX7_wayAt 5 = .ok (.ifCond .ne 6, 3) := by decide +kernel
theorem dX7_wayAt_8 : decode cX7_wayAt 8 = .ok (.ldc 153, 2) := by decide +kernel
theorem dX7_wayAt_10 : decode cX7_wayAt 10 = .ok (.ireturn, 1) := by decide +kernel
theorem dX7_wayAt_11 : decode cX7_wayAt 11 = .ok (.iload_n 2, 1) := by decide +kernel
theorem dX7_wayAt_12 : decode cX7_wayAt 12 = .ok (.iconst 0, 1) := by decide +kernel
theorem dX7_wayAt_13 : decode cX7_wayAt 13 = .ok (.bipush 8, 2) := by decide +kernel
theorem dX7_wayAt_15 : decode cX7_wayAt 15 = .ok (.invokestatic 42, 3) := by decide +kernel
theorem dX7_wayAt_18 : decode cX7_wayAt 18 = .ok (.ifCond .ne 6, 3) := by decide +kernel
theorem dX7_wayAt_21 : decode cX7_wayAt 21 = .ok (.ldc 149, 2) := by decide +kernel
theorem dX7_wayAt_23 : decode cX7_wayAt 23 = .ok (.ireturn, 1) := by decide +kernel
theorem dX7_wayAt_24 : decode cX7_wayAt 24 = .ok (.iload_n 2, 1) := by decide +kernel
theorem dX7_wayAt_25 : decode cX7_wayAt 25 = .ok (.iconst 5, 1) := by decide +kernel
theorem dX7_wayAt_26 : decode cX7_wayAt 26 = .ok (.if_icmp .ge 10, 3) := by decide +kernel
theorem dX7_wayAt_29 : decode cX7_wayAt 29 = .ok (.aload_n 0, 1) := by decide +kernel
theorem dX7_wayAt_30 : decode cX7_wayAt 30 = .ok (.iload_n 1, 1) := by decide +kernel
theorem dX7_wayAt_31 : decode cX7_wayAt 31 = .ok (.iload_n 2, 1) := by decide +kernel
theorem dX7_wayAt_32 : decode cX7_wayAt 32 = .ok (.invokevirtual 58, 3) := by decide +kernel
theorem dX7_wayAt_35 : decode cX7_wayAt 35 = .ok (.ireturn, 1) := by decide +kernel
theorem dX7_wayAt_36 : decode cX7_wayAt 36 = .ok (.iload_n 2, 1) := by decide +kernel
theorem dX7_wayAt_37 : decode cX7_wayAt 37 = .ok (.iconst 5, 1) := by decide +kernel
theorem dX7_wayAt_38 : decode cX7_wayAt 38 = .ok (.if_icmp .ne 17, 3) := by decide +kernel
theorem dX7_wayAt_41 : decode cX7_wayAt 41 = .ok (.aload_n 0, 1) := by decide +kernel
theorem dX7_wayAt_42 : decode cX7_wayAt 42 = .ok (.iload_n 1, 1) := by decide +kernel
theorem dX7_wayAt_43 : decode cX7_wayAt 43 = .ok (.invokevirtual 61, 3) := by decide +kernel
theorem dX7_wayAt_46 : decode cX7_wayAt 46 = .ok (.ifCond .eq 7, 3) := by decide +kernel
theorem dX7_wayAt_49 : decode cX7_wayAt 49 = .ok (.iconst 1, 1) := by decide +kernel
theorem dX7_wayAt_50 : decode cX7_wayAt 50 = .ok (.goto 4, 3) := by decide +kernel
theorem dX7_wayAt_53 : decode cX7_wayAt 53 = .ok (.iconst 0, 1) := by decide +kernel
theorem dX7_wayAt_54 : decode cX7_wayAt 54 = .ok (.ireturn, 1) := by decide +kernel
theorem dX7_wayAt_55 : decode cX7_wayAt 55 = .ok (.iload_n 2, 1) := by decide +kernel
theorem dX7_wayAt_56 : decode cX7_wayAt 56 = .ok (.bipush 6, 2) := by decide +kernel
theorem dX7_wayAt_58 : decode cX7_wayAt 58 = .ok (.if_icmp .le 12, 3) := by decide +kernel
theorem dX7_wayAt_61 : decode cX7_wayAt 61 = .ok (.aload_n 0, 1) := by decide +kernel
theorem dX7_wayAt_62 : decode cX7_wayAt 62 = .ok (.iload_n 1, 1) := by decide +kernel
theorem dX7_wayAt_63 : decode cX7_wayAt 63 = .ok (.iload_n 2, 1) := by decide +kernel
theorem dX7_wayAt_64 : decode cX7_wayAt 64 = .ok (.invokevirtual 163, 3) := by decide +kernel
theorem dX7_wayAt_67 : decode cX7_wayAt 67 = .ok (.goto 19, 3) := by decide +kernel
theorem dX7_wayAt_70 : decode cX7_wayAt 70 = .ok (.aload_n 0, 1) := by decide +kernel
theorem dX7_wayAt_71 : decode cX7_wayAt 71 = .ok (.invokevirtual 121, 3) := by decide +kernel
theorem dX7_wayAt_74 : decode cX7_wayAt 74 = .ok (.ifCond .eq 11, 3) := by decide +kernel
theorem dX7_wayAt_77 : decode cX7_wayAt 77 = .ok (.aload_n 0, 1) := by decide +kernel
theorem dX7_wayAt_78 : decode cX7_wayAt 78 = .ok (.iload_n 1, 1) := by decide +kernel
theorem dX7_wayAt_79 : decode cX7_wayAt 79 = .ok (.invokevirtual 106, 3) := by decide +kernel
theorem dX7_wayAt_82 : decode cX7_wayAt 82 = .ok (.goto 4, 3) := by decide +kernel
theorem dX7_wayAt_85 : decode cX7_wayAt 85 = .ok (.iconst (-1), 1) := by decide +kernel
theorem dX7_wayAt_86 : decode cX7_wayAt 86 = .ok (.ireturn, 1) := by decide +kernel
theorem dX7_mapped_0 : decode cX7_mapped 0 = .ok (.aload_n 0, 1) := by decide +kernel
theorem dX7_mapped_1 : decode cX7_mapped 1 = .ok (.iload_n 1, 1) := by decide +kernel
theorem dX7_mapped_2 : decode cX7_mapped 2 = .ok (.invokevirtual 160, 3) := by decide +kernel
theorem dX7_mapped_5 : decode cX7_mapped 5 = .ok (.ifCond .eq 22, 3) := by decide +kernel
theorem dX7_mapped_8 : decode cX7_mapped 8 = .ok (.aload_n 0, 1) := by decide +kernel
theorem dX7_mapped_9 : decode cX7_mapped 9 = .ok (.iload_n 2, 1) := by decide +kernel
theorem dX7_mapped_10 : decode cX7_mapped 10 = .ok (.invokevirtual 150, 3) := by decide +kernel
theorem dX7_mapped_13 : decode cX7_mapped 13 = .ok (.ifCond .eq 14, 3) := by decide +kernel
theorem dX7_mapped_16 : decode cX7_mapped 16 = .ok (.aload_n 0, 1) := by decide +kernel
theorem dX7_mapped_17 : decode cX7_mapped 17 = .ok (.iload_n 1, 1) := by decide +kernel
theorem dX7_mapped_18 : decode cX7_mapped 18 = .ok (.iconst 5, 1) := by decide +kernel
theorem dX7_mapped_19 : decode cX7_mapped 19 = .ok (.iload_n 2, 1) := by decide +kernel
theorem dX7_mapped_20 : decode cX7_mapped 20 = .ok (.iadd, 1) := by decide +kernel
theorem dX7_mapped_21 : decode cX7_mapped 21 = .ok (.invokevirtual 58, 3) := by decide +kernel
theorem dX7_mapped_24 : decode cX7_mapped 24 = .ok (.goto 5, 3) := by decide +kernel
theorem dX7_mapped_27 : decode cX7_mapped 27 = .ok (.ldc 153, 2) := by decide +kernel
theorem dX7_mapped_29 : decode cX7_mapped 29 = .ok (.ireturn, 1) := by decide +kernel
theorem dX7_steps_0 : decode cX7_steps 0 = .ok (.iload_n 1, 1) := by decide +kernel
theorem dX7_steps_1 : decode cX7_steps 1 = .ok (.iconst 0, 1) := by decide +kernel
theorem dX7_steps_2 : decode cX7_steps 2 = .ok (.iconst 2, 1) := by decide +kernel
theorem dX7_steps_3 : decode cX7_steps 3 = .ok (.invokestatic 42, 3) := by decide +kernel
theorem dX7_steps_6 : decode cX7_steps 6 = .ok (.ifCond .eq 16, 3) := by decide +kernel
theorem dX7_steps_9 : decode cX7_steps 9 = .ok (.aload_n 0, 1) := by decide +kernel
theorem dX7_steps_10 : decode cX7_steps 10 = .ok (.aload_n 0, 1) := by decide +kernel
theorem dX7_steps_11 : decode cX7_steps 11 = .ok (.getfield 29, 3) := by decide +kernel
theorem dX7_steps_14 : decode cX7_steps 14 = .ok (.iload_n 1, 1) := by decide +kernel
theorem dX7_steps_15 : decode cX7_steps 15 = .ok (.iconst (-1), 1) := by decide +kernel
theorem dX7_steps_16 : decode cX7_steps 16 = .ok (.invokevirtual 102, 3) := by decide +kernel
theorem dX7_steps_19 : decode cX7_steps 19 = .ok (.goto 5, 3) := by decide +kernel
theorem dX7_steps_22 : decode cX7_steps 22 = .ok (.ldc 149, 2) := by decide +kernel
theorem dX7_steps_24 : decode cX7_steps 24 = .ok (.ireturn, 1) := by decide +kernel
theorem dX7_worked_0 : decode cX7_worked 0 = .ok (.aload_n 0, 1) := by decide +kernel
theorem dX7_worked_1 : decode cX7_worked 1 = .ok (.iload_n 2, 1) := by decide +kernel
theorem dX7_worked_2 : decode cX7_worked 2 = .ok (.invokevirtual 131, 3) := by decide +kernel
theorem dX7_worked_5 : decode cX7_worked 5 = .ok (.ifCond .ne 6, 3) := by decide +kernel
theorem dX7_worked_8 : decode cX7_worked 8 = .ok (.ldc 153, 2) := by decide +kernel
theorem dX7_worked_10 : decode cX7_worked 10 = .ok (.ireturn, 1) := by decide +kernel
theorem dX7_worked_11 : decode cX7_worked 11 = .ok (.iload_n 1, 1) := by decide +kernel
theorem dX7_worked_12 : decode cX7_worked 12 = .ok (.iconst 0, 1) := by decide +kernel
theorem dX7_worked_13 : decode cX7_worked 13 = .ok (.iconst 2, 1) := by decide +kernel
theorem dX7_worked_14 : decode cX7_worked 14 = .ok (.invokestatic 42, 3) := by decide +kernel
theorem dX7_worked_17 : decode cX7_worked 17 = .ok (.ifCond .ne 6, 3) := by decide +kernel
theorem dX7_worked_20 : decode cX7_worked 20 = .ok (.ldc 149, 2) := by decide +kernel
theorem dX7_worked_22 : decode cX7_worked 22 = .ok (.ireturn, 1) := by decide +kernel
theorem dX7_worked_23 : decode cX7_worked 23 = .ok (.aload_n 0, 1) := by decide +kernel
theorem dX7_worked_24 : decode cX7_worked 24 = .ok (.aload_n 0, 1) := by decide +kernel
theorem dX7_worked_25 : decode cX7_worked 25 = .ok (.getfield 29, 3) := by decide +kernel
theorem dX7_worked_28 : decode cX7_worked 28 = .ok (.iload_n 1, 1) := by decide +kernel
theorem dX7_worked_29 : decode cX7_worked 29 = .ok (.iconst (-1), 1) := by decide +kernel
theorem dX7_worked_30 : decode cX7_worked 30 = .ok (.invokevirtual 102, 3) := by decide +kernel
theorem dX7_worked_33 : decode cX7_worked 33 = .ok (.ifCond .ge 7, 3) := by decide +kernel
theorem dX7_worked_36 : decode cX7_worked 36 = .ok (.iconst (-1), 1) := by decide +kernel
theorem dX7_worked_37 : decode cX7_worked 37 = .ok (.goto 23, 3) := by decide +kernel
theorem dX7_worked_40 : decode cX7_worked 40 = .ok (.sipush 256, 3) := by decide +kernel
theorem dX7_worked_43 : decode cX7_worked 43 = .ok (.aload_n 0, 1) := by decide +kernel
theorem dX7_worked_44 : decode cX7_worked 44 = .ok (.getfield 29, 3) := by decide +kernel
theorem dX7_worked_47 : decode cX7_worked 47 = .ok (.iload_n 2, 1) := by decide +kernel
theorem dX7_worked_48 : decode cX7_worked 48 = .ok (.iaload, 1) := by decide +kernel
theorem dX7_worked_49 : decode cX7_worked 49 = .ok (.imul, 1) := by decide +kernel
theorem dX7_worked_50 : decode cX7_worked 50 = .ok (.aload_n 0, 1) := by decide +kernel
theorem dX7_worked_51 : decode cX7_worked 51 = .ok (.getfield 29, 3) := by decide +kernel
theorem dX7_worked_54 : decode cX7_worked 54 = .ok (.bipush 10, 2) := by decide +kernel
theorem dX7_worked_56 : decode cX7_worked 56 = .ok (.iload_n 2, 1) := by decide +kernel
theorem dX7_worked_57 : decode cX7_worked 57 = .ok (.iadd, 1) := by decide +kernel
theorem dX7_worked_58 : decode cX7_worked 58 = .ok (.iaload, 1) := by decide +kernel
theorem dX7_worked_59 : decode cX7_worked 59 = .ok (.iadd, 1) := by decide +kernel
theorem dX7_worked_60 : decode cX7_worked 60 = .ok (.ireturn, 1) := by decide +kernel
theorem dX7_notes_0 : decode cX7_notes 0 = .ok (.aload_n 0, 1) := by decide +kernel
theorem dX7_notes_1 : decode cX7_notes 1 = .ok (.getfield 146, 3) := by decide +kernel
theorem dX7_notes_4 : decode cX7_notes 4 = .ok (.bipush 16, 2) := by decide +kernel
theorem dX7_notes_6 : decode cX7_notes 6 = .ok (.if_icmp .ne 44, 3) := by decide +kernel
theorem dX7_notes_9 : decode cX7_notes 9 = .ok (.iconst 0, 1) := by decide +kernel
theorem dX7_notes_10 : decode cX7_notes 10 = .ok (.istore_n 1, 1) := by decide +kernel
theorem dX7_notes_11 : decode cX7_notes 11 = .ok (.iload_n 1, 1) := by decide +kernel
theorem dX7_notes_12 : decode cX7_notes 12 = .ok (.sipush 5505, 3) := by decide +kernel
theorem dX7_notes_15 : decode cX7_notes 15 = .ok (.if_icmp .ge 25, 3) := by decide +kernel
theorem dX7_notes_18 : decode cX7_notes 18 = .ok (.aload_n 0, 1) := by decide +kernel
theorem dX7_notes_19 : decode cX7_notes 19 = .ok (.getfield 13, 3) := by decide +kernel
theorem dX7_notes_22 : decode cX7_notes 22 = .ok (.iload_n 1, 1) := by decide +kernel
theorem dX7_notes_23 : decode cX7_notes 23 = .ok (.aload_n 0, 1) := by decide +kernel
theorem dX7_notes_24 : decode cX7_notes 24 = .ok (.getfield 13, 3) := by decide +kernel
theorem dX7_notes_27 : decode cX7_notes 27 = .ok (.iload_n 1, 1) := by decide +kernel
theorem dX7_notes_28 : decode cX7_notes 28 = .ok (.sipush 367, 3) := by decide +kernel
theorem dX7_notes_31 : decode cX7_notes 31 = .ok (.iadd, 1) := by decide +kernel
theorem dX7_notes_32 : decode cX7_notes 32 = .ok (.iaload, 1) := by decide +kernel
theorem dX7_notes_33 : decode cX7_notes 33 = .ok (.iastore, 1) := by decide +kernel
theorem dX7_notes_34 : decode cX7_notes 34 = .ok (.iinc 1 1, 3) := by decide +kernel
theorem dX7_notes_37 : decode cX7_notes 37 = .ok (.goto (-26), 3) := by decide +kernel
theorem dX7_notes_40 : decode cX7_notes 40 = .ok (.aload_n 0, 1) := by decide +kernel
theorem dX7_notes_41 : decode cX7_notes 41 = .ok (.dup, 1) := by decide +kernel
theorem dX7_notes_42 : decode cX7_notes 42 = .ok (.getfield 146, 3) := by decide +kernel
theorem dX7_notes_45 : decode cX7_notes 45 = .ok (.iconst 1, 1) := by decide +kernel
theorem dX7_notes_46 : decode cX7_notes 46 = .ok (.isub, 1) := by decide +kernel
theorem dX7_notes_47 : decode cX7_notes 47 = .ok (.putfield 146, 3) := by decide +kernel
theorem dX7_notes_50 : decode cX7_notes 50 = .ok (.iconst 0, 1) := by decide +kernel
theorem dX7_notes_51 : decode cX7_notes 51 = .ok (.istore_n 1, 1) := by decide +kernel
theorem dX7_notes_52 : decode cX7_notes 52 = .ok (.iload_n 1, 1) := by decide +kernel
theorem dX7_notes_53 : decode cX7_notes 53 = .ok (.sipush 367, 3) := by decide +kernel
theorem dX7_notes_56 : decode cX7_notes 56 = .ok (.if_icmp .ge 30, 3) := by decide +kernel
theorem dX7_notes_59 : decode cX7_notes 59 = .ok (.aload_n 0, 1) := by decide +kernel
theorem dX7_notes_60 : decode cX7_notes 60 = .ok (.getfield 13, 3) := by decide +kernel
theorem dX7_notes_63 : decode cX7_notes 63 = .ok (.sipush 367, 3) := by decide +kernel
theorem dX7_notes_66 : decode cX7_notes 66 = .ok (.aload_n 0, 1) := by decide +kernel
theorem dX7_notes_67 : decode cX7_notes 67 = .ok (.getfield 146, 3) := by decide +kernel
theorem dX7_notes_70 : decode cX7_notes 70 = .ok (.imul, 1) := by decide +kernel
theorem dX7_notes_71 : decode cX7_notes 71 = .ok (.iload_n 1, 1) := by decide +kernel
theorem dX7_notes_72 : decode cX7_notes 72 = .ok (.iadd, 1) := by decide +kernel
theorem dX7_notes_73 : decode cX7_notes 73 = .ok (.aload_n 0, 1) := by decide +kernel
theorem dX7_notes_74 : decode cX7_notes 74 = .ok (.getfield 7, 3) := by decide +kernel
theorem dX7_notes_77 : decode cX7_notes 77 = .ok (.iload_n 1, 1) := by decide +kernel
theorem dX7_notes_78 : decode cX7_notes 78 = .ok (.iaload, 1) := by decide +kernel
theorem dX7_notes_79 : decode cX7_notes 79 = .ok (.iastore, 1) := by decide +kernel
theorem dX7_notes_80 : decode cX7_notes 80 = .ok (.iinc 1 1, 3) := by decide +kernel
theorem dX7_notes_83 : decode cX7_notes 83 = .ok (.goto (-31), 3) := by decide +kernel
theorem dX7_notes_86 : decode cX7_notes 86 = .ok (.aload_n 0, 1) := by decide +kernel
theorem dX7_notes_87 : decode cX7_notes 87 = .ok (.dup, 1) := by decide +kernel
theorem dX7_notes_88 : decode cX7_notes 88 = .ok (.getfield 146, 3) := by decide +kernel
theorem dX7_notes_91 : decode cX7_notes 91 = .ok (.iconst 1, 1) := by decide +kernel
theorem dX7_notes_92 : decode cX7_notes 92 = .ok (.iadd, 1) := by decide +kernel
theorem dX7_notes_93 : decode cX7_notes 93 = .ok (.putfield 146, 3) := by decide +kernel
theorem dX7_notes_96 : decode cX7_notes 96 = .ok (.return_, 1) := by decide +kernel
theorem dX7_builds_0 : decode cX7_builds 0 = .ok (.iconst 0, 1) := by decide +kernel
theorem dX7_builds_1 : decode cX7_builds 1 = .ok (.istore 4, 2) := by decide +kernel
theorem dX7_builds_3 : decode cX7_builds 3 = .ok (.iload 4, 2) := by decide +kernel
theorem dX7_builds_5 : decode cX7_builds 5 = .ok (.sipush 367, 3) := by decide +kernel
theorem dX7_builds_8 : decode cX7_builds 8 = .ok (.if_icmp .ge 17, 3) := by decide +kernel
theorem dX7_builds_11 : decode cX7_builds 11 = .ok (.aload_n 0, 1) := by decide +kernel
theorem dX7_builds_12 : decode cX7_builds 12 = .ok (.getfield 7, 3) := by decide +kernel
theorem dX7_builds_15 : decode cX7_builds 15 = .ok (.iload 4, 2) := by decide +kernel
theorem dX7_builds_17 : decode cX7_builds 17 = .ok (.iconst 0, 1) := by decide +kernel
theorem dX7_builds_18 : decode cX7_builds 18 = .ok (.iastore, 1) := by decide +kernel
theorem dX7_builds_19 : decode cX7_builds 19 = .ok (.iinc 4 1, 3) := by decide +kernel
theorem dX7_builds_22 : decode cX7_builds 22 = .ok (.goto (-19), 3) := by decide +kernel
theorem dX7_builds_25 : decode cX7_builds 25 = .ok (.aload_n 0, 1) := by decide +kernel
theorem dX7_builds_26 : decode cX7_builds 26 = .ok (.getfield 7, 3) := by decide +kernel
theorem dX7_builds_29 : decode cX7_builds 29 = .ok (.iconst 0, 1) := by decide +kernel
theorem dX7_builds_30 : decode cX7_builds 30 = .ok (.iload_n 1, 1) := by decide +kernel
theorem dX7_builds_31 : decode cX7_builds 31 = .ok (.iconst 2, 1) := by decide +kernel
theorem dX7_builds_32 : decode cX7_builds 32 = .ok (.if_icmp .ne 8, 3) := by decide +kernel
theorem dX7_builds_35 : decode cX7_builds 35 = .ok (.bipush 8, 2) := by decide +kernel
theorem dX7_builds_37 : decode cX7_builds 37 = .ok (.goto 4, 3) := by decide +kernel
theorem dX7_builds_40 : decode cX7_builds 40 = .ok (.iload_n 2, 1) := by decide +kernel
theorem dX7_builds_41 : decode cX7_builds 41 = .ok (.iastore, 1) := by decide +kernel
theorem dX7_builds_42 : decode cX7_builds 42 = .ok (.aload_n 0, 1) := by decide +kernel
theorem dX7_builds_43 : decode cX7_builds 43 = .ok (.getfield 7, 3) := by decide +kernel
theorem dX7_builds_46 : decode cX7_builds 46 = .ok (.iconst 1, 1) := by decide +kernel
theorem dX7_builds_47 : decode cX7_builds 47 = .ok (.iload_n 3, 1) := by decide +kernel
theorem dX7_builds_48 : decode cX7_builds 48 = .ok (.iastore, 1) := by decide +kernel
theorem dX7_builds_49 : decode cX7_builds 49 = .ok (.iconst 0, 1) := by decide +kernel
theorem dX7_builds_50 : decode cX7_builds 50 = .ok (.istore 4, 2) := by decide +kernel
theorem dX7_builds_52 : decode cX7_builds 52 = .ok (.iload 4, 2) := by decide +kernel
theorem dX7_builds_54 : decode cX7_builds 54 = .ok (.bipush 8, 2) := by decide +kernel
theorem dX7_builds_56 : decode cX7_builds 56 = .ok (.if_icmp .ge 103, 3) := by decide +kernel
theorem dX7_builds_59 : decode cX7_builds 59 = .ok (.iconst 0, 1) := by decide +kernel
theorem dX7_builds_60 : decode cX7_builds 60 = .ok (.istore 5, 2) := by decide +kernel
theorem dX7_builds_62 : decode cX7_builds 62 = .ok (.iload 5, 2) := by decide +kernel
theorem dX7_builds_64 : decode cX7_builds 64 = .ok (.bipush 8, 2) := by decide +kernel
theorem dX7_builds_66 : decode cX7_builds 66 = .ok (.if_icmp .ge 87, 3) := by decide +kernel
theorem dX7_builds_69 : decode cX7_builds 69 = .ok (.iload 4, 2) := by decide +kernel
theorem dX7_builds_71 : decode cX7_builds 71 = .ok (.iload 5, 2) := by decide +kernel
theorem dX7_builds_73 : decode cX7_builds 73 = .ok (.if_icmp .le 8, 3) := by decide +kernel
theorem dX7_builds_76 : decode cX7_builds 76 = .ok (.iload 4, 2) := by decide +kernel
theorem dX7_builds_78 : decode cX7_builds 78 = .ok (.goto 5, 3) := by decide +kernel
theorem dX7_builds_81 : decode cX7_builds 81 = .ok (.iload 5, 2) := by decide +kernel
theorem dX7_builds_83 : decode cX7_builds 83 = .ok (.istore 6, 2) := by decide +kernel
theorem dX7_builds_85 : decode cX7_builds 85 = .ok (.aload_n 0, 1) := by decide +kernel
theorem dX7_builds_86 : decode cX7_builds 86 = .ok (.getfield 7, 3) := by decide +kernel
theorem dX7_builds_89 : decode cX7_builds 89 = .ok (.iconst 3, 1) := by decide +kernel
theorem dX7_builds_90 : decode cX7_builds 90 = .ok (.bipush 8, 2) := by decide +kernel
theorem dX7_builds_92 : decode cX7_builds 92 = .ok (.iload 4, 2) := by decide +kernel
theorem dX7_builds_94 : decode cX7_builds 94 = .ok (.imul, 1) := by decide +kernel
theorem dX7_builds_95 : decode cX7_builds 95 = .ok (.iadd, 1) := by decide +kernel
theorem dX7_builds_96 : decode cX7_builds 96 = .ok (.iload 5, 2) := by decide +kernel
theorem dX7_builds_98 : decode cX7_builds 98 = .ok (.iadd, 1) := by decide +kernel
theorem dX7_builds_99 : decode cX7_builds 99 = .ok (.iload_n 1, 1) := by decide +kernel
theorem dX7_builds_100 : decode cX7_builds 100 = .ok (.iconst 2, 1) := by decide +kernel
theorem dX7_builds_101 : decode cX7_builds 101 = .ok (.if_icmp .ne 11, 3) := by decide +kernel
theorem dX7_builds_104 : decode cX7_builds 104 = .ok (.iload 4, 2) := by decide +kernel
theorem dX7_builds_106 : decode cX7_builds 106 = .ok (.iload 5, 2) := by decide +kernel
theorem dX7_builds_108 : decode cX7_builds 108 = .ok (.ior, 1) := by decide +kernel
theorem dX7_builds_109 : decode cX7_builds 109 = .ok (.goto 37, 3) := by decide +kernel
theorem dX7_builds_112 : decode cX7_builds 112 = .ok (.iload_n 1, 1) := by decide +kernel
theorem dX7_builds_113 : decode cX7_builds 113 = .ok (.ifCond .eq 20, 3) := by decide +kernel
theorem dX7_builds_116 : decode cX7_builds 116 = .ok (.iload 4, 2) := by decide +kernel
theorem dX7_builds_118 : decode cX7_builds 118 = .ok (.iload 5, 2) := by decide +kernel
theorem dX7_builds_120 : decode cX7_builds 120 = .ok (.if_icmp .eq 13, 3) := by decide +kernel
theorem dX7_builds_123 : decode cX7_builds 123 = .ok (.iload 4, 2) := by decide +kernel
theorem dX7_builds_125 : decode cX7_builds 125 = .ok (.ifCond .eq 8, 3) := by decide +kernel
theorem dX7_builds_128 : decode cX7_builds 128 = .ok (.iload 5, 2) := by decide +kernel
theorem dX7_builds_130 : decode cX7_builds 130 = .ok (.ifCond .ne 8, 3) := by decide +kernel
theorem dX7_builds_133 : decode cX7_builds 133 = .ok (.iload 6, 2) := by decide +kernel
theorem dX7_builds_135 : decode cX7_builds 135 = .ok (.goto 11, 3) := by decide +kernel
theorem dX7_builds_138 : decode cX7_builds 138 = .ok (.aload_n 0, 1) := by decide +kernel
theorem dX7_builds_139 : decode cX7_builds 139 = .ok (.getfield 7, 3) := by decide +kernel
theorem dX7_builds_142 : decode cX7_builds 142 = .ok (.iconst 0, 1) := by decide +kernel
theorem dX7_builds_143 : decode cX7_builds 143 = .ok (.iaload, 1) := by decide +kernel
theorem dX7_builds_144 : decode cX7_builds 144 = .ok (.iconst 1, 1) := by decide +kernel
theorem dX7_builds_145 : decode cX7_builds 145 = .ok (.isub, 1) := by decide +kernel
theorem dX7_builds_146 : decode cX7_builds 146 = .ok (.iastore, 1) := by decide +kernel
theorem dX7_builds_147 : decode cX7_builds 147 = .ok (.iinc 5 1, 3) := by decide +kernel
theorem dX7_builds_150 : decode cX7_builds 150 = .ok (.goto (-88), 3) := by decide +kernel
theorem dX7_builds_153 : decode cX7_builds 153 = .ok (.iinc 4 1, 3) := by decide +kernel
theorem dX7_builds_156 : decode cX7_builds 156 = .ok (.goto (-104), 3) := by decide +kernel
theorem dX7_builds_159 : decode cX7_builds 159 = .ok (.return_, 1) := by decide +kernel
theorem dX7_build_0 : decode cX7_build 0 = .ok (.iload_n 1, 1) := by decide +kernel
theorem dX7_build_1 : decode cX7_build 1 = .ok (.iconst 0, 1) := by decide +kernel
theorem dX7_build_2 : decode cX7_build 2 = .ok (.iconst 2, 1) := by decide +kernel
theorem dX7_build_3 : decode cX7_build 3 = .ok (.invokestatic 42, 3) := by decide +kernel
theorem dX7_build_6 : decode cX7_build 6 = .ok (.ifCond .eq 23, 3) := by decide +kernel
theorem dX7_build_9 : decode cX7_build 9 = .ok (.iload_n 2, 1) := by decide +kernel
theorem dX7_build_10 : decode cX7_build 10 = .ok (.iconst 1, 1) := by decide +kernel
theorem dX7_build_11 : decode cX7_build 11 = .ok (.bipush 8, 2) := by decide +kernel
theorem dX7_build_13 : decode cX7_build 13 = .ok (.invokestatic 42, 3) := by decide +kernel
theorem dX7_build_16 : decode cX7_build 16 = .ok (.ifCond .eq 13, 3) := by decide +kernel
theorem dX7_build_19 : decode cX7_build 19 = .ok (.iload_n 3, 1) := by decide +kernel
theorem dX7_build_20 : decode cX7_build 20 = .ok (.iconst 0, 1) := by decide +kernel
theorem dX7_build_21 : decode cX7_build 21 = .ok (.bipush 10, 2) := by decide +kernel
theorem dX7_build_23 : decode cX7_build 23 = .ok (.invokestatic 42, 3) := by decide +kernel
theorem dX7_build_26 : decode cX7_build 26 = .ok (.ifCond .ne 6, 3) := by decide +kernel
theorem dX7_build_29 : decode cX7_build 29 = .ok (.ldc 149, 2) := by decide +kernel
theorem dX7_build_31 : decode cX7_build 31 = .ok (.ireturn, 1) := by decide +kernel
theorem dX7_build_32 : decode cX7_build 32 = .ok (.aload_n 0, 1) := by decide +kernel
theorem dX7_build_33 : decode cX7_build 33 = .ok (.getfield 7, 3) := by decide +kernel
theorem dX7_build_36 : decode cX7_build 36 = .ok (.iconst 2, 1) := by decide +kernel
theorem dX7_build_37 : decode cX7_build 37 = .ok (.iaload, 1) := by decide +kernel
theorem dX7_build_38 : decode cX7_build 38 = .ok (.istore 4, 2) := by decide +kernel
theorem dX7_build_40 : decode cX7_build 40 = .ok (.aload_n 0, 1) := by decide +kernel
theorem dX7_build_41 : decode cX7_build 41 = .ok (.invokevirtual 166, 3) := by decide +kernel
theorem dX7_build_44 : decode cX7_build 44 = .ok (.aload_n 0, 1) := by decide +kernel
theorem dX7_build_45 : decode cX7_build 45 = .ok (.iload_n 1, 1) := by decide +kernel
theorem dX7_build_46 : decode cX7_build 46 = .ok (.iload_n 2, 1) := by decide +kernel
theorem dX7_build_47 : decode cX7_build 47 = .ok (.iload_n 3, 1) := by decide +kernel
theorem dX7_build_48 : decode cX7_build 48 = .ok (.invokevirtual 38, 3) := by decide +kernel
theorem dX7_build_51 : decode cX7_build 51 = .ok (.iload 4, 2) := by decide +kernel
theorem dX7_build_53 : decode cX7_build 53 = .ok (.ireturn, 1) := by decide +kernel
theorem dX7_cell_0 : decode cX7_cell 0 = .ok (.aload_n 0, 1) := by decide +kernel
theorem dX7_cell_1 : decode cX7_cell 1 = .ok (.iload_n 1, 1) := by decide +kernel
theorem dX7_cell_2 : decode cX7_cell 2 = .ok (.invokevirtual 150, 3) := by decide +kernel
theorem dX7_cell_5 : decode cX7_cell 5 = .ok (.ifCond .eq 19, 3) := by decide +kernel
theorem dX7_cell_8 : decode cX7_cell 8 = .ok (.aload_n 0, 1) := by decide +kernel
theorem dX7_cell_9 : decode cX7_cell 9 = .ok (.iload_n 2, 1) := by decide +kernel
theorem dX7_cell_10 : decode cX7_cell 10 = .ok (.invokevirtual 150, 3) := by decide +kernel
theorem dX7_cell_13 : decode cX7_cell 13 = .ok (.ifCond .eq 11, 3) := by decide +kernel
theorem dX7_cell_16 : decode cX7_cell 16 = .ok (.aload_n 0, 1) := by decide +kernel
theorem dX7_cell_17 : decode cX7_cell 17 = .ok (.iload_n 3, 1) := by decide +kernel
theorem dX7_cell_18 : decode cX7_cell 18 = .ok (.invokevirtual 150, 3) := by decide +kernel
theorem dX7_cell_21 : decode cX7_cell 21 = .ok (.ifCond .ne 6, 3) := by decide +kernel
theorem dX7_cell_24 : decode cX7_cell 24 = .ok (.ldc 153, 2) := by decide +kernel
theorem dX7_cell_26 : decode cX7_cell 26 = .ok (.ireturn, 1) := by decide +kernel
theorem dX7_cell_27 : decode cX7_cell 27 = .ok (.aload_n 0, 1) := by decide +kernel
theorem dX7_cell_28 : decode cX7_cell 28 = .ok (.invokevirtual 166, 3) := by decide +kernel
theorem dX7_cell_31 : decode cX7_cell 31 = .ok (.aload_n 0, 1) := by decide +kernel
theorem dX7_cell_32 : decode cX7_cell 32 = .ok (.getfield 7, 3) := by decide +kernel
theorem dX7_cell_35 : decode cX7_cell 35 = .ok (.iconst 3, 1) := by decide +kernel
theorem dX7_cell_36 : decode cX7_cell 36 = .ok (.bipush 8, 2) := by decide +kernel
theorem dX7_cell_38 : decode cX7_cell 38 = .ok (.iload_n 1, 1) := by decide +kernel
theorem dX7_cell_39 : decode cX7_cell 39 = .ok (.imul, 1) := by decide +kernel
theorem dX7_cell_40 : decode cX7_cell 40 = .ok (.iadd, 1) := by decide +kernel
theorem dX7_cell_41 : decode cX7_cell 41 = .ok (.iload_n 2, 1) := by decide +kernel
theorem dX7_cell_42 : decode cX7_cell 42 = .ok (.iadd, 1) := by decide +kernel
theorem dX7_cell_43 : decode cX7_cell 43 = .ok (.iload_n 3, 1) := by decide +kernel
theorem dX7_cell_44 : decode cX7_cell 44 = .ok (.iastore, 1) := by decide +kernel
theorem dX7_cell_45 : decode cX7_cell 45 = .ok (.aload_n 0, 1) := by decide +kernel
theorem dX7_cell_46 : decode cX7_cell 46 = .ok (.invokevirtual 65, 3) := by decide +kernel
theorem dX7_cell_49 : decode cX7_cell 49 = .ok (.ireturn, 1) := by decide +kernel
theorem dX7_start_0 : decode cX7_start 0 = .ok (.aload_n 0, 1) := by decide +kernel
theorem dX7_start_1 : decode cX7_start 1 = .ok (.iload_n 1, 1) := by decide +kernel
theorem dX7_start_2 : decode cX7_start 2 = .ok (.invokevirtual 131, 3) := by decide +kernel
theorem dX7_start_5 : decode cX7_start 5 = .ok (.ifCond .eq 11, 3) := by decide +kernel
theorem dX7_start_8 : decode cX7_start 8 = .ok (.aload_n 0, 1) := by decide +kernel
theorem dX7_start_9 : decode cX7_start 9 = .ok (.iload_n 2, 1) := by decide +kernel
theorem dX7_start_10 : decode cX7_start 10 = .ok (.invokevirtual 150, 3) := by decide +kernel
theorem dX7_start_13 : decode cX7_start 13 = .ok (.ifCond .ne 6, 3) := by decide +kernel
theorem dX7_start_16 : decode cX7_start 16 = .ok (.ldc 153, 2) := by decide +kernel
theorem dX7_start_18 : decode cX7_start 18 = .ok (.ireturn, 1) := by decide +kernel
theorem dX7_start_19 : decode cX7_start 19 = .ok (.iload_n 3, 1) := by decide +kernel
theorem dX7_start_20 : decode cX7_start 20 = .ok (.invokestatic 169, 3) := by decide +kernel
theorem dX7_start_23 : decode cX7_start 23 = .ok (.ifCond .ne 6, 3) := by decide +kernel
theorem dX7_start_26 : decode cX7_start 26 = .ok (.ldc 149, 2) := by decide +kernel
theorem dX7_start_28 : decode cX7_start 28 = .ok (.ireturn, 1) := by decide +kernel
theorem dX7_start_29 : decode cX7_start 29 = .ok (.aload_n 0, 1) := by decide +kernel
theorem dX7_start_30 : decode cX7_start 30 = .ok (.invokevirtual 166, 3) := by decide +kernel
theorem dX7_start_33 : decode cX7_start 33 = .ok (.aload_n 0, 1) := by decide +kernel
theorem dX7_start_34 : decode cX7_start 34 = .ok (.getfield 7, 3) := by decide +kernel
theorem dX7_start_37 : decode cX7_start 37 = .ok (.bipush 67, 2) := by decide +kernel
theorem dX7_start_39 : decode cX7_start 39 = .ok (.iload_n 1, 1) := by decide +kernel
theorem dX7_start_40 : decode cX7_start 40 = .ok (.iadd, 1) := by decide +kernel
theorem dX7_start_41 : decode cX7_start 41 = .ok (.iload_n 2, 1) := by decide +kernel
theorem dX7_start_42 : decode cX7_start 42 = .ok (.iastore, 1) := by decide +kernel
theorem dX7_start_43 : decode cX7_start 43 = .ok (.aload_n 0, 1) := by decide +kernel
theorem dX7_start_44 : decode cX7_start 44 = .ok (.getfield 7, 3) := by decide +kernel
theorem dX7_start_47 : decode cX7_start 47 = .ok (.bipush 77, 2) := by decide +kernel
theorem dX7_start_49 : decode cX7_start 49 = .ok (.iload_n 1, 1) := by decide +kernel
theorem dX7_start_50 : decode cX7_start 50 = .ok (.iadd, 1) := by decide +kernel
theorem dX7_start_51 : decode cX7_start 51 = .ok (.iload_n 3, 1) := by decide +kernel
theorem dX7_start_52 : decode cX7_start 52 = .ok (.iastore, 1) := by decide +kernel
theorem dX7_start_53 : decode cX7_start 53 = .ok (.iconst 1, 1) := by decide +kernel
theorem dX7_start_54 : decode cX7_start 54 = .ok (.ireturn, 1) := by decide +kernel
theorem dX7_comes_0 : decode cX7_comes 0 = .ok (.bipush 107, 2) := by decide +kernel
theorem dX7_comes_2 : decode cX7_comes 2 = .ok (.bipush 13, 2) := by decide +kernel
theorem dX7_comes_4 : decode cX7_comes 4 = .ok (.aload_n 0, 1) := by decide +kernel
theorem dX7_comes_5 : decode cX7_comes 5 = .ok (.getfield 7, 3) := by decide +kernel
theorem dX7_comes_8 : decode cX7_comes 8 = .ok (.iconst 2, 1) := by decide +kernel
theorem dX7_comes_9 : decode cX7_comes 9 = .ok (.iaload, 1) := by decide +kernel
theorem dX7_comes_10 : decode cX7_comes 10 = .ok (.imul, 1) := by decide +kernel
theorem dX7_comes_11 : decode cX7_comes 11 = .ok (.iadd, 1) := by decide +kernel
theorem dX7_comes_12 : decode cX7_comes 12 = .ok (.istore 6, 2) := by decide +kernel
theorem dX7_comes_14 : decode cX7_comes 14 = .ok (.aload_n 0, 1) := by decide +kernel
theorem dX7_comes_15 : decode cX7_comes 15 = .ok (.getfield 7, 3) := by decide +kernel
theorem dX7_comes_18 : decode cX7_comes 18 = .ok (.iload 6, 2) := by decide +kernel
theorem dX7_comes_20 : decode cX7_comes 20 = .ok (.iconst 0, 1) := by decide +kernel
theorem dX7_comes_21 : decode cX7_comes 21 = .ok (.iadd, 1) := by decide +kernel
theorem dX7_comes_22 : decode cX7_comes 22 = .ok (.iload_n 1, 1) := by decide +kernel
theorem dX7_comes_23 : decode cX7_comes 23 = .ok (.iastore, 1) := by decide +kernel
theorem dX7_comes_24 : decode cX7_comes 24 = .ok (.aload_n 0, 1) := by decide +kernel
theorem dX7_comes_25 : decode cX7_comes 25 = .ok (.getfield 7, 3) := by decide +kernel
theorem dX7_comes_28 : decode cX7_comes 28 = .ok (.iload 6, 2) := by decide +kernel
theorem dX7_comes_30 : decode cX7_comes 30 = .ok (.iconst 1, 1) := by decide +kernel
theorem dX7_comes_31 : decode cX7_comes 31 = .ok (.iadd, 1) := by decide +kernel
theorem dX7_comes_32 : decode cX7_comes 32 = .ok (.iload_n 2, 1) := by decide +kernel
theorem dX7_comes_33 : decode cX7_comes 33 = .ok (.iastore, 1) := by decide +kernel
theorem dX7_comes_34 : decode cX7_comes 34 = .ok (.aload_n 0, 1) := by decide +kernel
theorem dX7_comes_35 : decode cX7_comes 35 = .ok (.getfield 7, 3) := by decide +kernel
theorem dX7_comes_38 : decode cX7_comes 38 = .ok (.iload 6, 2) := by decide +kernel
theorem dX7_comes_40 : decode cX7_comes 40 = .ok (.iconst 2, 1) := by decide +kernel
theorem dX7_comes_41 : decode cX7_comes 41 = .ok (.iadd, 1) := by decide +kernel
theorem dX7_comes_42 : decode cX7_comes 42 = .ok (.iload_n 3, 1) := by decide +kernel
theorem dX7_comes_43 : decode cX7_comes 43 = .ok (.iastore, 1) := by decide +kernel
theorem dX7_comes_44 : decode cX7_comes 44 = .ok (.aload_n 0, 1) := by decide +kernel
theorem dX7_comes_45 : decode cX7_comes 45 = .ok (.getfield 7, 3) := by decide +kernel
theorem dX7_comes_48 : decode cX7_comes 48 = .ok (.iload 6, 2) := by decide +kernel
theorem dX7_comes_50 : decode cX7_comes 50 = .ok (.iconst 3, 1) := by decide +kernel
theorem dX7_comes_51 : decode cX7_comes 51 = .ok (.iadd, 1) := by decide +kernel
theorem dX7_comes_52 : decode cX7_comes 52 = .ok (.iload 4, 2) := by decide +kernel
theorem dX7_comes_54 : decode cX7_comes 54 = .ok (.iastore, 1) := by decide +kernel
theorem dX7_comes_55 : decode cX7_comes 55 = .ok (.aload_n 0, 1) := by decide +kernel
theorem dX7_comes_56 : decode cX7_comes 56 = .ok (.getfield 7, 3) := by decide +kernel
theorem dX7_comes_59 : decode cX7_comes 59 = .ok (.iload 6, 2) := by decide +kernel
theorem dX7_comes_61 : decode cX7_comes 61 = .ok (.iconst 4, 1) := by decide +kernel
theorem dX7_comes_62 : decode cX7_comes 62 = .ok (.iadd, 1) := by decide +kernel
theorem dX7_comes_63 : decode cX7_comes 63 = .ok (.iload 5, 2) := by decide +kernel
theorem dX7_comes_65 : decode cX7_comes 65 = .ok (.iastore, 1) := by decide +kernel
theorem dX7_comes_66 : decode cX7_comes 66 = .ok (.iconst 0, 1) := by decide +kernel
theorem dX7_comes_67 : decode cX7_comes 67 = .ok (.istore 7, 2) := by decide +kernel
theorem dX7_comes_69 : decode cX7_comes 69 = .ok (.iload 7, 2) := by decide +kernel
theorem dX7_comes_71 : decode cX7_comes 71 = .ok (.bipush 8, 2) := by decide +kernel
theorem dX7_comes_73 : decode cX7_comes 73 = .ok (.if_icmp .ge 23, 3) := by decide +kernel
theorem dX7_comes_76 : decode cX7_comes 76 = .ok (.aload_n 0, 1) := by decide +kernel
theorem dX7_comes_77 : decode cX7_comes 77 = .ok (.getfield 7, 3) := by decide +kernel
theorem dX7_comes_80 : decode cX7_comes 80 = .ok (.iload 6, 2) := by decide +kernel
theorem dX7_comes_82 : decode cX7_comes 82 = .ok (.iconst 5, 1) := by decide +kernel
theorem dX7_comes_83 : decode cX7_comes 83 = .ok (.iadd, 1) := by decide +kernel
theorem dX7_comes_84 : decode cX7_comes 84 = .ok (.iload 7, 2) := by decide +kernel
theorem dX7_comes_86 : decode cX7_comes 86 = .ok (.iadd, 1) := by decide +kernel
theorem dX7_comes_87 : decode cX7_comes 87 = .ok (.iload 7, 2) := by decide +kernel
theorem dX7_comes_89 : decode cX7_comes 89 = .ok (.iastore, 1) := by decide +kernel
theorem dX7_comes_90 : decode cX7_comes 90 = .ok (.iinc 7 1, 3) := by decide +kernel
theorem dX7_comes_93 : decode cX7_comes 93 = .ok (.goto (-24), 3) := by decide +kernel
theorem dX7_comes_96 : decode cX7_comes 96 = .ok (.aload_n 0, 1) := by decide +kernel
theorem dX7_comes_97 : decode cX7_comes 97 = .ok (.getfield 7, 3) := by decide +kernel
theorem dX7_comes_100 : decode cX7_comes 100 = .ok (.iconst 2, 1) := by decide +kernel
theorem dX7_comes_101 : decode cX7_comes 101 = .ok (.dup2, 1) := by decide +kernel
theorem dX7_comes_102 : decode cX7_comes 102 = .ok (.iaload, 1) := by decide +kernel
theorem dX7_comes_103 : decode cX7_comes 103 = .ok (.iconst 1, 1) := by decide +kernel
theorem dX7_comes_104 : decode cX7_comes 104 = .ok (.iadd, 1) := by decide +kernel
theorem dX7_comes_105 : decode cX7_comes 105 = .ok (.iastore, 1) := by decide +kernel
theorem dX7_comes_106 : decode cX7_comes 106 = .ok (.return_, 1) := by decide +kernel
theorem dX7_way_0 : decode cX7_way 0 = .ok (.aload_n 0, 1) := by decide +kernel
theorem dX7_way_1 : decode cX7_way 1 = .ok (.iload_n 1, 1) := by decide +kernel
theorem dX7_way_2 : decode cX7_way 2 = .ok (.invokevirtual 131, 3) := by decide +kernel
theorem dX7_way_5 : decode cX7_way 5 = .ok (.ifCond .eq 11, 3) := by decide +kernel
theorem dX7_way_8 : decode cX7_way 8 = .ok (.aload_n 0, 1) := by decide +kernel
theorem dX7_way_9 : decode cX7_way 9 = .ok (.iload_n 2, 1) := by decide +kernel
theorem dX7_way_10 : decode cX7_way 10 = .ok (.invokevirtual 131, 3) := by decide +kernel
theorem dX7_way_13 : decode cX7_way 13 = .ok (.ifCond .ne 6, 3) := by decide +kernel
theorem dX7_way_16 : decode cX7_way 16 = .ok (.ldc 153, 2) := by decide +kernel
theorem dX7_way_18 : decode cX7_way 18 = .ok (.ireturn, 1) := by decide +kernel
theorem dX7_way_19 : decode cX7_way 19 = .ok (.aload_n 0, 1) := by decide +kernel
theorem dX7_way_20 : decode cX7_way 20 = .ok (.getfield 7, 3) := by decide +kernel
theorem dX7_way_23 : decode cX7_way 23 = .ok (.iconst 2, 1) := by decide +kernel
theorem dX7_way_24 : decode cX7_way 24 = .ok (.iaload, 1) := by decide +kernel
theorem dX7_way_25 : decode cX7_way 25 = .ok (.bipush 20, 2) := by decide +kernel
theorem dX7_way_27 : decode cX7_way 27 = .ok (.if_icmp .ne 6, 3) := by decide +kernel
theorem dX7_way_30 : decode cX7_way 30 = .ok (.ldc 172, 2) := by decide +kernel
theorem dX7_way_32 : decode cX7_way 32 = .ok (.ireturn, 1) := by decide +kernel
theorem dX7_way_33 : decode cX7_way 33 = .ok (.aload_n 0, 1) := by decide +kernel
theorem dX7_way_34 : decode cX7_way 34 = .ok (.invokevirtual 166, 3) := by decide +kernel
theorem dX7_way_37 : decode cX7_way 37 = .ok (.aload_n 0, 1) := by decide +kernel
theorem dX7_way_38 : decode cX7_way 38 = .ok (.iload_n 1, 1) := by decide +kernel
theorem dX7_way_39 : decode cX7_way 39 = .ok (.iload_n 2, 1) := by decide +kernel
theorem dX7_way_40 : decode cX7_way 40 = .ok (.iconst 0, 1) := by decide +kernel
theorem dX7_way_41 : decode cX7_way 41 = .ok (.iconst 0, 1) := by decide +kernel
theorem dX7_way_42 : decode cX7_way 42 = .ok (.iconst 0, 1) := by decide +kernel
theorem dX7_way_43 : decode cX7_way 43 = .ok (.invokevirtual 173, 3) := by decide +kernel
theorem dX7_way_46 : decode cX7_way 46 = .ok (.aload_n 0, 1) := by decide +kernel
theorem dX7_way_47 : decode cX7_way 47 = .ok (.getfield 7, 3) := by decide +kernel
theorem dX7_way_50 : decode cX7_way 50 = .ok (.iconst 2, 1) := by decide +kernel
theorem dX7_way_51 : decode cX7_way 51 = .ok (.iaload, 1) := by decide +kernel
theorem dX7_way_52 : decode cX7_way 52 = .ok (.iconst 1, 1) := by decide +kernel
theorem dX7_way_53 : decode cX7_way 53 = .ok (.isub, 1) := by decide +kernel
theorem dX7_way_54 : decode cX7_way 54 = .ok (.ireturn, 1) := by decide +kernel
theorem dX7_drop_0 : decode cX7_drop 0 = .ok (.aload_n 0, 1) := by decide +kernel
theorem dX7_drop_1 : decode cX7_drop 1 = .ok (.iload_n 1, 1) := by decide +kernel
theorem dX7_drop_2 : decode cX7_drop 2 = .ok (.invokevirtual 160, 3) := by decide +kernel
theorem dX7_drop_5 : decode cX7_drop 5 = .ok (.ifCond .ne 6, 3) := by decide +kernel
theorem dX7_drop_8 : decode cX7_drop 8 = .ok (.ldc 153, 2) := by decide +kernel
theorem dX7_drop_10 : decode cX7_drop 10 = .ok (.ireturn, 1) := by decide +kernel
theorem dX7_drop_11 : decode cX7_drop 11 = .ok (.aload_n 0, 1) := by decide +kernel
theorem dX7_drop_12 : decode cX7_drop 12 = .ok (.invokevirtual 166, 3) := by decide +kernel
theorem dX7_drop_15 : decode cX7_drop 15 = .ok (.bipush 107, 2) := by decide +kernel
theorem dX7_drop_17 : decode cX7_drop 17 = .ok (.bipush 13, 2) := by decide +kernel
theorem dX7_drop_19 : decode cX7_drop 19 = .ok (.iload_n 1, 1) := by decide +kernel
theorem dX7_drop_20 : decode cX7_drop 20 = .ok (.imul, 1) := by decide +kernel
theorem dX7_drop_21 : decode cX7_drop 21 = .ok (.iadd, 1) := by decide +kernel
theorem dX7_drop_22 : decode cX7_drop 22 = .ok (.istore_n 2, 1) := by decide +kernel
theorem dX7_drop_23 : decode cX7_drop 23 = .ok (.iload_n 2, 1) := by decide +kernel
theorem dX7_drop_24 : decode cX7_drop 24 = .ok (.bipush 13, 2) := by decide +kernel
theorem dX7_drop_26 : decode cX7_drop 26 = .ok (.iadd, 1) := by decide +kernel
theorem dX7_drop_27 : decode cX7_drop 27 = .ok (.sipush 367, 3) := by decide +kernel
theorem dX7_drop_30 : decode cX7_drop 30 = .ok (.if_icmp .ge 24, 3) := by decide +kernel
theorem dX7_drop_33 : decode cX7_drop 33 = .ok (.aload_n 0, 1) := by decide +kernel
theorem dX7_drop_34 : decode cX7_drop 34 = .ok (.getfield 7, 3) := by decide +kernel
theorem dX7_drop_37 : decode cX7_drop 37 = .ok (.iload_n 2, 1) := by decide +kernel
theorem dX7_drop_38 : decode cX7_drop 38 = .ok (.aload_n 0, 1) := by decide +kernel
theorem dX7_drop_39 : decode cX7_drop 39 = .ok (.getfield 7, 3) := by decide +kernel
theorem dX7_drop_42 : decode cX7_drop 42 = .ok (.iload_n 2, 1) := by decide +kernel
theorem dX7_drop_43 : decode cX7_drop 43 = .ok (.bipush 13, 2) := by decide +kernel
theorem dX7_drop_45 : decode cX7_drop 45 = .ok (.iadd, 1) := by decide +kernel
theorem dX7_drop_46 : decode cX7_drop 46 = .ok (.iaload, 1) := by decide +kernel
theorem dX7_drop_47 : decode cX7_drop 47 = .ok (.iastore, 1) := by decide +kernel
theorem dX7_drop_48 : decode cX7_drop 48 = .ok (.iinc 2 1, 3) := by decide +kernel
theorem dX7_drop_51 : decode cX7_drop 51 = .ok (.goto (-28), 3) := by decide +kernel
theorem dX7_drop_54 : decode cX7_drop 54 = .ok (.aload_n 0, 1) := by decide +kernel
theorem dX7_drop_55 : decode cX7_drop 55 = .ok (.getfield 7, 3) := by decide +kernel
theorem dX7_drop_58 : decode cX7_drop 58 = .ok (.iconst 2, 1) := by decide +kernel
theorem dX7_drop_59 : decode cX7_drop 59 = .ok (.dup2, 1) := by decide +kernel
theorem dX7_drop_60 : decode cX7_drop 60 = .ok (.iaload, 1) := by decide +kernel
theorem dX7_drop_61 : decode cX7_drop 61 = .ok (.iconst 1, 1) := by decide +kernel
theorem dX7_drop_62 : decode cX7_drop 62 = .ok (.isub, 1) := by decide +kernel
theorem dX7_drop_63 : decode cX7_drop 63 = .ok (.iastore, 1) := by decide +kernel
theorem dX7_drop_64 : decode cX7_drop 64 = .ok (.aload_n 0, 1) := by decide +kernel
theorem dX7_drop_65 : decode cX7_drop 65 = .ok (.getfield 7, 3) := by decide +kernel
theorem dX7_drop_68 : decode cX7_drop 68 = .ok (.iconst 2, 1) := by decide +kernel
theorem dX7_drop_69 : decode cX7_drop 69 = .ok (.iaload, 1) := by decide +kernel
theorem dX7_drop_70 : decode cX7_drop 70 = .ok (.ireturn, 1) := by decide +kernel
theorem dX7_map_0 : decode cX7_map 0 = .ok (.aload_n 0, 1) := by decide +kernel
theorem dX7_map_1 : decode cX7_map 1 = .ok (.iload_n 1, 1) := by decide +kernel
theorem dX7_map_2 : decode cX7_map 2 = .ok (.invokevirtual 160, 3) := by decide +kernel
theorem dX7_map_5 : decode cX7_map 5 = .ok (.ifCond .eq 19, 3) := by decide +kernel
theorem dX7_map_8 : decode cX7_map 8 = .ok (.aload_n 0, 1) := by decide +kernel
theorem dX7_map_9 : decode cX7_map 9 = .ok (.iload_n 2, 1) := by decide +kernel
theorem dX7_map_10 : decode cX7_map 10 = .ok (.invokevirtual 150, 3) := by decide +kernel
theorem dX7_map_13 : decode cX7_map 13 = .ok (.ifCond .eq 11, 3) := by decide +kernel
theorem dX7_map_16 : decode cX7_map 16 = .ok (.aload_n 0, 1) := by decide +kernel
theorem dX7_map_17 : decode cX7_map 17 = .ok (.iload_n 3, 1) := by decide +kernel
theorem dX7_map_18 : decode cX7_map 18 = .ok (.invokevirtual 150, 3) := by decide +kernel
theorem dX7_map_21 : decode cX7_map 21 = .ok (.ifCond .ne 6, 3) := by decide +kernel
theorem dX7_map_24 : decode cX7_map 24 = .ok (.ldc 153, 2) := by decide +kernel
theorem dX7_map_26 : decode cX7_map 26 = .ok (.ireturn, 1) := by decide +kernel
theorem dX7_map_27 : decode cX7_map 27 = .ok (.aload_n 0, 1) := by decide +kernel
theorem dX7_map_28 : decode cX7_map 28 = .ok (.invokevirtual 166, 3) := by decide +kernel
theorem dX7_map_31 : decode cX7_map 31 = .ok (.aload_n 0, 1) := by decide +kernel
theorem dX7_map_32 : decode cX7_map 32 = .ok (.iload_n 1, 1) := by decide +kernel
theorem dX7_map_33 : decode cX7_map 33 = .ok (.iconst 5, 1) := by decide +kernel
theorem dX7_map_34 : decode cX7_map 34 = .ok (.iload_n 2, 1) := by decide +kernel
theorem dX7_map_35 : decode cX7_map 35 = .ok (.iadd, 1) := by decide +kernel
theorem dX7_map_36 : decode cX7_map 36 = .ok (.invokevirtual 58, 3) := by decide +kernel
theorem dX7_map_39 : decode cX7_map 39 = .ok (.istore 4, 2) := by decide +kernel
theorem dX7_map_41 : decode cX7_map 41 = .ok (.aload_n 0, 1) := by decide +kernel
theorem dX7_map_42 : decode cX7_map 42 = .ok (.getfield 7, 3) := by decide +kernel
theorem dX7_map_45 : decode cX7_map 45 = .ok (.bipush 107, 2) := by decide +kernel
theorem dX7_map_47 : decode cX7_map 47 = .ok (.bipush 13, 2) := by decide +kernel
theorem dX7_map_49 : decode cX7_map 49 = .ok (.iload_n 1, 1) := by decide +kernel
theorem dX7_map_50 : decode cX7_map 50 = .ok (.imul, 1) := by decide +kernel
theorem dX7_map_51 : decode cX7_map 51 = .ok (.iadd, 1) := by decide +kernel
theorem dX7_map_52 : decode cX7_map 52 = .ok (.iconst 5, 1) := by decide +kernel
theorem dX7_map_53 : decode cX7_map 53 = .ok (.iadd, 1) := by decide +kernel
theorem dX7_map_54 : decode cX7_map 54 = .ok (.iload_n 2, 1) := by decide +kernel
theorem dX7_map_55 : decode cX7_map 55 = .ok (.iadd, 1) := by decide +kernel
theorem dX7_map_56 : decode cX7_map 56 = .ok (.iload_n 3, 1) := by decide +kernel
theorem dX7_map_57 : decode cX7_map 57 = .ok (.iastore, 1) := by decide +kernel
theorem dX7_map_58 : decode cX7_map 58 = .ok (.iload 4, 2) := by decide +kernel
theorem dX7_map_60 : decode cX7_map 60 = .ok (.ireturn, 1) := by decide +kernel
theorem dX7_marks_0 : decode cX7_marks 0 = .ok (.aload_n 0, 1) := by decide +kernel
theorem dX7_marks_1 : decode cX7_marks 1 = .ok (.iload_n 1, 1) := by decide +kernel
theorem dX7_marks_2 : decode cX7_marks 2 = .ok (.invokevirtual 160, 3) := by decide +kernel
theorem dX7_marks_5 : decode cX7_marks 5 = .ok (.ifCond .ne 6, 3) := by decide +kernel
theorem dX7_marks_8 : decode cX7_marks 8 = .ok (.ldc 153, 2) := by decide +kernel
theorem dX7_marks_10 : decode cX7_marks 10 = .ok (.ireturn, 1) := by decide +kernel
theorem dX7_marks_11 : decode cX7_marks 11 = .ok (.iload_n 2, 1) := by decide +kernel
theorem dX7_marks_12 : decode cX7_marks 12 = .ok (.invokestatic 169, 3) := by decide +kernel
theorem dX7_marks_15 : decode cX7_marks 15 = .ok (.ifCond .eq 10, 3) := by decide +kernel
theorem dX7_marks_18 : decode cX7_marks 18 = .ok (.iload_n 3, 1) := by decide +kernel
theorem dX7_marks_19 : decode cX7_marks 19 = .ok (.invokestatic 169, 3) := by decide +kernel
theorem dX7_marks_22 : decode cX7_marks 22 = .ok (.ifCond .ne 6, 3) := by decide +kernel
theorem dX7_marks_25 : decode cX7_marks 25 = .ok (.ldc 149, 2) := by decide +kernel
theorem dX7_marks_27 : decode cX7_marks 27 = .ok (.ireturn, 1) := by decide +kernel
theorem dX7_marks_28 : decode cX7_marks 28 = .ok (.aload_n 0, 1) := by decide +kernel
theorem dX7_marks_29 : decode cX7_marks 29 = .ok (.invokevirtual 166, 3) := by decide +kernel
theorem dX7_marks_32 : decode cX7_marks 32 = .ok (.aload_n 0, 1) := by decide +kernel
theorem dX7_marks_33 : decode cX7_marks 33 = .ok (.getfield 7, 3) := by decide +kernel
theorem dX7_marks_36 : decode cX7_marks 36 = .ok (.bipush 107, 2) := by decide +kernel
theorem dX7_marks_38 : decode cX7_marks 38 = .ok (.bipush 13, 2) := by decide +kernel
theorem dX7_marks_40 : decode cX7_marks 40 = .ok (.iload_n 1, 1) := by decide +kernel
theorem dX7_marks_41 : decode cX7_marks 41 = .ok (.imul, 1) := by decide +kernel
theorem dX7_marks_42 : decode cX7_marks 42 = .ok (.iadd, 1) := by decide +kernel
theorem dX7_marks_43 : decode cX7_marks 43 = .ok (.iconst 2, 1) := by decide +kernel
theorem dX7_marks_44 : decode cX7_marks 44 = .ok (.iadd, 1) := by decide +kernel
theorem dX7_marks_45 : decode cX7_marks 45 = .ok (.iload_n 2, 1) := by decide +kernel
theorem dX7_marks_46 : decode cX7_marks 46 = .ok (.iastore, 1) := by decide +kernel
theorem dX7_marks_47 : decode cX7_marks 47 = .ok (.aload_n 0, 1) := by decide +kernel
theorem dX7_marks_48 : decode cX7_marks 48 = .ok (.getfield 7, 3) := by decide +kernel
theorem dX7_marks_51 : decode cX7_marks 51 = .ok (.bipush 107, 2) := by decide +kernel
theorem dX7_marks_53 : decode cX7_marks 53 = .ok (.bipush 13, 2) := by decide +kernel
theorem dX7_marks_55 : decode cX7_marks 55 = .ok (.iload_n 1, 1) := by decide +kernel
theorem dX7_marks_56 : decode cX7_marks 56 = .ok (.imul, 1) := by decide +kernel
theorem dX7_marks_57 : decode cX7_marks 57 = .ok (.iadd, 1) := by decide +kernel
theorem dX7_marks_58 : decode cX7_marks 58 = .ok (.iconst 3, 1) := by decide +kernel
theorem dX7_marks_59 : decode cX7_marks 59 = .ok (.iadd, 1) := by decide +kernel
theorem dX7_marks_60 : decode cX7_marks 60 = .ok (.iload_n 3, 1) := by decide +kernel
theorem dX7_marks_61 : decode cX7_marks 61 = .ok (.iastore, 1) := by decide +kernel
theorem dX7_marks_62 : decode cX7_marks 62 = .ok (.iconst 1, 1) := by decide +kernel
theorem dX7_marks_63 : decode cX7_marks 63 = .ok (.ireturn, 1) := by decide +kernel
theorem dX7_gate_0 : decode cX7_gate 0 = .ok (.aload_n 0, 1) := by decide +kernel
theorem dX7_gate_1 : decode cX7_gate 1 = .ok (.iload_n 1, 1) := by decide +kernel
theorem dX7_gate_2 : decode cX7_gate 2 = .ok (.invokevirtual 160, 3) := by decide +kernel
theorem dX7_gate_5 : decode cX7_gate 5 = .ok (.ifCond .eq 11, 3) := by decide +kernel
theorem dX7_gate_8 : decode cX7_gate 8 = .ok (.aload_n 0, 1) := by decide +kernel
theorem dX7_gate_9 : decode cX7_gate 9 = .ok (.iload_n 2, 1) := by decide +kernel
theorem dX7_gate_10 : decode cX7_gate 10 = .ok (.invokevirtual 150, 3) := by decide +kernel
theorem dX7_gate_13 : decode cX7_gate 13 = .ok (.ifCond .ne 6, 3) := by decide +kernel
theorem dX7_gate_16 : decode cX7_gate 16 = .ok (.ldc 153, 2) := by decide +kernel
theorem dX7_gate_18 : decode cX7_gate 18 = .ok (.ireturn, 1) := by decide +kernel
theorem dX7_gate_19 : decode cX7_gate 19 = .ok (.aload_n 0, 1) := by decide +kernel
theorem dX7_gate_20 : decode cX7_gate 20 = .ok (.invokevirtual 166, 3) := by decide +kernel
theorem dX7_gate_23 : decode cX7_gate 23 = .ok (.aload_n 0, 1) := by decide +kernel
theorem dX7_gate_24 : decode cX7_gate 24 = .ok (.iload_n 1, 1) := by decide +kernel
theorem dX7_gate_25 : decode cX7_gate 25 = .ok (.iconst 4, 1) := by decide +kernel
theorem dX7_gate_26 : decode cX7_gate 26 = .ok (.invokevirtual 58, 3) := by decide +kernel
theorem dX7_gate_29 : decode cX7_gate 29 = .ok (.istore_n 3, 1) := by decide +kernel
theorem dX7_gate_30 : decode cX7_gate 30 = .ok (.aload_n 0, 1) := by decide +kernel
theorem dX7_gate_31 : decode cX7_gate 31 = .ok (.getfield 7, 3) := by decide +kernel
theorem dX7_gate_34 : decode cX7_gate 34 = .ok (.bipush 107, 2) := by decide +kernel
theorem dX7_gate_36 : decode cX7_gate 36 = .ok (.bipush 13, 2) := by decide +kernel
theorem dX7_gate_38 : decode cX7_gate 38 = .ok (.iload_n 1, 1) := by decide +kernel
theorem dX7_gate_39 : decode cX7_gate 39 = .ok (.imul, 1) := by decide +kernel
theorem dX7_gate_40 : decode cX7_gate 40 = .ok (.iadd, 1) := by decide +kernel
theorem dX7_gate_41 : decode cX7_gate 41 = .ok (.iconst 4, 1) := by decide +kernel
theorem dX7_gate_42 : decode cX7_gate 42 = .ok (.iadd, 1) := by decide +kernel
theorem dX7_gate_43 : decode cX7_gate 43 = .ok (.iload_n 2, 1) := by decide +kernel
theorem dX7_gate_44 : decode cX7_gate 44 = .ok (.iastore, 1) := by decide +kernel
theorem dX7_gate_45 : decode cX7_gate 45 = .ok (.iload_n 3, 1) := by decide +kernel
theorem dX7_gate_46 : decode cX7_gate 46 = .ok (.ireturn, 1) := by decide +kernel
theorem dX7_write_0 : decode cX7_write 0 = .ok (.aload_n 0, 1) := by decide +kernel
theorem dX7_write_1 : decode cX7_write 1 = .ok (.iload_n 1, 1) := by decide +kernel
theorem dX7_write_2 : decode cX7_write 2 = .ok (.invokevirtual 131, 3) := by decide +kernel
theorem dX7_write_5 : decode cX7_write 5 = .ok (.ifCond .eq 11, 3) := by decide +kernel
theorem dX7_write_8 : decode cX7_write 8 = .ok (.aload_n 0, 1) := by decide +kernel
theorem dX7_write_9 : decode cX7_write 9 = .ok (.iload_n 2, 1) := by decide +kernel
theorem dX7_write_10 : decode cX7_write 10 = .ok (.invokevirtual 150, 3) := by decide +kernel
theorem dX7_write_13 : decode cX7_write 13 = .ok (.ifCond .ne 6, 3) := by decide +kernel
theorem dX7_write_16 : decode cX7_write 16 = .ok (.ldc 153, 2) := by decide +kernel
theorem dX7_write_18 : decode cX7_write 18 = .ok (.ireturn, 1) := by decide +kernel
theorem dX7_write_19 : decode cX7_write 19 = .ok (.iload_n 3, 1) := by decide +kernel
theorem dX7_write_20 : decode cX7_write 20 = .ok (.invokestatic 169, 3) := by decide +kernel
theorem dX7_write_23 : decode cX7_write 23 = .ok (.ifCond .ne 6, 3) := by decide +kernel
theorem dX7_write_26 : decode cX7_write 26 = .ok (.ldc 149, 2) := by decide +kernel
theorem dX7_write_28 : decode cX7_write 28 = .ok (.ireturn, 1) := by decide +kernel
theorem dX7_write_29 : decode cX7_write 29 = .ok (.aload_n 0, 1) := by decide +kernel
theorem dX7_write_30 : decode cX7_write 30 = .ok (.iload_n 1, 1) := by decide +kernel
theorem dX7_write_31 : decode cX7_write 31 = .ok (.invokevirtual 109, 3) := by decide +kernel
theorem dX7_write_34 : decode cX7_write 34 = .ok (.ifCond .ne 6, 3) := by decide +kernel
theorem dX7_write_37 : decode cX7_write 37 = .ok (.ldc 177, 2) := by decide +kernel
theorem dX7_write_39 : decode cX7_write 39 = .ok (.ireturn, 1) := by decide +kernel
theorem dX7_write_40 : decode cX7_write 40 = .ok (.aload_n 0, 1) := by decide +kernel
theorem dX7_write_41 : decode cX7_write 41 = .ok (.invokevirtual 166, 3) := by decide +kernel
theorem dX7_write_44 : decode cX7_write 44 = .ok (.aload_n 0, 1) := by decide +kernel
theorem dX7_write_45 : decode cX7_write 45 = .ok (.getfield 7, 3) := by decide +kernel
theorem dX7_write_48 : decode cX7_write 48 = .ok (.bipush 87, 2) := by decide +kernel
theorem dX7_write_50 : decode cX7_write 50 = .ok (.iload_n 1, 1) := by decide +kernel
theorem dX7_write_51 : decode cX7_write 51 = .ok (.iadd, 1) := by decide +kernel
theorem dX7_write_52 : decode cX7_write 52 = .ok (.iload_n 2, 1) := by decide +kernel
theorem dX7_write_53 : decode cX7_write 53 = .ok (.iastore, 1) := by decide +kernel
theorem dX7_write_54 : decode cX7_write 54 = .ok (.aload_n 0, 1) := by decide +kernel
theorem dX7_write_55 : decode cX7_write 55 = .ok (.getfield 7, 3) := by decide +kernel
theorem dX7_write_58 : decode cX7_write 58 = .ok (.bipush 97, 2) := by decide +kernel
theorem dX7_write_60 : decode cX7_write 60 = .ok (.iload_n 1, 1) := by decide +kernel
theorem dX7_write_61 : decode cX7_write 61 = .ok (.iadd, 1) := by decide +kernel
theorem dX7_write_62 : decode cX7_write 62 = .ok (.iload_n 3, 1) := by decide +kernel
theorem dX7_write_63 : decode cX7_write 63 = .ok (.iastore, 1) := by decide +kernel
theorem dX7_write_64 : decode cX7_write 64 = .ok (.aload_n 0, 1) := by decide +kernel
theorem dX7_write_65 : decode cX7_write 65 = .ok (.invokevirtual 125, 3) := by decide +kernel
theorem dX7_write_68 : decode cX7_write 68 = .ok (.ireturn, 1) := by decide +kernel
theorem dX7_copy_0 : decode cX7_copy 0 = .ok (.aload_n 0, 1) := by decide +kernel
theorem dX7_copy_1 : decode cX7_copy 1 = .ok (.invokevirtual 121, 3) := by decide +kernel
theorem dX7_copy_4 : decode cX7_copy 4 = .ok (.ifCond .eq 16, 3) := by decide +kernel
theorem dX7_copy_7 : decode cX7_copy 7 = .ok (.aload_n 0, 1) := by decide +kernel
theorem dX7_copy_8 : decode cX7_copy 8 = .ok (.aload_n 0, 1) := by decide +kernel
theorem dX7_copy_9 : decode cX7_copy 9 = .ok (.getfield 26, 3) := by decide +kernel
theorem dX7_copy_12 : decode cX7_copy 12 = .ok (.iconst 0, 1) := by decide +kernel
theorem dX7_copy_13 : decode cX7_copy 13 = .ok (.iconst (-1), 1) := by decide +kernel
theorem dX7_copy_14 : decode cX7_copy 14 = .ok (.invokevirtual 102, 3) := by decide +kernel
theorem dX7_copy_17 : decode cX7_copy 17 = .ok (.ifCond .ge 6, 3) := by decide +kernel
theorem dX7_copy_20 : decode cX7_copy 20 = .ok (.ldc 177, 2) := by decide +kernel
theorem dX7_copy_22 : decode cX7_copy 22 = .ok (.ireturn, 1) := by decide +kernel
theorem dX7_copy_23 : decode cX7_copy 23 = .ok (.aload_n 0, 1) := by decide +kernel
theorem dX7_copy_24 : decode cX7_copy 24 = .ok (.invokevirtual 166, 3) := by decide +kernel
theorem dX7_copy_27 : decode cX7_copy 27 = .ok (.iconst 0, 1) := by decide +kernel
theorem dX7_copy_28 : decode cX7_copy 28 = .ok (.istore_n 1, 1) := by decide +kernel
theorem dX7_copy_29 : decode cX7_copy 29 = .ok (.iconst 0, 1) := by decide +kernel
theorem dX7_copy_30 : decode cX7_copy 30 = .ok (.istore_n 2, 1) := by decide +kernel
theorem dX7_copy_31 : decode cX7_copy 31 = .ok (.iload_n 2, 1) := by decide +kernel
theorem dX7_copy_32 : decode cX7_copy 32 = .ok (.aload_n 0, 1) := by decide +kernel
theorem dX7_copy_33 : decode cX7_copy 33 = .ok (.getfield 7, 3) := by decide +kernel
theorem dX7_copy_36 : decode cX7_copy 36 = .ok (.iconst 1, 1) := by decide +kernel
theorem dX7_copy_37 : decode cX7_copy 37 = .ok (.iaload, 1) := by decide +kernel
theorem dX7_copy_38 : decode cX7_copy 38 = .ok (.if_icmp .ge 53, 3) := by decide +kernel
theorem dX7_copy_41 : decode cX7_copy 41 = .ok (.aload_n 0, 1) := by decide +kernel
theorem dX7_copy_42 : decode cX7_copy 42 = .ok (.iload_n 2, 1) := by decide +kernel
theorem dX7_copy_43 : decode cX7_copy 43 = .ok (.invokevirtual 109, 3) := by decide +kernel
theorem dX7_copy_46 : decode cX7_copy 46 = .ok (.ifCond .eq 39, 3) := by decide +kernel
theorem dX7_copy_49 : decode cX7_copy 49 = .ok (.aload_n 0, 1) := by decide +kernel
theorem dX7_copy_50 : decode cX7_copy 50 = .ok (.getfield 7, 3) := by decide +kernel
theorem dX7_copy_53 : decode cX7_copy 53 = .ok (.bipush 87, 2) := by decide +kernel
theorem dX7_copy_55 : decode cX7_copy 55 = .ok (.iload_n 2, 1) := by decide +kernel
theorem dX7_copy_56 : decode cX7_copy 56 = .ok (.iadd, 1) := by decide +kernel
theorem dX7_copy_57 : decode cX7_copy 57 = .ok (.aload_n 0, 1) := by decide +kernel
theorem dX7_copy_58 : decode cX7_copy 58 = .ok (.getfield 26, 3) := by decide +kernel
theorem dX7_copy_61 : decode cX7_copy 61 = .ok (.iload_n 2, 1) := by decide +kernel
theorem dX7_copy_62 : decode cX7_copy 62 = .ok (.iaload, 1) := by decide +kernel
theorem dX7_copy_63 : decode cX7_copy 63 = .ok (.iastore, 1) := by decide +kernel
theorem dX7_copy_64 : decode cX7_copy 64 = .ok (.aload_n 0, 1) := by decide +kernel
theorem dX7_copy_65 : decode cX7_copy 65 = .ok (.getfield 7, 3) := by decide +kernel
theorem dX7_copy_68 : decode cX7_copy 68 = .ok (.bipush 97, 2) := by decide +kernel
theorem dX7_copy_70 : decode cX7_copy 70 = .ok (.iload_n 2, 1) := by decide +kernel
theorem dX7_copy_71 : decode cX7_copy 71 = .ok (.iadd, 1) := by decide +kernel
theorem dX7_copy_72 : decode cX7_copy 72 = .ok (.aload_n 0, 1) := by decide +kernel
theorem dX7_copy_73 : decode cX7_copy 73 = .ok (.getfield 26, 3) := by decide +kernel
theorem dX7_copy_76 : decode cX7_copy 76 = .ok (.bipush 10, 2) := by decide +kernel
theorem dX7_copy_78 : decode cX7_copy 78 = .ok (.iload_n 2, 1) := by decide +kernel
theorem dX7_copy_79 : decode cX7_copy 79 = .ok (.iadd, 1) := by decide +kernel
theorem dX7_copy_80 : decode cX7_copy 80 = .ok (.iaload, 1) := by decide +kernel
theorem dX7_copy_81 : decode cX7_copy 81 = .ok (.iastore, 1) := by decide +kernel
theorem dX7_copy_82 : decode cX7_copy 82 = .ok (.iinc 1 1, 3) := by decide +kernel
theorem dX7_copy_85 : decode cX7_copy 85 = .ok (.iinc 2 1, 3) := by decide +kernel
theorem dX7_copy_88 : decode cX7_copy 88 = .ok (.goto (-57), 3) := by decide +kernel
theorem dX7_copy_91 : decode cX7_copy 91 = .ok (.iload_n 1, 1) := by decide +kernel
theorem dX7_copy_92 : decode cX7_copy 92 = .ok (.ireturn, 1) := by decide +kernel
theorem dX7_draw_0 : decode cX7_draw 0 = .ok (.aload_n 0, 1) := by decide +kernel
theorem dX7_draw_1 : decode cX7_draw 1 = .ok (.aload_n 0, 1) := by decide +kernel
theorem dX7_draw_2 : decode cX7_draw 2 = .ok (.getfield 178, 3) := by decide +kernel
theorem dX7_draw_5 : decode cX7_draw 5 = .ok (.i2l, 1) := by decide +kernel
theorem dX7_draw_6 : decode cX7_draw 6 = .ok (.ldc2_w 181, 3) := by decide +kernel
theorem dX7_draw_9 : decode cX7_draw 9 = .ok (.lmul, 1) := by decide +kernel
theorem dX7_draw_10 : decode cX7_draw 10 = .ok (.ldc2_w 183, 3) := by decide +kernel
theorem dX7_draw_13 : decode cX7_draw 13 = .ok (.ladd, 1) := by decide +kernel
theorem dX7_draw_14 : decode cX7_draw 14 = .ok (.ldc2_w 185, 3) := by decide +kernel
theorem dX7_draw_17 : decode cX7_draw 17 = .ok (.lrem, 1) := by decide +kernel
theorem dX7_draw_18 : decode cX7_draw 18 = .ok (.l2i, 1) := by decide +kernel
theorem dX7_draw_19 : decode cX7_draw 19 = .ok (.putfield 178, 3) := by decide +kernel
theorem dX7_draw_22 : decode cX7_draw 22 = .ok (.aload_n 0, 1) := by decide +kernel
theorem dX7_draw_23 : decode cX7_draw 23 = .ok (.getfield 178, 3) := by decide +kernel
theorem dX7_draw_26 : decode cX7_draw 26 = .ok (.ldc 187, 2) := by decide +kernel
theorem dX7_draw_28 : decode cX7_draw 28 = .ok (.idiv, 1) := by decide +kernel
theorem dX7_draw_29 : decode cX7_draw 29 = .ok (.iload_n 1, 1) := by decide +kernel
theorem dX7_draw_30 : decode cX7_draw 30 = .ok (.irem, 1) := by decide +kernel
theorem dX7_draw_31 : decode cX7_draw 31 = .ok (.ireturn, 1) := by decide +kernel
theorem dX7_drift_0 : decode cX7_drift 0 = .ok (.iload_n 1, 1) := by decide +kernel
theorem dX7_drift_1 : decode cX7_drift 1 = .ok (.iconst 1, 1) := by decide +kernel
theorem dX7_drift_2 : decode cX7_drift 2 = .ok (.bipush 16, 2) := by decide +kernel
theorem dX7_drift_4 : decode cX7_drift 4 = .ok (.invokestatic 42, 3) := by decide +kernel
theorem dX7_drift_7 : decode cX7_drift 7 = .ok (.ifCond .ne 6, 3) := by decide +kernel
theorem dX7_drift_10 : decode cX7_drift 10 = .ok (.ldc 149, 2) := by decide +kernel
theorem dX7_drift_12 : decode cX7_drift 12 = .ok (.ireturn, 1) := by decide +kernel
theorem dX7_drift_13 : decode cX7_drift 13 = .ok (.iconst 0, 1) := by decide +kernel
theorem dX7_drift_14 : decode cX7_drift 14 = .ok (.istore_n 2, 1) := by decide +kernel
theorem dX7_drift_15 : decode cX7_drift 15 = .ok (.iload_n 2, 1) := by decide +kernel
theorem dX7_drift_16 : decode cX7_drift 16 = .ok (.iload_n 1, 1) := by decide +kernel
theorem dX7_drift_17 : decode cX7_drift 17 = .ok (.if_icmp .ge 101, 3) := by decide +kernel
theorem dX7_drift_20 : decode cX7_drift 20 = .ok (.aload_n 0, 1) := by decide +kernel
theorem dX7_drift_21 : decode cX7_drift 21 = .ok (.getfield 7, 3) := by decide +kernel
theorem dX7_drift_24 : decode cX7_drift 24 = .ok (.iconst 1, 1) := by decide +kernel
theorem dX7_drift_25 : decode cX7_drift 25 = .ok (.iaload, 1) := by decide +kernel
theorem dX7_drift_26 : decode cX7_drift 26 = .ok (.ifCond .le 92, 3) := by decide +kernel
theorem dX7_drift_29 : decode cX7_drift 29 = .ok (.aload_n 0, 1) := by decide +kernel
theorem dX7_drift_30 : decode cX7_drift 30 = .ok (.getfield 7, 3) := by decide +kernel
theorem dX7_drift_33 : decode cX7_drift 33 = .ok (.iconst 2, 1) := by decide +kernel
theorem dX7_drift_34 : decode cX7_drift 34 = .ok (.iaload, 1) := by decide +kernel
theorem dX7_drift_35 : decode cX7_drift 35 = .ok (.bipush 20, 2) := by decide +kernel
theorem dX7_drift_37 : decode cX7_drift 37 = .ok (.if_icmp .ge 81, 3) := by decide +kernel
theorem dX7_drift_40 : decode cX7_drift 40 = .ok (.aload_n 0, 1) := by decide +kernel
theorem dX7_drift_41 : decode cX7_drift 41 = .ok (.invokevirtual 166, 3) := by decide +kernel
theorem dX7_drift_44 : decode cX7_drift 44 = .ok (.aload_n 0, 1) := by decide +kernel
theorem dX7_drift_45 : decode cX7_drift 45 = .ok (.aload_n 0, 1) := by decide +kernel
theorem dX7_drift_46 : decode cX7_drift 46 = .ok (.getfield 7, 3) := by decide +kernel
theorem dX7_drift_49 : decode cX7_drift 49 = .ok (.iconst 1, 1) := by decide +kernel
theorem dX7_drift_50 : decode cX7_drift 50 = .ok (.iaload, 1) := by decide +kernel
theorem dX7_drift_51 : decode cX7_drift 51 = .ok (.invokevirtual 188, 3) := by decide +kernel
theorem dX7_drift_54 : decode cX7_drift 54 = .ok (.istore_n 3, 1) := by decide +kernel
theorem dX7_drift_55 : decode cX7_drift 55 = .ok (.aload_n 0, 1) := by decide +kernel
theorem dX7_drift_56 : decode cX7_drift 56 = .ok (.aload_n 0, 1) := by decide +kernel
theorem dX7_drift_57 : decode cX7_drift 57 = .ok (.getfield 7, 3) := by decide +kernel
theorem dX7_drift_60 : decode cX7_drift 60 = .ok (.iconst 1, 1) := by decide +kernel
theorem dX7_drift_61 : decode cX7_drift 61 = .ok (.iaload, 1) := by decide +kernel
theorem dX7_drift_62 : decode cX7_drift 62 = .ok (.invokevirtual 188, 3) := by decide +kernel
theorem dX7_drift_65 : decode cX7_drift 65 = .ok (.istore 4, 2) := by decide +kernel
theorem dX7_drift_67 : decode cX7_drift 67 = .ok (.aload_n 0, 1) := by decide +kernel
theorem dX7_drift_68 : decode cX7_drift 68 = .ok (.aload_n 0, 1) := by decide +kernel
theorem dX7_drift_69 : decode cX7_drift 69 = .ok (.getfield 7, 3) := by decide +kernel
theorem dX7_drift_72 : decode cX7_drift 72 = .ok (.iconst 0, 1) := by decide +kernel
theorem dX7_drift_73 : decode cX7_drift 73 = .ok (.iaload, 1) := by decide +kernel
theorem dX7_drift_74 : decode cX7_drift 74 = .ok (.invokevirtual 188, 3) := by decide +kernel
theorem dX7_drift_77 : decode cX7_drift 77 = .ok (.istore 5, 2) := by decide +kernel
theorem dX7_drift_79 : decode cX7_drift 79 = .ok (.iconst 1, 1) := by decide +kernel
theorem dX7_drift_80 : decode cX7_drift 80 = .ok (.aload_n 0, 1) := by decide +kernel
theorem dX7_drift_81 : decode cX7_drift 81 = .ok (.bipush 8, 2) := by decide +kernel
theorem dX7_drift_83 : decode cX7_drift 83 = .ok (.invokevirtual 188, 3) := by decide +kernel
theorem dX7_drift_86 : decode cX7_drift 86 = .ok (.ishl, 1) := by decide +kernel
theorem dX7_drift_87 : decode cX7_drift 87 = .ok (.istore 6, 2) := by decide +kernel
theorem dX7_drift_89 : decode cX7_drift 89 = .ok (.iconst 1, 1) := by decide +kernel
theorem dX7_drift_90 : decode cX7_drift 90 = .ok (.aload_n 0, 1) := by decide +kernel
theorem dX7_drift_91 : decode cX7_drift 91 = .ok (.bipush 8, 2) := by decide +kernel
theorem dX7_drift_93 : decode cX7_drift 93 = .ok (.invokevirtual 188, 3) := by decide +kernel
theorem dX7_drift_96 : decode cX7_drift 96 = .ok (.ishl, 1) := by decide +kernel
theorem dX7_drift_97 : decode cX7_drift 97 = .ok (.istore 7, 2) := by decide +kernel
theorem dX7_drift_99 : decode cX7_drift 99 = .ok (.aload_n 0, 1) := by decide +kernel
theorem dX7_drift_100 : decode cX7_drift 100 = .ok (.iload_n 3, 1) := by decide +kernel
theorem dX7_drift_101 : decode cX7_drift 101 = .ok (.iload 4, 2) := by decide +kernel
theorem dX7_drift_103 : decode cX7_drift 103 = .ok (.iload 6, 2) := by decide +kernel
theorem dX7_drift_105 : decode cX7_drift 105 = .ok (.iload 7, 2) := by decide +kernel
theorem dX7_drift_107 : decode cX7_drift 107 = .ok (.iload 5, 2) := by decide +kernel
theorem dX7_drift_109 : decode cX7_drift 109 = .ok (.invokevirtual 173, 3) := by decide +kernel
theorem dX7_drift_112 : decode cX7_drift 112 = .ok (.iinc 2 1, 3) := by decide +kernel
theorem dX7_drift_115 : decode cX7_drift 115 = .ok (.goto (-100), 3) := by decide +kernel
theorem dX7_drift_118 : decode cX7_drift 118 = .ok (.aload_n 0, 1) := by decide +kernel
theorem dX7_drift_119 : decode cX7_drift 119 = .ok (.getfield 7, 3) := by decide +kernel
theorem dX7_drift_122 : decode cX7_drift 122 = .ok (.iconst 2, 1) := by decide +kernel
theorem dX7_drift_123 : decode cX7_drift 123 = .ok (.iaload, 1) := by decide +kernel
theorem dX7_drift_124 : decode cX7_drift 124 = .ok (.ireturn, 1) := by decide +kernel
theorem dX7_undo_0 : decode cX7_undo 0 = .ok (.iload_n 1, 1) := by decide +kernel
theorem dX7_undo_1 : decode cX7_undo 1 = .ok (.iconst 1, 1) := by decide +kernel
theorem dX7_undo_2 : decode cX7_undo 2 = .ok (.bipush 16, 2) := by decide +kernel
theorem dX7_undo_4 : decode cX7_undo 4 = .ok (.invokestatic 42, 3) := by decide +kernel
theorem dX7_undo_7 : decode cX7_undo 7 = .ok (.ifCond .ne 6, 3) := by decide +kernel
theorem dX7_undo_10 : decode cX7_undo 10 = .ok (.ldc 149, 2) := by decide +kernel
theorem dX7_undo_12 : decode cX7_undo 12 = .ok (.ireturn, 1) := by decide +kernel
theorem dX7_undo_13 : decode cX7_undo 13 = .ok (.iload_n 1, 1) := by decide +kernel
theorem dX7_undo_14 : decode cX7_undo 14 = .ok (.aload_n 0, 1) := by decide +kernel
theorem dX7_undo_15 : decode cX7_undo 15 = .ok (.getfield 146, 3) := by decide +kernel
theorem dX7_undo_18 : decode cX7_undo 18 = .ok (.if_icmp .le 6, 3) := by decide +kernel
theorem dX7_undo_21 : decode cX7_undo 21 = .ok (.ldc 177, 2) := by decide +kernel
theorem dX7_undo_23 : decode cX7_undo 23 = .ok (.ireturn, 1) := by decide +kernel
theorem dX7_undo_24 : decode cX7_undo 24 = .ok (.aload_n 0, 1) := by decide +kernel
theorem dX7_undo_25 : decode cX7_undo 25 = .ok (.dup, 1) := by decide +kernel
theorem dX7_undo_26 : decode cX7_undo 26 = .ok (.getfield 146, 3) := by decide +kernel
theorem dX7_undo_29 : decode cX7_undo 29 = .ok (.iload_n 1, 1) := by decide +kernel
theorem dX7_undo_30 : decode cX7_undo 30 = .ok (.isub, 1) := by decide +kernel
theorem dX7_undo_31 : decode cX7_undo 31 = .ok (.putfield 146, 3) := by decide +kernel
theorem dX7_undo_34 : decode cX7_undo 34 = .ok (.iconst 0, 1) := by decide +kernel
theorem dX7_undo_35 : decode cX7_undo 35 = .ok (.istore_n 2, 1) := by decide +kernel
theorem dX7_undo_36 : decode cX7_undo 36 = .ok (.iload_n 2, 1) := by decide +kernel
theorem dX7_undo_37 : decode cX7_undo 37 = .ok (.sipush 367, 3) := by decide +kernel
theorem dX7_undo_40 : decode cX7_undo 40 = .ok (.if_icmp .ge 30, 3) := by decide +kernel
theorem dX7_undo_43 : decode cX7_undo 43 = .ok (.aload_n 0, 1) := by decide +kernel
theorem dX7_undo_44 : decode cX7_undo 44 = .ok (.getfield 7, 3) := by decide +kernel
theorem dX7_undo_47 : decode cX7_undo 47 = .ok (.iload_n 2, 1) := by decide +kernel
theorem dX7_undo_48 : decode cX7_undo 48 = .ok (.aload_n 0, 1) := by decide +kernel
theorem dX7_undo_49 : decode cX7_undo 49 = .ok (.getfield 13, 3) := by decide +kernel
theorem dX7_undo_52 : decode cX7_undo 52 = .ok (.sipush 367, 3) := by decide +kernel
theorem dX7_undo_55 : decode cX7_undo 55 = .ok (.aload_n 0, 1) := by decide +kernel
theorem dX7_undo_56 : decode cX7_undo 56 = .ok (.getfield 146, 3) := by decide +kernel
theorem dX7_undo_59 : decode cX7_undo 59 = .ok (.imul, 1) := by decide +kernel
theorem dX7_undo_60 : decode cX7_undo 60 = .ok (.iload_n 2, 1) := by decide +kernel
theorem dX7_undo_61 : decode cX7_undo 61 = .ok (.iadd, 1) := by decide +kernel
theorem dX7_undo_62 : decode cX7_undo 62 = .ok (.iaload, 1) := by decide +kernel
theorem dX7_undo_63 : decode cX7_undo 63 = .ok (.iastore, 1) := by decide +kernel
theorem dX7_undo_64 : decode cX7_undo 64 = .ok (.iinc 2 1, 3) := by decide +kernel
theorem dX7_undo_67 : decode cX7_undo 67 = .ok (.goto (-31), 3) := by decide +kernel
theorem dX7_undo_70 : decode cX7_undo 70 = .ok (.aload_n 0, 1) := by decide +kernel
theorem dX7_undo_71 : decode cX7_undo 71 = .ok (.getfield 7, 3) := by decide +kernel
theorem dX7_undo_74 : decode cX7_undo 74 = .ok (.iconst 2, 1) := by decide +kernel
theorem dX7_undo_75 : decode cX7_undo 75 = .ok (.iaload, 1) := by decide +kernel
theorem dX7_undo_76 : decode cX7_undo 76 = .ok (.ireturn, 1) := by decide +kernel
theorem dX7_note_0 : decode cX7_note 0 = .ok (.aload_n 0, 1) := by decide +kernel
theorem dX7_note_1 : decode cX7_note 1 = .ok (.iload_n 1, 1) := by decide +kernel
theorem dX7_note_2 : decode cX7_note 2 = .ok (.invokevirtual 131, 3) := by decide +kernel
theorem dX7_note_5 : decode cX7_note 5 = .ok (.ifCond .eq 11, 3) := by decide +kernel
theorem dX7_note_8 : decode cX7_note 8 = .ok (.aload_n 0, 1) := by decide +kernel
theorem dX7_note_9 : decode cX7_note 9 = .ok (.iload_n 2, 1) := by decide +kernel
theorem dX7_note_10 : decode cX7_note 10 = .ok (.invokevirtual 150, 3) := by decide +kernel
theorem dX7_note_13 : decode cX7_note 13 = .ok (.ifCond .ne 6, 3) := by decide +kernel
theorem dX7_note_16 : decode cX7_note 16 = .ok (.ldc 153, 2) := by decide +kernel
theorem dX7_note_18 : decode cX7_note 18 = .ok (.ireturn, 1) := by decide +kernel
theorem dX7_note_19 : decode cX7_note 19 = .ok (.iload_n 3, 1) := by decide +kernel
theorem dX7_note_20 : decode cX7_note 20 = .ok (.invokestatic 169, 3) := by decide +kernel
theorem dX7_note_23 : decode cX7_note 23 = .ok (.ifCond .ne 6, 3) := by decide +kernel
theorem dX7_note_26 : decode cX7_note 26 = .ok (.ldc 149, 2) := by decide +kernel
theorem dX7_note_28 : decode cX7_note 28 = .ok (.ireturn, 1) := by decide +kernel
theorem dX7_note_29 : decode cX7_note 29 = .ok (.aload_n 0, 1) := by decide +kernel
theorem dX7_note_30 : decode cX7_note 30 = .ok (.getfield 128, 3) := by decide +kernel
theorem dX7_note_33 : decode cX7_note 33 = .ok (.bipush 20, 2) := by decide +kernel
theorem dX7_note_35 : decode cX7_note 35 = .ok (.if_icmp .ne 6, 3) := by decide +kernel
theorem dX7_note_38 : decode cX7_note 38 = .ok (.ldc 172, 2) := by decide +kernel
theorem dX7_note_40 : decode cX7_note 40 = .ok (.ireturn, 1) := by decide +kernel
theorem dX7_note_41 : decode cX7_note 41 = .ok (.aload_n 0, 1) := by decide +kernel
theorem dX7_note_42 : decode cX7_note 42 = .ok (.getfield 23, 3) := by decide +kernel
theorem dX7_note_45 : decode cX7_note 45 = .ok (.iconst 3, 1) := by decide +kernel
theorem dX7_note_46 : decode cX7_note 46 = .ok (.aload_n 0, 1) := by decide +kernel
theorem dX7_note_47 : decode cX7_note 47 = .ok (.getfield 128, 3) := by decide +kernel
theorem dX7_note_50 : decode cX7_note 50 = .ok (.imul, 1) := by decide +kernel
theorem dX7_note_51 : decode cX7_note 51 = .ok (.iload_n 1, 1) := by decide +kernel
theorem dX7_note_52 : decode cX7_note 52 = .ok (.iastore, 1) := by decide +kernel
theorem dX7_note_53 : decode cX7_note 53 = .ok (.aload_n 0, 1) := by decide +kernel
theorem dX7_note_54 : decode cX7_note 54 = .ok (.getfield 23, 3) := by decide +kernel
theorem dX7_note_57 : decode cX7_note 57 = .ok (.iconst 3, 1) := by decide +kernel
theorem dX7_note_58 : decode cX7_note 58 = .ok (.aload_n 0, 1) := by decide +kernel
theorem dX7_note_59 : decode cX7_note 59 = .ok (.getfield 128, 3) := by decide +kernel
theorem dX7_note_62 : decode cX7_note 62 = .ok (.imul, 1) := by decide +kernel
theorem dX7_note_63 : decode cX7_note 63 = .ok (.iconst 1, 1) := by decide +kernel
theorem dX7_note_64 : decode cX7_note 64 = .ok (.iadd, 1) := by decide +kernel
theorem dX7_note_65 : decode cX7_note 65 = .ok (.iload_n 2, 1) := by decide +kernel
theorem dX7_note_66 : decode cX7_note 66 = .ok (.iastore, 1) := by decide +kernel
theorem dX7_note_67 : decode cX7_note 67 = .ok (.aload_n 0, 1) := by decide +kernel
theorem dX7_note_68 : decode cX7_note 68 = .ok (.getfield 23, 3) := by decide +kernel
theorem dX7_note_71 : decode cX7_note 71 = .ok (.iconst 3, 1) := by decide +kernel
theorem dX7_note_72 : decode cX7_note 72 = .ok (.aload_n 0, 1) := by decide +kernel
theorem dX7_note_73 : decode cX7_note 73 = .ok (.getfield 128, 3) := by decide +kernel
theorem dX7_note_76 : decode cX7_note 76 = .ok (.imul, 1) := by decide +kernel
theorem dX7_note_77 : decode cX7_note 77 = .ok (.iconst 2, 1) := by decide +kernel
theorem dX7_note_78 : decode cX7_note 78 = .ok (.iadd, 1) := by decide +kernel
theorem dX7_note_79 : decode cX7_note 79 = .ok (.iload_n 3, 1) := by decide +kernel
theorem dX7_note_80 : decode cX7_note 80 = .ok (.iastore, 1) := by decide +kernel
theorem dX7_note_81 : decode cX7_note 81 = .ok (.aload_n 0, 1) := by decide +kernel
theorem dX7_note_82 : decode cX7_note 82 = .ok (.dup, 1) := by decide +kernel
theorem dX7_note_83 : decode cX7_note 83 = .ok (.getfield 128, 3) := by decide +kernel
theorem dX7_note_86 : decode cX7_note 86 = .ok (.iconst 1, 1) := by decide +kernel
theorem dX7_note_87 : decode cX7_note 87 = .ok (.iadd, 1) := by decide +kernel
theorem dX7_note_88 : decode cX7_note 88 = .ok (.putfield 128, 3) := by decide +kernel
theorem dX7_note_91 : decode cX7_note 91 = .ok (.aload_n 0, 1) := by decide +kernel
theorem dX7_note_92 : decode cX7_note 92 = .ok (.getfield 128, 3) := by decide +kernel
theorem dX7_note_95 : decode cX7_note 95 = .ok (.ireturn, 1) := by decide +kernel
theorem dX7_tear_0 : decode cX7_tear 0 = .ok (.aload_n 0, 1) := by decide +kernel
theorem dX7_tear_1 : decode cX7_tear 1 = .ok (.getfield 128, 3) := by decide +kernel
theorem dX7_tear_4 : decode cX7_tear 4 = .ok (.istore_n 1, 1) := by decide +kernel
theorem dX7_tear_5 : decode cX7_tear 5 = .ok (.aload_n 0, 1) := by decide +kernel
theorem dX7_tear_6 : decode cX7_tear 6 = .ok (.iconst 0, 1) := by decide +kernel
theorem dX7_tear_7 : decode cX7_tear 7 = .ok (.putfield 128, 3) := by decide +kernel
theorem dX7_tear_10 : decode cX7_tear 10 = .ok (.iload_n 1, 1) := by decide +kernel
theorem dX7_tear_11 : decode cX7_tear 11 = .ok (.ireturn, 1) := by decide +kernel
theorem dX7_seed_0 : decode cX7_seed 0 = .ok (.iload_n 1, 1) := by decide +kernel
theorem dX7_seed_1 : decode cX7_seed 1 = .ok (.ifCond .ge 6, 3) := by decide +kernel
theorem dX7_seed_4 : decode cX7_seed 4 = .ok (.ldc 149, 2) := by decide +kernel
theorem dX7_seed_6 : decode cX7_seed 6 = .ok (.ireturn, 1) := by decide +kernel
theorem dX7_seed_7 : decode cX7_seed 7 = .ok (.aload_n 0, 1) := by decide +kernel
theorem dX7_seed_8 : decode cX7_seed 8 = .ok (.getfield 178, 3) := by decide +kernel
theorem dX7_seed_11 : decode cX7_seed 11 = .ok (.istore_n 2, 1) := by decide +kernel
theorem dX7_seed_12 : decode cX7_seed 12 = .ok (.aload_n 0, 1) := by decide +kernel
theorem dX7_seed_13 : decode cX7_seed 13 = .ok (.iload_n 1, 1) := by decide +kernel
theorem dX7_seed_14 : decode cX7_seed 14 = .ok (.putfield 178, 3) := by decide +kernel
theorem dX7_seed_17 : decode cX7_seed 17 = .ok (.iload_n 2, 1) := by decide +kernel
theorem dX7_seed_18 : decode cX7_seed 18 = .ok (.ireturn, 1) := by decide +kernel
theorem dX7_keep_0 : decode cX7_keep 0 = .ok (.iload_n 1, 1) := by decide +kernel
theorem dX7_keep_1 : decode cX7_keep 1 = .ok (.iconst 0, 1) := by decide +kernel
theorem dX7_keep_2 : decode cX7_keep 2 = .ok (.iconst 1, 1) := by decide +kernel
theorem dX7_keep_3 : decode cX7_keep 3 = .ok (.invokestatic 42, 3) := by decide +kernel
theorem dX7_keep_6 : decode cX7_keep 6 = .ok (.ifCond .ne 6, 3) := by decide +kernel
theorem dX7_keep_9 : decode cX7_keep 9 = .ok (.ldc 153, 2) := by decide +kernel
theorem dX7_keep_11 : decode cX7_keep 11 = .ok (.ireturn, 1) := by decide +kernel
theorem dX7_keep_12 : decode cX7_keep 12 = .ok (.iconst 0, 1) := by decide +kernel
theorem dX7_keep_13 : decode cX7_keep 13 = .ok (.istore_n 2, 1) := by decide +kernel
theorem dX7_keep_14 : decode cX7_keep 14 = .ok (.iload_n 2, 1) := by decide +kernel
theorem dX7_keep_15 : decode cX7_keep 15 = .ok (.sipush 367, 3) := by decide +kernel
theorem dX7_keep_18 : decode cX7_keep 18 = .ok (.if_icmp .ge 27, 3) := by decide +kernel
theorem dX7_keep_21 : decode cX7_keep 21 = .ok (.aload_n 0, 1) := by decide +kernel
theorem dX7_keep_22 : decode cX7_keep 22 = .ok (.getfield 16, 3) := by decide +kernel
theorem dX7_keep_25 : decode cX7_keep 25 = .ok (.sipush 368, 3) := by decide +kernel
theorem dX7_keep_28 : decode cX7_keep 28 = .ok (.iload_n 1, 1) := by decide +kernel
theorem dX7_keep_29 : decode cX7_keep 29 = .ok (.imul, 1) := by decide +kernel
theorem dX7_keep_30 : decode cX7_keep 30 = .ok (.iload_n 2, 1) := by decide +kernel
theorem dX7_keep_31 : decode cX7_keep 31 = .ok (.iadd, 1) := by decide +kernel
theorem dX7_keep_32 : decode cX7_keep 32 = .ok (.aload_n 0, 1) := by decide +kernel
theorem dX7_keep_33 : decode cX7_keep 33 = .ok (.getfield 7, 3) := by decide +kernel
theorem dX7_keep_36 : decode cX7_keep 36 = .ok (.iload_n 2, 1) := by decide +kernel
theorem dX7_keep_37 : decode cX7_keep 37 = .ok (.iaload, 1) := by decide +kernel
theorem dX7_keep_38 : decode cX7_keep 38 = .ok (.iastore, 1) := by decide +kernel
theorem dX7_keep_39 : decode cX7_keep 39 = .ok (.iinc 2 1, 3) := by decide +kernel
theorem dX7_keep_42 : decode cX7_keep 42 = .ok (.goto (-28), 3) := by decide +kernel
theorem dX7_keep_45 : decode cX7_keep 45 = .ok (.aload_n 0, 1) := by decide +kernel
theorem dX7_keep_46 : decode cX7_keep 46 = .ok (.getfield 16, 3) := by decide +kernel
theorem dX7_keep_49 : decode cX7_keep 49 = .ok (.sipush 368, 3) := by decide +kernel
theorem dX7_keep_52 : decode cX7_keep 52 = .ok (.iload_n 1, 1) := by decide +kernel
theorem dX7_keep_53 : decode cX7_keep 53 = .ok (.imul, 1) := by decide +kernel
theorem dX7_keep_54 : decode cX7_keep 54 = .ok (.sipush 367, 3) := by decide +kernel
theorem dX7_keep_57 : decode cX7_keep 57 = .ok (.iadd, 1) := by decide +kernel
theorem dX7_keep_58 : decode cX7_keep 58 = .ok (.aload_n 0, 1) := by decide +kernel
theorem dX7_keep_59 : decode cX7_keep 59 = .ok (.getfield 178, 3) := by decide +kernel
theorem dX7_keep_62 : decode cX7_keep 62 = .ok (.iastore, 1) := by decide +kernel
theorem dX7_keep_63 : decode cX7_keep 63 = .ok (.aload_n 0, 1) := by decide +kernel
theorem dX7_keep_64 : decode cX7_keep 64 = .ok (.getfield 19, 3) := by decide +kernel
theorem dX7_keep_67 : decode cX7_keep 67 = .ok (.iload_n 1, 1) := by decide +kernel
theorem dX7_keep_68 : decode cX7_keep 68 = .ok (.iconst 1, 1) := by decide +kernel
theorem dX7_keep_69 : decode cX7_keep 69 = .ok (.bastore, 1) := by decide +kernel
theorem dX7_keep_70 : decode cX7_keep 70 = .ok (.aload_n 0, 1) := by decide +kernel
theorem dX7_keep_71 : decode cX7_keep 71 = .ok (.iconst 0, 1) := by decide +kernel
theorem dX7_keep_72 : decode cX7_keep 72 = .ok (.putfield 146, 3) := by decide +kernel
theorem dX7_keep_75 : decode cX7_keep 75 = .ok (.iconst 1, 1) := by decide +kernel
theorem dX7_keep_76 : decode cX7_keep 76 = .ok (.ireturn, 1) := by decide +kernel
theorem dX7_goBack_0 : decode cX7_goBack 0 = .ok (.iload_n 1, 1) := by decide +kernel
theorem dX7_goBack_1 : decode cX7_goBack 1 = .ok (.iconst 0, 1) := by decide +kernel
theorem dX7_goBack_2 : decode cX7_goBack 2 = .ok (.iconst 1, 1) := by decide +kernel
theorem dX7_goBack_3 : decode cX7_goBack 3 = .ok (.invokestatic 42, 3) := by decide +kernel
theorem dX7_goBack_6 : decode cX7_goBack 6 = .ok (.ifCond .ne 6, 3) := by decide +kernel
theorem dX7_goBack_9 : decode cX7_goBack 9 = .ok (.ldc 153, 2) := by decide +kernel
theorem dX7_goBack_11 : decode cX7_goBack 11 = .ok (.ireturn, 1) := by decide +kernel
theorem dX7_goBack_12 : decode cX7_goBack 12 = .ok (.aload_n 0, 1) := by decide +kernel
theorem dX7_goBack_13 : decode cX7_goBack 13 = .ok (.getfield 19, 3) := by decide +kernel
theorem dX7_goBack_16 : decode cX7_goBack 16 = .ok (.iload_n 1, 1) := by decide +kernel
theorem dX7_goBack_17 : decode cX7_goBack 17 = .ok (.baload, 1) := by decide +kernel
theorem dX7_goBack_18 : decode cX7_goBack 18 = .ok (.ifCond .ne 6, 3) := by decide +kernel
theorem dX7_goBack_21 : decode cX7_goBack 21 = .ok (.ldc 177, 2) := by decide +kernel
theorem dX7_goBack_23 : decode cX7_goBack 23 = .ok (.ireturn, 1) := by decide +kernel
theorem dX7_goBack_24 : decode cX7_goBack 24 = .ok (.iconst 0, 1) := by decide +kernel
theorem dX7_goBack_25 : decode cX7_goBack 25 = .ok (.istore_n 2, 1) := by decide +kernel
theorem dX7_goBack_26 : decode cX7_goBack 26 = .ok (.iload_n 2, 1) := by decide +kernel
theorem dX7_goBack_27 : decode cX7_goBack 27 = .ok (.sipush 367, 3) := by decide +kernel
theorem dX7_goBack_30 : decode cX7_goBack 30 = .ok (.if_icmp .ge 27, 3) := by decide +kernel
theorem dX7_goBack_33 : decode cX7_goBack 33 = .ok (.aload_n 0, 1) := by decide +kernel
theorem dX7_goBack_34 : decode cX7_goBack 34 = .ok (.getfield 7, 3) := by decide +kernel
theorem dX7_goBack_37 : decode cX7_goBack 37 = .ok (.iload_n 2, 1) := by decide +kernel
theorem dX7_goBack_38 : decode cX7_goBack 38 = .ok (.aload_n 0, 1) := by decide +kernel
theorem dX7_goBack_39 : decode cX7_goBack 39 = .ok (.getfield 16, 3) := by decide +kernel
theorem dX7_goBack_42 : decode cX7_goBack 42 = .ok (.sipush 368, 3) := by decide +kernel
theorem dX7_goBack_45 : decode cX7_goBack 45 = .ok (.iload_n 1, 1) := by decide +kernel
theorem dX7_goBack_46 : decode cX7_goBack 46 = .ok (.imul, 1) := by decide +kernel
theorem dX7_goBack_47 : decode cX7_goBack 47 = .ok (.iload_n 2, 1) := by decide +kernel
theorem dX7_goBack_48 : decode cX7_goBack 48 = .ok (.iadd, 1) := by decide +kernel
theorem dX7_goBack_49 : decode cX7_goBack 49 = .ok (.iaload, 1) := by decide +kernel
theorem dX7_goBack_50 : decode cX7_goBack 50 = .ok (.iastore, 1) := by decide +kernel
theorem dX7_goBack_51 : decode cX7_goBack 51 = .ok (.iinc 2 1, 3) := by decide +kernel
theorem dX7_goBack_54 : decode cX7_goBack 54 = .ok (.goto (-28), 3) := by decide +kernel
theorem dX7_goBack_57 : decode cX7_goBack 57 = .ok (.aload_n 0, 1) := by decide +kernel
theorem dX7_goBack_58 : decode cX7_goBack 58 = .ok (.aload_n 0, 1) := by decide +kernel
theorem dX7_goBack_59 : decode cX7_goBack 59 = .ok (.getfield 16, 3) := by decide +kernel
theorem dX7_goBack_62 : decode cX7_goBack 62 = .ok (.sipush 368, 3) := by decide +kernel
theorem dX7_goBack_65 : decode cX7_goBack 65 = .ok (.iload_n 1, 1) := by decide +kernel
theorem dX7_goBack_66 : decode cX7_goBack 66 = .ok (.imul, 1) := by decide +kernel
theorem dX7_goBack_67 : decode cX7_goBack 67 = .ok (.sipush 367, 3) := by decide +kernel
theorem dX7_goBack_70 : decode cX7_goBack 70 = .ok (.iadd, 1) := by decide +kernel
theorem dX7_goBack_71 : decode cX7_goBack 71 = .ok (.iaload, 1) := by decide +kernel
theorem dX7_goBack_72 : decode cX7_goBack 72 = .ok (.putfield 178, 3) := by decide +kernel
theorem dX7_goBack_75 : decode cX7_goBack 75 = .ok (.aload_n 0, 1) := by decide +kernel
theorem dX7_goBack_76 : decode cX7_goBack 76 = .ok (.iconst 0, 1) := by decide +kernel
theorem dX7_goBack_77 : decode cX7_goBack 77 = .ok (.putfield 146, 3) := by decide +kernel
theorem dX7_goBack_80 : decode cX7_goBack 80 = .ok (.iconst 1, 1) := by decide +kernel
theorem dX7_goBack_81 : decode cX7_goBack 81 = .ok (.ireturn, 1) := by decide +kernel
