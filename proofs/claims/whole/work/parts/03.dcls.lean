theorem dX0_init_0 : decode cX0_init 0 = .ok (.aload_n 0, 1) := by decide +kernel
theorem dX0_init_1 : decode cX0_init 1 = .ok (.invokespecial 3, 3) := by decide +kernel
theorem dX0_init_4 : decode cX0_init 4 = .ok (.aload_n 0, 1) := by decide +kernel
theorem dX0_init_5 : decode cX0_init 5 = .ok (.bipush 20, 2) := by decide +kernel
theorem dX0_init_7 : decode cX0_init 7 = .ok (.newarray .int, 2) := by decide +kernel
theorem dX0_init_9 : decode cX0_init 9 = .ok (.putfield 9, 3) := by decide +kernel
theorem dX0_init_12 : decode cX0_init 12 = .ok (.aload_n 0, 1) := by decide +kernel
theorem dX0_init_13 : decode cX0_init 13 = .ok (.bipush 20, 2) := by decide +kernel
theorem dX0_init_15 : decode cX0_init 15 = .ok (.newarray .int, 2) := by decide +kernel
theorem dX0_init_17 : decode cX0_init 17 = .ok (.putfield 15, 3) := by decide +kernel
theorem dX0_init_20 : decode cX0_init 20 = .ok (.return_, 1) := by decide +kernel
theorem dX0_add_0 : decode cX0_add 0 = .ok (.aload_n 0, 1) := by decide +kernel
theorem dX0_add_1 : decode cX0_add 1 = .ok (.getfield 9, 3) := by decide +kernel
theorem dX0_add_4 : decode cX0_add 4 = .ok (.aload_n 0, 1) := by decide +kernel
theorem dX0_add_5 : decode cX0_add 5 = .ok (.getfield 18, 3) := by decide +kernel
theorem dX0_add_8 : decode cX0_add 8 = .ok (.iload_n 1, 1) := by decide +kernel
theorem dX0_add_9 : decode cX0_add 9 = .ok (.iastore, 1) := by decide +kernel
theorem dX0_add_10 : decode cX0_add 10 = .ok (.aload_n 0, 1) := by decide +kernel
theorem dX0_add_11 : decode cX0_add 11 = .ok (.getfield 15, 3) := by decide +kernel
theorem dX0_add_14 : decode cX0_add 14 = .ok (.aload_n 0, 1) := by decide +kernel
theorem dX0_add_15 : decode cX0_add 15 = .ok (.getfield 18, 3) := by decide +kernel
theorem dX0_add_18 : decode cX0_add 18 = .ok (.iload_n 2, 1) := by decide +kernel
theorem dX0_add_19 : decode cX0_add 19 = .ok (.iastore, 1) := by decide +kernel
theorem dX0_add_20 : decode cX0_add 20 = .ok (.aload_n 0, 1) := by decide +kernel
theorem dX0_add_21 : decode cX0_add 21 = .ok (.dup, 1) := by decide +kernel
theorem dX0_add_22 : decode cX0_add 22 = .ok (.getfield 18, 3) := by decide +kernel
theorem dX0_add_25 : decode cX0_add 25 = .ok (.iconst 1, 1) := by decide +kernel
theorem dX0_add_26 : decode cX0_add 26 = .ok (.iadd, 1) := by decide +kernel
theorem dX0_add_27 : decode cX0_add 27 = .ok (.putfield 18, 3) := by decide +kernel
theorem dX0_add_30 : decode cX0_add 30 = .ok (.return_, 1) := by decide +kernel
theorem dX0_firstUnlike_0 : decode cX0_firstUnlike 0 = .ok (.iconst 0, 1) := by decide +kernel
theorem dX0_firstUnlike_1 : decode cX0_firstUnlike 1 = .ok (.istore_n 3, 1) := by decide +kernel
theorem dX0_firstUnlike_2 : decode cX0_firstUnlike 2 = .ok (.iload_n 3, 1) := by decide +kernel
theorem dX0_firstUnlike_3 : decode cX0_firstUnlike 3 = .ok (.aload_n 0, 1) := by decide +kernel
theorem dX0_firstUnlike_4 : decode cX0_firstUnlike 4 = .ok (.getfield 18, 3) := by decide +kernel
theorem dX0_firstUnlike_7 : decode cX0_firstUnlike 7 = .ok (.if_icmp .ge 38, 3) := by decide +kernel
theorem dX0_firstUnlike_10 : decode cX0_firstUnlike 10 = .ok (.aload_n 0, 1) := by decide +kernel
theorem dX0_firstUnlike_11 : decode cX0_firstUnlike 11 = .ok (.getfield 9, 3) := by decide +kernel
theorem dX0_firstUnlike_14 : decode cX0_firstUnlike 14 = .ok (.iload_n 3, 1) := by decide +kernel
theorem dX0_firstUnlike_15 : decode cX0_firstUnlike 15 = .ok (.iaload, 1) := by decide +kernel
theorem dX0_firstUnlike_16 : decode cX0_firstUnlike 16 = .ok (.iload_n 2, 1) := by decide +kernel
theorem dX0_firstUnlike_17 : decode cX0_firstUnlike 17 = .ok (.if_icmp .ge 20, 3) := by decide +kernel
theorem dX0_firstUnlike_20 : decode cX0_firstUnlike 20 = .ok (.aload_n 1, 1) := by decide +kernel
theorem dX0_firstUnlike_21 : decode cX0_firstUnlike 21 = .ok (.aload_n 0, 1) := by decide +kernel
theorem dX0_firstUnlike_22 : decode cX0_firstUnlike 22 = .ok (.getfield 9, 3) := by decide +kernel
theorem dX0_firstUnlike_25 : decode cX0_firstUnlike 25 = .ok (.iload_n 3, 1) := by decide +kernel
theorem dX0_firstUnlike_26 : decode cX0_firstUnlike 26 = .ok (.iaload, 1) := by decide +kernel
theorem dX0_firstUnlike_27 : decode cX0_firstUnlike 27 = .ok (.iaload, 1) := by decide +kernel
theorem dX0_firstUnlike_28 : decode cX0_firstUnlike 28 = .ok (.aload_n 0, 1) := by decide +kernel
theorem dX0_firstUnlike_29 : decode cX0_firstUnlike 29 = .ok (.getfield 15, 3) := by decide +kernel
theorem dX0_firstUnlike_32 : decode cX0_firstUnlike 32 = .ok (.iload_n 3, 1) := by decide +kernel
theorem dX0_firstUnlike_33 : decode cX0_firstUnlike 33 = .ok (.iaload, 1) := by decide +kernel
theorem dX0_firstUnlike_34 : decode cX0_firstUnlike 34 = .ok (.if_icmp .eq 5, 3) := by decide +kernel
theorem dX0_firstUnlike_37 : decode cX0_firstUnlike 37 = .ok (.iload_n 3, 1) := by decide +kernel
theorem dX0_firstUnlike_38 : decode cX0_firstUnlike 38 = .ok (.ireturn, 1) := by decide +kernel
theorem dX0_firstUnlike_39 : decode cX0_firstUnlike 39 = .ok (.iinc 3 1, 3) := by decide +kernel
theorem dX0_firstUnlike_42 : decode cX0_firstUnlike 42 = .ok (.goto (-40), 3) := by decide +kernel
theorem dX0_firstUnlike_45 : decode cX0_firstUnlike 45 = .ok (.iconst (-1), 1) := by decide +kernel
theorem dX0_firstUnlike_46 : decode cX0_firstUnlike 46 = .ok (.ireturn, 1) := by decide +kernel
theorem dX1_init_0 : decode cX1_init 0 = .ok (.aload_n 0, 1) := by decide +kernel
theorem dX1_init_1 : decode cX1_init 1 = .ok (.invokespecial 1, 3) := by decide +kernel
theorem dX1_init_4 : decode cX1_init 4 = .ok (.aload_n 0, 1) := by decide +kernel
theorem dX1_init_5 : decode cX1_init 5 = .ok (.new 7, 3) := by decide +kernel
theorem dX1_init_8 : decode cX1_init 8 = .ok (.dup, 1) := by decide +kernel
theorem dX1_init_9 : decode cX1_init 9 = .ok (.invokespecial 9, 3) := by decide +kernel
theorem dX1_init_12 : decode cX1_init 12 = .ok (.putfield 10, 3) := by decide +kernel
theorem dX1_init_15 : decode cX1_init 15 = .ok (.return_, 1) := by decide +kernel
theorem dX2_init_0 : decode cX2_init 0 = .ok (.aload_n 0, 1) := by decide +kernel
theorem dX2_init_1 : decode cX2_init 1 = .ok (.invokespecial 3, 3) := by decide +kernel
theorem dX2_init_4 : decode cX2_init 4 = .ok (.aload_n 0, 1) := by decide +kernel
theorem dX2_init_5 : decode cX2_init 5 = .ok (.bipush 10, 2) := by decide +kernel
theorem dX2_init_7 : decode cX2_init 7 = .ok (.newarray .int, 2) := by decide +kernel
theorem dX2_init_9 : decode cX2_init 9 = .ok (.putfield 9, 3) := by decide +kernel
theorem dX2_init_12 : decode cX2_init 12 = .ok (.return_, 1) := by decide +kernel
theorem dX2_rebuild_0 : decode cX2_rebuild 0 = .ok (.iconst 0, 1) := by decide +kernel
theorem dX2_rebuild_1 : decode cX2_rebuild 1 = .ok (.istore_n 2, 1) := by decide +kernel
theorem dX2_rebuild_2 : decode cX2_rebuild 2 = .ok (.iload_n 2, 1) := by decide +kernel
theorem dX2_rebuild_3 : decode cX2_rebuild 3 = .ok (.aload_n 1, 1) := by decide +kernel
theorem dX2_rebuild_4 : decode cX2_rebuild 4 = .ok (.getfield 15, 3) := by decide +kernel
theorem dX2_rebuild_7 : decode cX2_rebuild 7 = .ok (.if_icmp .ge 42, 3) := by decide +kernel
theorem dX2_rebuild_10 : decode cX2_rebuild 10 = .ok (.aload_n 0, 1) := by decide +kernel
theorem dX2_rebuild_11 : decode cX2_rebuild 11 = .ok (.getfield 9, 3) := by decide +kernel
theorem dX2_rebuild_14 : decode cX2_rebuild 14 = .ok (.iload_n 2, 1) := by decide +kernel
theorem dX2_rebuild_15 : decode cX2_rebuild 15 = .ok (.aload_n 1, 1) := by decide +kernel
theorem dX2_rebuild_16 : decode cX2_rebuild 16 = .ok (.iload_n 2, 1) := by decide +kernel
theorem dX2_rebuild_17 : decode cX2_rebuild 17 = .ok (.invokevirtual 21, 3) := by decide +kernel
theorem dX2_rebuild_20 : decode cX2_rebuild 20 = .ok (.ifCond .eq 12, 3) := by decide +kernel
theorem dX2_rebuild_23 : decode cX2_rebuild 23 = .ok (.aload_n 1, 1) := by decide +kernel
theorem dX2_rebuild_24 : decode cX2_rebuild 24 = .ok (.getfield 25, 3) := by decide +kernel
theorem dX2_rebuild_27 : decode cX2_rebuild 27 = .ok (.iload_n 2, 1) := by decide +kernel
theorem dX2_rebuild_28 : decode cX2_rebuild 28 = .ok (.iaload, 1) := by decide +kernel
theorem dX2_rebuild_29 : decode cX2_rebuild 29 = .ok (.goto 13, 3) := by decide +kernel
theorem dX2_rebuild_32 : decode cX2_rebuild 32 = .ok (.aload_n 1, 1) := by decide +kernel
theorem dX2_rebuild_33 : decode cX2_rebuild 33 = .ok (.iload_n 2, 1) := by decide +kernel
theorem dX2_rebuild_34 : decode cX2_rebuild 34 = .ok (.aload_n 0, 1) := by decide +kernel
theorem dX2_rebuild_35 : decode cX2_rebuild 35 = .ok (.getfield 9, 3) := by decide +kernel
theorem dX2_rebuild_38 : decode cX2_rebuild 38 = .ok (.iconst (-1), 1) := by decide +kernel
theorem dX2_rebuild_39 : decode cX2_rebuild 39 = .ok (.invokevirtual 28, 3) := by decide +kernel
theorem dX2_rebuild_42 : decode cX2_rebuild 42 = .ok (.iastore, 1) := by decide +kernel
theorem dX2_rebuild_43 : decode cX2_rebuild 43 = .ok (.iinc 2 1, 3) := by decide +kernel
theorem dX2_rebuild_46 : decode cX2_rebuild 46 = .ok (.goto (-44), 3) := by decide +kernel
theorem dX2_rebuild_49 : decode cX2_rebuild 49 = .ok (.return_, 1) := by decide +kernel
theorem dX2_refusedAt_0 : decode cX2_refusedAt 0 = .ok (.aload_n 0, 1) := by decide +kernel
theorem dX2_refusedAt_1 : decode cX2_refusedAt 1 = .ok (.aload_n 1, 1) := by decide +kernel
theorem dX2_refusedAt_2 : decode cX2_refusedAt 2 = .ok (.invokevirtual 32, 3) := by decide +kernel
theorem dX2_refusedAt_5 : decode cX2_refusedAt 5 = .ok (.iconst 0, 1) := by decide +kernel
theorem dX2_refusedAt_6 : decode cX2_refusedAt 6 = .ok (.istore_n 2, 1) := by decide +kernel
theorem dX2_refusedAt_7 : decode cX2_refusedAt 7 = .ok (.iload_n 2, 1) := by decide +kernel
theorem dX2_refusedAt_8 : decode cX2_refusedAt 8 = .ok (.aload_n 1, 1) := by decide +kernel
theorem dX2_refusedAt_9 : decode cX2_refusedAt 9 = .ok (.getfield 15, 3) := by decide +kernel
theorem dX2_refusedAt_12 : decode cX2_refusedAt 12 = .ok (.if_icmp .ge 42, 3) := by decide +kernel
theorem dX2_refusedAt_15 : decode cX2_refusedAt 15 = .ok (.aload_n 1, 1) := by decide +kernel
theorem dX2_refusedAt_16 : decode cX2_refusedAt 16 = .ok (.iload_n 2, 1) := by decide +kernel
theorem dX2_refusedAt_17 : decode cX2_refusedAt 17 = .ok (.invokevirtual 21, 3) := by decide +kernel
theorem dX2_refusedAt_20 : decode cX2_refusedAt 20 = .ok (.ifCond .eq 28, 3) := by decide +kernel
theorem dX2_refusedAt_23 : decode cX2_refusedAt 23 = .ok (.aload_n 1, 1) := by decide +kernel
theorem dX2_refusedAt_24 : decode cX2_refusedAt 24 = .ok (.aload_n 1, 1) := by decide +kernel
theorem dX2_refusedAt_25 : decode cX2_refusedAt 25 = .ok (.iload_n 2, 1) := by decide +kernel
theorem dX2_refusedAt_26 : decode cX2_refusedAt 26 = .ok (.aload_n 0, 1) := by decide +kernel
theorem dX2_refusedAt_27 : decode cX2_refusedAt 27 = .ok (.getfield 9, 3) := by decide +kernel
theorem dX2_refusedAt_30 : decode cX2_refusedAt 30 = .ok (.iconst (-1), 1) := by decide +kernel
theorem dX2_refusedAt_31 : decode cX2_refusedAt 31 = .ok (.invokevirtual 28, 3) := by decide +kernel
theorem dX2_refusedAt_34 : decode cX2_refusedAt 34 = .ok (.aload_n 1, 1) := by decide +kernel
theorem dX2_refusedAt_35 : decode cX2_refusedAt 35 = .ok (.getfield 25, 3) := by decide +kernel
theorem dX2_refusedAt_38 : decode cX2_refusedAt 38 = .ok (.iload_n 2, 1) := by decide +kernel
theorem dX2_refusedAt_39 : decode cX2_refusedAt 39 = .ok (.iaload, 1) := by decide +kernel
theorem dX2_refusedAt_40 : decode cX2_refusedAt 40 = .ok (.invokevirtual 36, 3) := by decide +kernel
theorem dX2_refusedAt_43 : decode cX2_refusedAt 43 = .ok (.ifCond .ne 5, 3) := by decide +kernel
theorem dX2_refusedAt_46 : decode cX2_refusedAt 46 = .ok (.iload_n 2, 1) := by decide +kernel
theorem dX2_refusedAt_47 : decode cX2_refusedAt 47 = .ok (.ireturn, 1) := by decide +kernel
theorem dX2_refusedAt_48 : decode cX2_refusedAt 48 = .ok (.iinc 2 1, 3) := by decide +kernel
theorem dX2_refusedAt_51 : decode cX2_refusedAt 51 = .ok (.goto (-44), 3) := by decide +kernel
theorem dX2_refusedAt_54 : decode cX2_refusedAt 54 = .ok (.iconst (-1), 1) := by decide +kernel
theorem dX2_refusedAt_55 : decode cX2_refusedAt 55 = .ok (.ireturn, 1) := by decide +kernel
theorem dX3_init_0 : decode cX3_init 0 = .ok (.aload_n 0, 1) := by decide +kernel
theorem dX3_init_1 : decode cX3_init 1 = .ok (.invokespecial 3, 3) := by decide +kernel
theorem dX3_init_4 : decode cX3_init 4 = .ok (.aload_n 0, 1) := by decide +kernel
theorem dX3_init_5 : decode cX3_init 5 = .ok (.bipush 16, 2) := by decide +kernel
theorem dX3_init_7 : decode cX3_init 7 = .ok (.anewarray 9, 3) := by decide +kernel
theorem dX3_init_10 : decode cX3_init 10 = .ok (.putfield 11, 3) := by decide +kernel
theorem dX3_init_13 : decode cX3_init 13 = .ok (.iconst 0, 1) := by decide +kernel
theorem dX3_init_14 : decode cX3_init 14 = .ok (.istore_n 1, 1) := by decide +kernel
theorem dX3_init_15 : decode cX3_init 15 = .ok (.iload_n 1, 1) := by decide +kernel
theorem dX3_init_16 : decode cX3_init 16 = .ok (.bipush 16, 2) := by decide +kernel
theorem dX3_init_18 : decode cX3_init 18 = .ok (.if_icmp .ge 22, 3) := by decide +kernel
theorem dX3_init_21 : decode cX3_init 21 = .ok (.aload_n 0, 1) := by decide +kernel
theorem dX3_init_22 : decode cX3_init 22 = .ok (.getfield 11, 3) := by decide +kernel
theorem dX3_init_25 : decode cX3_init 25 = .ok (.iload_n 1, 1) := by decide +kernel
theorem dX3_init_26 : decode cX3_init 26 = .ok (.new 9, 3) := by decide +kernel
theorem dX3_init_29 : decode cX3_init 29 = .ok (.dup, 1) := by decide +kernel
theorem dX3_init_30 : decode cX3_init 30 = .ok (.invokespecial 17, 3) := by decide +kernel
theorem dX3_init_33 : decode cX3_init 33 = .ok (.aastore, 1) := by decide +kernel
theorem dX3_init_34 : decode cX3_init 34 = .ok (.iinc 1 1, 3) := by decide +kernel
theorem dX3_init_37 : decode cX3_init 37 = .ok (.goto (-22), 3) := by decide +kernel
theorem dX3_init_40 : decode cX3_init 40 = .ok (.return_, 1) := by decide +kernel
theorem dX3_remember_0 : decode cX3_remember 0 = .ok (.aload_n 0, 1) := by decide +kernel
theorem dX3_remember_1 : decode cX3_remember 1 = .ok (.getfield 11, 3) := by decide +kernel
theorem dX3_remember_4 : decode cX3_remember 4 = .ok (.aload_n 0, 1) := by decide +kernel
theorem dX3_remember_5 : decode cX3_remember 5 = .ok (.getfield 18, 3) := by decide +kernel
theorem dX3_remember_8 : decode cX3_remember 8 = .ok (.aaload, 1) := by decide +kernel
theorem dX3_remember_9 : decode cX3_remember 9 = .ok (.aload_n 1, 1) := by decide +kernel
theorem dX3_remember_10 : decode cX3_remember 10 = .ok (.invokevirtual 22, 3) := by decide +kernel
theorem dX3_remember_13 : decode cX3_remember 13 = .ok (.aload_n 0, 1) := by decide +kernel
theorem dX3_remember_14 : decode cX3_remember 14 = .ok (.aload_n 0, 1) := by decide +kernel
theorem dX3_remember_15 : decode cX3_remember 15 = .ok (.getfield 18, 3) := by decide +kernel
theorem dX3_remember_18 : decode cX3_remember 18 = .ok (.iconst 1, 1) := by decide +kernel
theorem dX3_remember_19 : decode cX3_remember 19 = .ok (.iadd, 1) := by decide +kernel
theorem dX3_remember_20 : decode cX3_remember 20 = .ok (.bipush 16, 2) := by decide +kernel
theorem dX3_remember_22 : decode cX3_remember 22 = .ok (.irem, 1) := by decide +kernel
theorem dX3_remember_23 : decode cX3_remember 23 = .ok (.putfield 18, 3) := by decide +kernel
theorem dX3_remember_26 : decode cX3_remember 26 = .ok (.aload_n 0, 1) := by decide +kernel
theorem dX3_remember_27 : decode cX3_remember 27 = .ok (.aload_n 0, 1) := by decide +kernel
theorem dX3_remember_28 : decode cX3_remember 28 = .ok (.getfield 26, 3) := by decide +kernel
theorem dX3_remember_31 : decode cX3_remember 31 = .ok (.iconst 1, 1) := by decide +kernel
theorem dX3_remember_32 : decode cX3_remember 32 = .ok (.iadd, 1) := by decide +kernel
theorem dX3_remember_33 : decode cX3_remember 33 = .ok (.bipush 16, 2) := by decide +kernel
theorem dX3_remember_35 : decode cX3_remember 35 = .ok (.invokestatic 29, 3) := by decide +kernel
theorem dX3_remember_38 : decode cX3_remember 38 = .ok (.putfield 26, 3) := by decide +kernel
theorem dX3_remember_41 : decode cX3_remember 41 = .ok (.return_, 1) := by decide +kernel
theorem dX3_bringBack_0 : decode cX3_bringBack 0 = .ok (.aload_n 0, 1) := by decide +kernel
theorem dX3_bringBack_1 : decode cX3_bringBack 1 = .ok (.aload_n 0, 1) := by decide +kernel
theorem dX3_bringBack_2 : decode cX3_bringBack 2 = .ok (.getfield 18, 3) := by decide +kernel
theorem dX3_bringBack_5 : decode cX3_bringBack 5 = .ok (.bipush 16, 2) := by decide +kernel
theorem dX3_bringBack_7 : decode cX3_bringBack 7 = .ok (.iadd, 1) := by decide +kernel
theorem dX3_bringBack_8 : decode cX3_bringBack 8 = .ok (.iload_n 2, 1) := by decide +kernel
theorem dX3_bringBack_9 : decode cX3_bringBack 9 = .ok (.isub, 1) := by decide +kernel
theorem dX3_bringBack_10 : decode cX3_bringBack 10 = .ok (.bipush 16, 2) := by decide +kernel
theorem dX3_bringBack_12 : decode cX3_bringBack 12 = .ok (.irem, 1) := by decide +kernel
theorem dX3_bringBack_13 : decode cX3_bringBack 13 = .ok (.putfield 18, 3) := by decide +kernel
theorem dX3_bringBack_16 : decode cX3_bringBack 16 = .ok (.aload_n 0, 1) := by decide +kernel
theorem dX3_bringBack_17 : decode cX3_bringBack 17 = .ok (.dup, 1) := by decide +kernel
theorem dX3_bringBack_18 : decode cX3_bringBack 18 = .ok (.getfield 26, 3) := by decide +kernel
theorem dX3_bringBack_21 : decode cX3_bringBack 21 = .ok (.iload_n 2, 1) := by decide +kernel
theorem dX3_bringBack_22 : decode cX3_bringBack 22 = .ok (.isub, 1) := by decide +kernel
theorem dX3_bringBack_23 : decode cX3_bringBack 23 = .ok (.putfield 26, 3) := by decide +kernel
theorem dX3_bringBack_26 : decode cX3_bringBack 26 = .ok (.aload_n 1, 1) := by decide +kernel
theorem dX3_bringBack_27 : decode cX3_bringBack 27 = .ok (.aload_n 0, 1) := by decide +kernel
theorem dX3_bringBack_28 : decode cX3_bringBack 28 = .ok (.getfield 11, 3) := by decide +kernel
theorem dX3_bringBack_31 : decode cX3_bringBack 31 = .ok (.aload_n 0, 1) := by decide +kernel
theorem dX3_bringBack_32 : decode cX3_bringBack 32 = .ok (.getfield 18, 3) := by decide +kernel
theorem dX3_bringBack_35 : decode cX3_bringBack 35 = .ok (.aaload, 1) := by decide +kernel
theorem dX3_bringBack_36 : decode cX3_bringBack 36 = .ok (.invokevirtual 22, 3) := by decide +kernel
theorem dX3_bringBack_39 : decode cX3_bringBack 39 = .ok (.return_, 1) := by decide +kernel
theorem dX3_forget_0 : decode cX3_forget 0 = .ok (.aload_n 0, 1) := by decide +kernel
theorem dX3_forget_1 : decode cX3_forget 1 = .ok (.iconst 0, 1) := by decide +kernel
theorem dX3_forget_2 : decode cX3_forget 2 = .ok (.putfield 26, 3) := by decide +kernel
theorem dX3_forget_5 : decode cX3_forget 5 = .ok (.return_, 1) := by decide +kernel
theorem dX4_init_0 : decode cX4_init 0 = .ok (.aload_n 0, 1) := by decide +kernel
theorem dX4_init_1 : decode cX4_init 1 = .ok (.invokespecial 3, 3) := by decide +kernel
theorem dX4_init_4 : decode cX4_init 4 = .ok (.aload_n 0, 1) := by decide +kernel
theorem dX4_init_5 : decode cX4_init 5 = .ok (.bipush 64, 2) := by decide +kernel
theorem dX4_init_7 : decode cX4_init 7 = .ok (.newarray .int, 2) := by decide +kernel
theorem dX4_init_9 : decode cX4_init 9 = .ok (.putfield 9, 3) := by decide +kernel
theorem dX4_init_12 : decode cX4_init 12 = .ok (.aload_n 0, 1) := by decide +kernel
theorem dX4_init_13 : decode cX4_init 13 = .ok (.bipush 10, 2) := by decide +kernel
theorem dX4_init_15 : decode cX4_init 15 = .ok (.newarray .int, 2) := by decide +kernel
theorem dX4_init_17 : decode cX4_init 17 = .ok (.putfield 15, 3) := by decide +kernel
theorem dX4_init_20 : decode cX4_init 20 = .ok (.aload_n 0, 1) := by decide +kernel
theorem dX4_init_21 : decode cX4_init 21 = .ok (.bipush 10, 2) := by decide +kernel
theorem dX4_init_23 : decode cX4_init 23 = .ok (.newarray .int, 2) := by decide +kernel
theorem dX4_init_25 : decode cX4_init 25 = .ok (.putfield 18, 3) := by decide +kernel
theorem dX4_init_28 : decode cX4_init 28 = .ok (.aload_n 0, 1) := by decide +kernel
theorem dX4_init_29 : decode cX4_init 29 = .ok (.bipush 20, 2) := by decide +kernel
theorem dX4_init_31 : decode cX4_init 31 = .ok (.newarray .int, 2) := by decide +kernel
theorem dX4_init_33 : decode cX4_init 33 = .ok (.putfield 21, 3) := by decide +kernel
theorem dX4_init_36 : decode cX4_init 36 = .ok (.aload_n 0, 1) := by decide +kernel
theorem dX4_init_37 : decode cX4_init 37 = .ok (.bipush 20, 2) := by decide +kernel
theorem dX4_init_39 : decode cX4_init 39 = .ok (.newarray .int, 2) := by decide +kernel
theorem dX4_init_41 : decode cX4_init 41 = .ok (.putfield 24, 3) := by decide +kernel
theorem dX4_init_44 : decode cX4_init 44 = .ok (.aload_n 0, 1) := by decide +kernel
theorem dX4_init_45 : decode cX4_init 45 = .ok (.sipush 160, 3) := by decide +kernel
theorem dX4_init_48 : decode cX4_init 48 = .ok (.newarray .int, 2) := by decide +kernel
theorem dX4_init_50 : decode cX4_init 50 = .ok (.putfield 27, 3) := by decide +kernel
theorem dX4_init_53 : decode cX4_init 53 = .ok (.aload_n 0, 1) := by decide +kernel
theorem dX4_init_54 : decode cX4_init 54 = .ok (.bipush 20, 2) := by decide +kernel
theorem dX4_init_56 : decode cX4_init 56 = .ok (.newarray .int, 2) := by decide +kernel
theorem dX4_init_58 : decode cX4_init 58 = .ok (.putfield 30, 3) := by decide +kernel
theorem dX4_init_61 : decode cX4_init 61 = .ok (.aload_n 0, 1) := by decide +kernel
theorem dX4_init_62 : decode cX4_init 62 = .ok (.bipush 20, 2) := by decide +kernel
theorem dX4_init_64 : decode cX4_init 64 = .ok (.newarray .int, 2) := by decide +kernel
theorem dX4_init_66 : decode cX4_init 66 = .ok (.putfield 33, 3) := by decide +kernel
theorem dX4_init_69 : decode cX4_init 69 = .ok (.aload_n 0, 1) := by decide +kernel
theorem dX4_init_70 : decode cX4_init 70 = .ok (.bipush 20, 2) := by decide +kernel
theorem dX4_init_72 : decode cX4_init 72 = .ok (.newarray .int, 2) := by decide +kernel
theorem dX4_init_74 : decode cX4_init 74 = .ok (.putfield 36, 3) := by decide +kernel
theorem dX4_init_77 : decode cX4_init 77 = .ok (.return_, 1) := by decide +kernel
theorem dX4_become_0 : decode cX4_become 0 = .ok (.aload_n 0, 1) := by decide +kernel
theorem dX4_become_1 : decode cX4_become 1 = .ok (.aload_n 1, 1) := by decide +kernel
theorem dX4_become_2 : decode cX4_become 2 = .ok (.getfield 39, 3) := by decide +kernel
theorem dX4_become_5 : decode cX4_become 5 = .ok (.putfield 39, 3) := by decide +kernel
theorem dX4_become_8 : decode cX4_become 8 = .ok (.aload_n 0, 1) := by decide +kernel
theorem dX4_become_9 : decode cX4_become 9 = .ok (.aload_n 1, 1) := by decide +kernel
theorem dX4_become_10 : decode cX4_become 10 = .ok (.getfield 43, 3) := by decide +kernel
theorem dX4_become_13 : decode cX4_become 13 = .ok (.putfield 43, 3) := by decide +kernel
theorem dX4_become_16 : decode cX4_become 16 = .ok (.aload_n 0, 1) := by decide +kernel
theorem dX4_become_17 : decode cX4_become 17 = .ok (.aload_n 1, 1) := by decide +kernel
theorem dX4_become_18 : decode cX4_become 18 = .ok (.getfield 46, 3) := by decide +kernel
theorem dX4_become_21 : decode cX4_become 21 = .ok (.putfield 46, 3) := by decide +kernel
theorem dX4_become_24 : decode cX4_become 24 = .ok (.aload_n 1, 1) := by decide +kernel
theorem dX4_become_25 : decode cX4_become 25 = .ok (.getfield 9, 3) := by decide +kernel
theorem dX4_become_28 : decode cX4_become 28 = .ok (.iconst 0, 1) := by decide +kernel
theorem dX4_become_29 : decode cX4_become 29 = .ok (.aload_n 0, 1) := by decide +kernel
theorem dX4_become_30 : decode cX4_become 30 = .ok (.getfield 9, 3) := by decide +kernel
theorem dX4_become_33 : decode cX4_become 33 = .ok (.iconst 0, 1) := by decide +kernel
theorem dX4_become_34 : decode cX4_become 34 = .ok (.bipush 64, 2) := by decide +kernel
theorem dX4_become_36 : decode cX4_become 36 = .ok (.invokestatic 49, 3) := by decide +kernel
theorem dX4_become_39 : decode cX4_become 39 = .ok (.aload_n 1, 1) := by decide +kernel
theorem dX4_become_40 : decode cX4_become 40 = .ok (.getfield 15, 3) := by decide +kernel
theorem dX4_become_43 : decode cX4_become 43 = .ok (.iconst 0, 1) := by decide +kernel
theorem dX4_become_44 : decode cX4_become 44 = .ok (.aload_n 0, 1) := by decide +kernel
theorem dX4_become_45 : decode cX4_become 45 = .ok (.getfield 15, 3) := by decide +kernel
theorem dX4_become_48 : decode cX4_become 48 = .ok (.iconst 0, 1) := by decide +kernel
theorem dX4_become_49 : decode cX4_become 49 = .ok (.bipush 10, 2) := by decide +kernel
theorem dX4_become_51 : decode cX4_become 51 = .ok (.invokestatic 49, 3) := by decide +kernel
theorem dX4_become_54 : decode cX4_become 54 = .ok (.aload_n 1, 1) := by decide +kernel
theorem dX4_become_55 : decode cX4_become 55 = .ok (.getfield 18, 3) := by decide +kernel
theorem dX4_become_58 : decode cX4_become 58 = .ok (.iconst 0, 1) := by decide +kernel
theorem dX4_become_59 : decode cX4_become 59 = .ok (.aload_n 0, 1) := by decide +kernel
theorem dX4_become_60 : decode cX4_become 60 = .ok (.getfield 18, 3) := by decide +kernel
theorem dX4_become_63 : decode cX4_become 63 = .ok (.iconst 0, 1) := by decide +kernel
theorem dX4_become_64 : decode cX4_become 64 = .ok (.bipush 10, 2) := by decide +kernel
theorem dX4_become_66 : decode cX4_become 66 = .ok (.invokestatic 49, 3) := by decide +kernel
theorem dX4_become_69 : decode cX4_become 69 = .ok (.aload_n 1, 1) := by decide +kernel
theorem dX4_become_70 : decode cX4_become 70 = .ok (.getfield 21, 3) := by decide +kernel
theorem dX4_become_73 : decode cX4_become 73 = .ok (.iconst 0, 1) := by decide +kernel
theorem dX4_become_74 : decode cX4_become 74 = .ok (.aload_n 0, 1) := by decide +kernel
theorem dX4_become_75 : decode cX4_become 75 = .ok (.getfield 21, 3) := by decide +kernel
theorem dX4_become_78 : decode cX4_become 78 = .ok (.iconst 0, 1) := by decide +kernel
theorem dX4_become_79 : decode cX4_become 79 = .ok (.bipush 20, 2) := by decide +kernel
theorem dX4_become_81 : decode cX4_become 81 = .ok (.invokestatic 49, 3) := by decide +kernel
theorem dX4_become_84 : decode cX4_become 84 = .ok (.aload_n 1, 1) := by decide +kernel
theorem dX4_become_85 : decode cX4_become 85 = .ok (.getfield 24, 3) := by decide +kernel
theorem dX4_become_88 : decode cX4_become 88 = .ok (.iconst 0, 1) := by decide +kernel
theorem dX4_become_89 : decode cX4_become 89 = .ok (.aload_n 0, 1) := by decide +kernel
theorem dX4_become_90 : decode cX4_become 90 = .ok (.getfield 24, 3) := by decide +kernel
theorem dX4_become_93 : decode cX4_become 93 = .ok (.iconst 0, 1) := by decide +kernel
theorem dX4_become_94 : decode cX4_become 94 = .ok (.bipush 20, 2) := by decide +kernel
theorem dX4_become_96 : decode cX4_become 96 = .ok (.invokestatic 49, 3) := by decide +kernel
theorem dX4_become_99 : decode cX4_become 99 = .ok (.aload_n 1, 1) := by decide +kernel
theorem dX4_become_100 : decode cX4_become 100 = .ok (.getfield 27, 3) := by decide +kernel
theorem dX4_become_103 : decode cX4_become 103 = .ok (.iconst 0, 1) := by decide +kernel
theorem dX4_become_104 : decode cX4_become 104 = .ok (.aload_n 0, 1) := by decide +kernel
theorem dX4_become_105 : decode cX4_become 105 = .ok (.getfield 27, 3) := by decide +kernel
theorem dX4_become_108 : decode cX4_become 108 = .ok (.iconst 0, 1) := by decide +kernel
theorem dX4_become_109 : decode cX4_become 109 = .ok (.sipush 160, 3) := by decide +kernel
theorem dX4_become_112 : decode cX4_become 112 = .ok (.invokestatic 49, 3) := by decide +kernel
theorem dX4_become_115 : decode cX4_become 115 = .ok (.aload_n 1, 1) := by decide +kernel
theorem dX4_become_116 : decode cX4_become 116 = .ok (.getfield 30, 3) := by decide +kernel
theorem dX4_become_119 : decode cX4_become 119 = .ok (.iconst 0, 1) := by decide +kernel
theorem dX4_become_120 : decode cX4_become 120 = .ok (.aload_n 0, 1) := by decide +kernel
theorem dX4_become_121 : decode cX4_become 121 = .ok (.getfield 30, 3) := by decide +kernel
theorem dX4_become_124 : decode cX4_become 124 = .ok (.iconst 0, 1) := by decide +kernel
theorem dX4_become_125 : decode cX4_become 125 = .ok (.bipush 20, 2) := by decide +kernel
theorem dX4_become_127 : decode cX4_become 127 = .ok (.invokestatic 49, 3) := by decide +kernel
theorem dX4_become_130 : decode cX4_become 130 = .ok (.aload_n 1, 1) := by decide +kernel
theorem dX4_become_131 : decode cX4_become 131 = .ok (.getfield 33, 3) := by decide +kernel
theorem dX4_become_134 : decode cX4_become 134 = .ok (.iconst 0, 1) := by decide +kernel
theorem dX4_become_135 : decode cX4_become 135 = .ok (.aload_n 0, 1) := by decide +kernel
theorem dX4_become_136 : decode cX4_become 136 = .ok (.getfield 33, 3) := by decide +kernel
theorem dX4_become_139 : decode cX4_become 139 = .ok (.iconst 0, 1) := by decide +kernel
theorem dX4_become_140 : decode cX4_become 140 = .ok (.bipush 20, 2) := by decide +kernel
theorem dX4_become_142 : decode cX4_become 142 = .ok (.invokestatic 49, 3) := by decide +kernel
theorem dX4_become_145 : decode cX4_become 145 = .ok (.aload_n 1, 1) := by decide +kernel
theorem dX4_become_146 : decode cX4_become 146 = .ok (.getfield 36, 3) := by decide +kernel
theorem dX4_become_149 : decode cX4_become 149 = .ok (.iconst 0, 1) := by decide +kernel
theorem dX4_become_150 : decode cX4_become 150 = .ok (.aload_n 0, 1) := by decide +kernel
theorem dX4_become_151 : decode cX4_become 151 = .ok (.getfield 36, 3) := by decide +kernel
theorem dX4_become_154 : decode cX4_become 154 = .ok (.iconst 0, 1) := by decide +kernel
theorem dX4_become_155 : decode cX4_become 155 = .ok (.bipush 20, 2) := by decide +kernel
theorem dX4_become_157 : decode cX4_become 157 = .ok (.invokestatic 49, 3) := by decide +kernel
theorem dX4_become_160 : decode cX4_become 160 = .ok (.return_, 1) := by decide +kernel
theorem dX4_becomeNew_0 : decode cX4_becomeNew 0 = .ok (.aload_n 0, 1) := by decide +kernel
theorem dX4_becomeNew_1 : decode cX4_becomeNew 1 = .ok (.iload_n 1, 1) := by decide +kernel
theorem dX4_becomeNew_2 : decode cX4_becomeNew 2 = .ok (.iconst 2, 1) := by decide +kernel
theorem dX4_becomeNew_3 : decode cX4_becomeNew 3 = .ok (.if_icmp .ne 8, 3) := by decide +kernel
theorem dX4_becomeNew_6 : decode cX4_becomeNew 6 = .ok (.bipush 8, 2) := by decide +kernel
theorem dX4_becomeNew_8 : decode cX4_becomeNew 8 = .ok (.goto 4, 3) := by decide +kernel
theorem dX4_becomeNew_11 : decode cX4_becomeNew 11 = .ok (.iload_n 2, 1) := by decide +kernel
theorem dX4_becomeNew_12 : decode cX4_becomeNew 12 = .ok (.putfield 39, 3) := by decide +kernel
theorem dX4_becomeNew_15 : decode cX4_becomeNew 15 = .ok (.aload_n 0, 1) := by decide +kernel
theorem dX4_becomeNew_16 : decode cX4_becomeNew 16 = .ok (.iload_n 3, 1) := by decide +kernel
theorem dX4_becomeNew_17 : decode cX4_becomeNew 17 = .ok (.putfield 43, 3) := by decide +kernel
theorem dX4_becomeNew_20 : decode cX4_becomeNew 20 = .ok (.aload_n 0, 1) := by decide +kernel
theorem dX4_becomeNew_21 : decode cX4_becomeNew 21 = .ok (.iconst 0, 1) := by decide +kernel
theorem dX4_becomeNew_22 : decode cX4_becomeNew 22 = .ok (.putfield 46, 3) := by decide +kernel
theorem dX4_becomeNew_25 : decode cX4_becomeNew 25 = .ok (.iconst 0, 1) := by decide +kernel
theorem dX4_becomeNew_26 : decode cX4_becomeNew 26 = .ok (.istore 4, 2) := by decide +kernel
theorem dX4_becomeNew_28 : decode cX4_becomeNew 28 = .ok (.iload 4, 2) := by decide +kernel
theorem dX4_becomeNew_30 : decode cX4_becomeNew 30 = .ok (.aload_n 0, 1) := by decide +kernel
theorem dX4_becomeNew_31 : decode cX4_becomeNew 31 = .ok (.getfield 39, 3) := by decide +kernel
theorem dX4_becomeNew_34 : decode cX4_becomeNew 34 = .ok (.if_icmp .ge 49, 3) := by decide +kernel
theorem dX4_becomeNew_37 : decode cX4_becomeNew 37 = .ok (.iconst 0, 1) := by decide +kernel
theorem dX4_becomeNew_38 : decode cX4_becomeNew 38 = .ok (.istore 5, 2) := by decide +kernel
theorem dX4_becomeNew_40 : decode cX4_becomeNew 40 = .ok (.iload 5, 2) := by decide +kernel
theorem dX4_becomeNew_42 : decode cX4_becomeNew 42 = .ok (.aload_n 0, 1) := by decide +kernel
theorem dX4_becomeNew_43 : decode cX4_becomeNew 43 = .ok (.getfield 39, 3) := by decide +kernel
theorem dX4_becomeNew_46 : decode cX4_becomeNew 46 = .ok (.if_icmp .ge 31, 3) := by decide +kernel
theorem dX4_becomeNew_49 : decode cX4_becomeNew 49 = .ok (.aload_n 0, 1) := by decide +kernel
theorem dX4_becomeNew_50 : decode cX4_becomeNew 50 = .ok (.getfield 9, 3) := by decide +kernel
theorem dX4_becomeNew_53 : decode cX4_becomeNew 53 = .ok (.iload 4, 2) := by decide +kernel
theorem dX4_becomeNew_55 : decode cX4_becomeNew 55 = .ok (.bipush 8, 2) := by decide +kernel
theorem dX4_becomeNew_57 : decode cX4_becomeNew 57 = .ok (.imul, 1) := by decide +kernel
theorem dX4_becomeNew_58 : decode cX4_becomeNew 58 = .ok (.iload 5, 2) := by decide +kernel
theorem dX4_becomeNew_60 : decode cX4_becomeNew 60 = .ok (.iadd, 1) := by decide +kernel
theorem dX4_becomeNew_61 : decode cX4_becomeNew 61 = .ok (.aload_n 0, 1) := by decide +kernel
theorem dX4_becomeNew_62 : decode cX4_becomeNew 62 = .ok (.iload_n 1, 1) := by decide +kernel
theorem dX4_becomeNew_63 : decode cX4_becomeNew 63 = .ok (.iload 4, 2) := by decide +kernel
theorem dX4_becomeNew_65 : decode cX4_becomeNew 65 = .ok (.iload 5, 2) := by decide +kernel
theorem dX4_becomeNew_67 : decode cX4_becomeNew 67 = .ok (.invokevirtual 55, 3) := by decide +kernel
theorem dX4_becomeNew_70 : decode cX4_becomeNew 70 = .ok (.iastore, 1) := by decide +kernel
theorem dX4_becomeNew_71 : decode cX4_becomeNew 71 = .ok (.iinc 5 1, 3) := by decide +kernel
theorem dX4_becomeNew_74 : decode cX4_becomeNew 74 = .ok (.goto (-34), 3) := by decide +kernel
theorem dX4_becomeNew_77 : decode cX4_becomeNew 77 = .ok (.iinc 4 1, 3) := by decide +kernel
theorem dX4_becomeNew_80 : decode cX4_becomeNew 80 = .ok (.goto (-52), 3) := by decide +kernel
theorem dX4_becomeNew_83 : decode cX4_becomeNew 83 = .ok (.iconst 0, 1) := by decide +kernel
theorem dX4_becomeNew_84 : decode cX4_becomeNew 84 = .ok (.istore 4, 2) := by decide +kernel
theorem dX4_becomeNew_86 : decode cX4_becomeNew 86 = .ok (.iload 4, 2) := by decide +kernel
theorem dX4_becomeNew_88 : decode cX4_becomeNew 88 = .ok (.bipush 10, 2) := by decide +kernel
theorem dX4_becomeNew_90 : decode cX4_becomeNew 90 = .ok (.if_icmp .ge 25, 3) := by decide +kernel
theorem dX4_becomeNew_93 : decode cX4_becomeNew 93 = .ok (.aload_n 0, 1) := by decide +kernel
theorem dX4_becomeNew_94 : decode cX4_becomeNew 94 = .ok (.getfield 15, 3) := by decide +kernel
theorem dX4_becomeNew_97 : decode cX4_becomeNew 97 = .ok (.iload 4, 2) := by decide +kernel
theorem dX4_becomeNew_99 : decode cX4_becomeNew 99 = .ok (.iconst 0, 1) := by decide +kernel
theorem dX4_becomeNew_100 : decode cX4_becomeNew 100 = .ok (.iastore, 1) := by decide +kernel
theorem dX4_becomeNew_101 : decode cX4_becomeNew 101 = .ok (.aload_n 0, 1) := by decide +kernel
theorem dX4_becomeNew_102 : decode cX4_becomeNew 102 = .ok (.getfield 18, 3) := by decide +kernel
theorem dX4_becomeNew_105 : decode cX4_becomeNew 105 = .ok (.iload 4, 2) := by decide +kernel
theorem dX4_becomeNew_107 : decode cX4_becomeNew 107 = .ok (.iconst 0, 1) := by decide +kernel
theorem dX4_becomeNew_108 : decode cX4_becomeNew 108 = .ok (.iastore, 1) := by decide +kernel
theorem dX4_becomeNew_109 : decode cX4_becomeNew 109 = .ok (.iinc 4 1, 3) := by decide +kernel
theorem dX4_becomeNew_112 : decode cX4_becomeNew 112 = .ok (.goto (-26), 3) := by decide +kernel
theorem dX4_becomeNew_115 : decode cX4_becomeNew 115 = .ok (.return_, 1) := by decide +kernel
theorem dX4_joinedByOrder_0 : decode cX4_joinedByOrder 0 = .ok (.iload_n 1, 1) := by decide +kernel
theorem dX4_joinedByOrder_1 : decode cX4_joinedByOrder 1 = .ok (.iconst 2, 1) := by decide +kernel
theorem dX4_joinedByOrder_2 : decode cX4_joinedByOrder 2 = .ok (.if_icmp .ne 7, 3) := by decide +kernel
theorem dX4_joinedByOrder_5 : decode cX4_joinedByOrder 5 = .ok (.iload_n 2, 1) := by decide +kernel
theorem dX4_joinedByOrder_6 : decode cX4_joinedByOrder 6 = .ok (.iload_n 3, 1) := by decide +kernel
theorem dX4_joinedByOrder_7 : decode cX4_joinedByOrder 7 = .ok (.ior, 1) := by decide +kernel
theorem dX4_joinedByOrder_8 : decode cX4_joinedByOrder 8 = .ok (.ireturn, 1) := by decide +kernel
theorem dX4_joinedByOrder_9 : decode cX4_joinedByOrder 9 = .ok (.iload_n 1, 1) := by decide +kernel
theorem dX4_joinedByOrder_10 : decode cX4_joinedByOrder 10 = .ok (.iconst 1, 1) := by decide +kernel
theorem dX4_joinedByOrder_11 : decode cX4_joinedByOrder 11 = .ok (.if_icmp .ne 20, 3) := by decide +kernel
theorem dX4_joinedByOrder_14 : decode cX4_joinedByOrder 14 = .ok (.iload_n 2, 1) := by decide +kernel
theorem dX4_joinedByOrder_15 : decode cX4_joinedByOrder 15 = .ok (.ifCond .eq 16, 3) := by decide +kernel
theorem dX4_joinedByOrder_18 : decode cX4_joinedByOrder 18 = .ok (.iload_n 3, 1) := by decide +kernel
theorem dX4_joinedByOrder_19 : decode cX4_joinedByOrder 19 = .ok (.ifCond .eq 12, 3) := by decide +kernel
theorem dX4_joinedByOrder_22 : decode cX4_joinedByOrder 22 = .ok (.iload_n 2, 1) := by decide +kernel
theorem dX4_joinedByOrder_23 : decode cX4_joinedByOrder 23 = .ok (.iload_n 3, 1) := by decide +kernel
theorem dX4_joinedByOrder_24 : decode cX4_joinedByOrder 24 = .ok (.if_icmp .eq 7, 3) := by decide +kernel
theorem dX4_joinedByOrder_27 : decode cX4_joinedByOrder 27 = .ok (.iconst 1, 1) := by decide +kernel
theorem dX4_joinedByOrder_28 : decode cX4_joinedByOrder 28 = .ok (.goto 4, 3) := by decide +kernel
theorem dX4_joinedByOrder_31 : decode cX4_joinedByOrder 31 = .ok (.iconst 0, 1) := by decide +kernel
theorem dX4_joinedByOrder_32 : decode cX4_joinedByOrder 32 = .ok (.istore 4, 2) := by decide +kernel
theorem dX4_joinedByOrder_34 : decode cX4_joinedByOrder 34 = .ok (.iload 4, 2) := by decide +kernel
theorem dX4_joinedByOrder_36 : decode cX4_joinedByOrder 36 = .ok (.ifCond .eq 12, 3) := by decide +kernel
theorem dX4_joinedByOrder_39 : decode cX4_joinedByOrder 39 = .ok (.aload_n 0, 1) := by decide +kernel
theorem dX4_joinedByOrder_40 : decode cX4_joinedByOrder 40 = .ok (.getfield 39, 3) := by decide +kernel
theorem dX4_joinedByOrder_43 : decode cX4_joinedByOrder 43 = .ok (.iconst 1, 1) := by decide +kernel
theorem dX4_joinedByOrder_44 : decode cX4_joinedByOrder 44 = .ok (.isub, 1) := by decide +kernel
theorem dX4_joinedByOrder_45 : decode cX4_joinedByOrder 45 = .ok (.goto 8, 3) := by decide +kernel
theorem dX4_joinedByOrder_48 : decode cX4_joinedByOrder 48 = .ok (.iload_n 2, 1) := by decide +kernel
theorem dX4_joinedByOrder_49 : decode cX4_joinedByOrder 49 = .ok (.iload_n 3, 1) := by decide +kernel
theorem dX4_joinedByOrder_50 : decode cX4_joinedByOrder 50 = .ok (.invokestatic 59, 3) := by decide +kernel
theorem dX4_joinedByOrder_53 : decode cX4_joinedByOrder 53 = .ok (.ireturn, 1) := by decide +kernel
theorem dX4_hasValue_0 : decode cX4_hasValue 0 = .ok (.iload_n 1, 1) := by decide +kernel
theorem dX4_hasValue_1 : decode cX4_hasValue 1 = .ok (.ifCond .lt 15, 3) := by decide +kernel
theorem dX4_hasValue_4 : decode cX4_hasValue 4 = .ok (.iload_n 1, 1) := by decide +kernel
theorem dX4_hasValue_5 : decode cX4_hasValue 5 = .ok (.aload_n 0, 1) := by decide +kernel
theorem dX4_hasValue_6 : decode cX4_hasValue 6 = .ok (.getfield 39, 3) := by decide +kernel
theorem dX4_hasValue_9 : decode cX4_hasValue 9 = .ok (.if_icmp .ge 7, 3) := by decide +kernel
theorem dX4_hasValue_12 : decode cX4_hasValue 12 = .ok (.iconst 1, 1) := by decide +kernel
theorem dX4_hasValue_13 : decode cX4_hasValue 13 = .ok (.goto 4, 3) := by decide +kernel
theorem dX4_hasValue_16 : decode cX4_hasValue 16 = .ok (.iconst 0, 1) := by decide +kernel
theorem dX4_hasValue_17 : decode cX4_hasValue 17 = .ok (.ireturn, 1) := by decide +kernel
theorem dX4_hasPlace_0 : decode cX4_hasPlace 0 = .ok (.iload_n 1, 1) := by decide +kernel
theorem dX4_hasPlace_1 : decode cX4_hasPlace 1 = .ok (.ifCond .lt 15, 3) := by decide +kernel
theorem dX4_hasPlace_4 : decode cX4_hasPlace 4 = .ok (.iload_n 1, 1) := by decide +kernel
theorem dX4_hasPlace_5 : decode cX4_hasPlace 5 = .ok (.aload_n 0, 1) := by decide +kernel
theorem dX4_hasPlace_6 : decode cX4_hasPlace 6 = .ok (.getfield 43, 3) := by decide +kernel
theorem dX4_hasPlace_9 : decode cX4_hasPlace 9 = .ok (.if_icmp .ge 7, 3) := by decide +kernel
theorem dX4_hasPlace_12 : decode cX4_hasPlace 12 = .ok (.iconst 1, 1) := by decide +kernel
theorem dX4_hasPlace_13 : decode cX4_hasPlace 13 = .ok (.goto 4, 3) := by decide +kernel
theorem dX4_hasPlace_16 : decode cX4_hasPlace 16 = .ok (.iconst 0, 1) := by decide +kernel
theorem dX4_hasPlace_17 : decode cX4_hasPlace 17 = .ok (.ireturn, 1) := by decide +kernel
theorem dX4_hasWay_0 : decode cX4_hasWay 0 = .ok (.iload_n 1, 1) := by decide +kernel
theorem dX4_hasWay_1 : decode cX4_hasWay 1 = .ok (.ifCond .lt 15, 3) := by decide +kernel
theorem dX4_hasWay_4 : decode cX4_hasWay 4 = .ok (.iload_n 1, 1) := by decide +kernel
theorem dX4_hasWay_5 : decode cX4_hasWay 5 = .ok (.aload_n 0, 1) := by decide +kernel
theorem dX4_hasWay_6 : decode cX4_hasWay 6 = .ok (.getfield 46, 3) := by decide +kernel
theorem dX4_hasWay_9 : decode cX4_hasWay 9 = .ok (.if_icmp .ge 7, 3) := by decide +kernel
theorem dX4_hasWay_12 : decode cX4_hasWay 12 = .ok (.iconst 1, 1) := by decide +kernel
theorem dX4_hasWay_13 : decode cX4_hasWay 13 = .ok (.goto 4, 3) := by decide +kernel
theorem dX4_hasWay_16 : decode cX4_hasWay 16 = .ok (.iconst 0, 1) := by decide +kernel
theorem dX4_hasWay_17 : decode cX4_hasWay 17 = .ok (.ireturn, 1) := by decide +kernel
theorem dX4_join_0 : decode cX4_join 0 = .ok (.aload_n 0, 1) := by decide +kernel
theorem dX4_join_1 : decode cX4_join 1 = .ok (.getfield 9, 3) := by decide +kernel
theorem dX4_join_4 : decode cX4_join 4 = .ok (.iload_n 1, 1) := by decide +kernel
theorem dX4_join_5 : decode cX4_join 5 = .ok (.bipush 8, 2) := by decide +kernel
theorem dX4_join_7 : decode cX4_join 7 = .ok (.imul, 1) := by decide +kernel
theorem dX4_join_8 : decode cX4_join 8 = .ok (.iload_n 2, 1) := by decide +kernel
theorem dX4_join_9 : decode cX4_join 9 = .ok (.iadd, 1) := by decide +kernel
theorem dX4_join_10 : decode cX4_join 10 = .ok (.iaload, 1) := by decide +kernel
theorem dX4_join_11 : decode cX4_join 11 = .ok (.ireturn, 1) := by decide +kernel
theorem dX4_isBelow_0 : decode cX4_isBelow 0 = .ok (.aload_n 0, 1) := by decide +kernel
theorem dX4_isBelow_1 : decode cX4_isBelow 1 = .ok (.getfield 9, 3) := by decide +kernel
theorem dX4_isBelow_4 : decode cX4_isBelow 4 = .ok (.iload_n 1, 1) := by decide +kernel
theorem dX4_isBelow_5 : decode cX4_isBelow 5 = .ok (.bipush 8, 2) := by decide +kernel
theorem dX4_isBelow_7 : decode cX4_isBelow 7 = .ok (.imul, 1) := by decide +kernel
theorem dX4_isBelow_8 : decode cX4_isBelow 8 = .ok (.iload_n 2, 1) := by decide +kernel
theorem dX4_isBelow_9 : decode cX4_isBelow 9 = .ok (.iadd, 1) := by decide +kernel
theorem dX4_isBelow_10 : decode cX4_isBelow 10 = .ok (.iaload, 1) := by decide +kernel
theorem dX4_isBelow_11 : decode cX4_isBelow 11 = .ok (.iload_n 2, 1) := by decide +kernel
theorem dX4_isBelow_12 : decode cX4_isBelow 12 = .ok (.if_icmp .ne 7, 3) := by decide +kernel
theorem dX4_isBelow_15 : decode cX4_isBelow 15 = .ok (.iconst 1, 1) := by decide +kernel
theorem dX4_isBelow_16 : decode cX4_isBelow 16 = .ok (.goto 4, 3) := by decide +kernel
theorem dX4_isBelow_19 : decode cX4_isBelow 19 = .ok (.iconst 0, 1) := by decide +kernel
theorem dX4_isBelow_20 : decode cX4_isBelow 20 = .ok (.ireturn, 1) := by decide +kernel
theorem dX4_brokenLaw_0 : decode cX4_brokenLaw 0 = .ok (.aload_n 0, 1) := by decide +kernel
theorem dX4_brokenLaw_1 : decode cX4_brokenLaw 1 = .ok (.invokevirtual 65, 3) := by decide +kernel
theorem dX4_brokenLaw_4 : decode cX4_brokenLaw 4 = .ok (.ifCond .ne 5, 3) := by decide +kernel
theorem dX4_brokenLaw_7 : decode cX4_brokenLaw 7 = .ok (.iconst 1, 1) := by decide +kernel
theorem dX4_brokenLaw_8 : decode cX4_brokenLaw 8 = .ok (.ireturn, 1) := by decide +kernel
theorem dX4_brokenLaw_9 : decode cX4_brokenLaw 9 = .ok (.aload_n 0, 1) := by decide +kernel
theorem dX4_brokenLaw_10 : decode cX4_brokenLaw 10 = .ok (.invokevirtual 69, 3) := by decide +kernel
theorem dX4_brokenLaw_13 : decode cX4_brokenLaw 13 = .ok (.ifCond .ne 5, 3) := by decide +kernel
theorem dX4_brokenLaw_16 : decode cX4_brokenLaw 16 = .ok (.iconst 2, 1) := by decide +kernel
theorem dX4_brokenLaw_17 : decode cX4_brokenLaw 17 = .ok (.ireturn, 1) := by decide +kernel
theorem dX4_brokenLaw_18 : decode cX4_brokenLaw 18 = .ok (.aload_n 0, 1) := by decide +kernel
theorem dX4_brokenLaw_19 : decode cX4_brokenLaw 19 = .ok (.invokevirtual 72, 3) := by decide +kernel
theorem dX4_brokenLaw_22 : decode cX4_brokenLaw 22 = .ok (.ifCond .ne 5, 3) := by decide +kernel
theorem dX4_brokenLaw_25 : decode cX4_brokenLaw 25 = .ok (.iconst 3, 1) := by decide +kernel
theorem dX4_brokenLaw_26 : decode cX4_brokenLaw 26 = .ok (.ireturn, 1) := by decide +kernel
theorem dX4_brokenLaw_27 : decode cX4_brokenLaw 27 = .ok (.aload_n 0, 1) := by decide +kernel
theorem dX4_brokenLaw_28 : decode cX4_brokenLaw 28 = .ok (.invokevirtual 75, 3) := by decide +kernel
theorem dX4_brokenLaw_31 : decode cX4_brokenLaw 31 = .ok (.ifCond .eq 7, 3) := by decide +kernel
theorem dX4_brokenLaw_34 : decode cX4_brokenLaw 34 = .ok (.iconst 0, 1) := by decide +kernel
theorem dX4_brokenLaw_35 : decode cX4_brokenLaw 35 = .ok (.goto 4, 3) := by decide +kernel
theorem dX4_brokenLaw_38 : decode cX4_brokenLaw 38 = .ok (.iconst 4, 1) := by decide +kernel
theorem dX4_brokenLaw_39 : decode cX4_brokenLaw 39 = .ok (.ireturn, 1) := by decide +kernel
theorem dX4_joinsWithItself_0 : decode cX4_joinsWithItself 0 = .ok (.iconst 0, 1) := by decide +kernel
theorem dX4_joinsWithItself_1 : decode cX4_joinsWithItself 1 = .ok (.istore_n 1, 1) := by decide +kernel
theorem dX4_joinsWithItself_2 : decode cX4_joinsWithItself 2 = .ok (.iload_n 1, 1) := by decide +kernel
theorem dX4_joinsWithItself_3 : decode cX4_joinsWithItself 3 = .ok (.aload_n 0, 1) := by decide +kernel
theorem dX4_joinsWithItself_4 : decode cX4_joinsWithItself 4 = .ok (.getfield 39, 3) := by decide +kernel
theorem dX4_joinsWithItself_7 : decode cX4_joinsWithItself 7 = .ok (.if_icmp .ge 21, 3) := by decide +kernel
theorem dX4_joinsWithItself_10 : decode cX4_joinsWithItself 10 = .ok (.aload_n 0, 1) := by decide +kernel
theorem dX4_joinsWithItself_11 : decode cX4_joinsWithItself 11 = .ok (.iload_n 1, 1) := by decide +kernel
theorem dX4_joinsWithItself_12 : decode cX4_joinsWithItself 12 = .ok (.iload_n 1, 1) := by decide +kernel
theorem dX4_joinsWithItself_13 : decode cX4_joinsWithItself 13 = .ok (.invokevirtual 78, 3) := by decide +kernel
theorem dX4_joinsWithItself_16 : decode cX4_joinsWithItself 16 = .ok (.iload_n 1, 1) := by decide +kernel
theorem dX4_joinsWithItself_17 : decode cX4_joinsWithItself 17 = .ok (.if_icmp .eq 5, 3) := by decide +kernel
theorem dX4_joinsWithItself_20 : decode cX4_joinsWithItself 20 = .ok (.iconst 0, 1) := by decide +kernel
theorem dX4_joinsWithItself_21 : decode cX4_joinsWithItself 21 = .ok (.ireturn, 1) := by decide +kernel
theorem dX4_joinsWithItself_22 : decode cX4_joinsWithItself 22 = .ok (.iinc 1 1, 3) := by decide +kernel
theorem dX4_joinsWithItself_25 : decode cX4_joinsWithItself 25 = .ok (.goto (-23), 3) := by decide +kernel
theorem dX4_joinsWithItself_28 : decode cX4_joinsWithItself 28 = .ok (.iconst 1, 1) := by decide +kernel
theorem dX4_joinsWithItself_29 : decode cX4_joinsWithItself 29 = .ok (.ireturn, 1) := by decide +kernel
theorem dX4_joinsBothWaysAlike_0 : decode cX4_joinsBothWaysAlike 0 = .ok (.iconst 0, 1) := by decide +kernel
theorem dX4_joinsBothWaysAlike_1 : decode cX4_joinsBothWaysAlike 1 = .ok (.istore_n 1, 1) := by decide +kernel
theorem dX4_joinsBothWaysAlike_2 : decode cX4_joinsBothWaysAlike 2 = .ok (.iload_n 1, 1) := by decide +kernel
theorem dX4_joinsBothWaysAlike_3 : decode cX4_joinsBothWaysAlike 3 = .ok (.aload_n 0, 1) := by decide +kernel
theorem dX4_joinsBothWaysAlike_4 : decode cX4_joinsBothWaysAlike 4 = .ok (.getfield 39, 3) := by decide +kernel
theorem dX4_joinsBothWaysAlike_7 : decode cX4_joinsBothWaysAlike 7 = .ok (.if_icmp .ge 39, 3) := by decide +kernel
theorem dX4_joinsBothWaysAlike_10 : decode cX4_joinsBothWaysAlike 10 = .ok (.iconst 0, 1) := by decide +kernel
theorem dX4_joinsBothWaysAlike_11 : decode cX4_joinsBothWaysAlike 11 = .ok (.istore_n 2, 1) := by decide +kernel
theorem dX4_joinsBothWaysAlike_12 : decode cX4_joinsBothWaysAlike 12 = .ok (.iload_n 2, 1) := by decide +kernel
theorem dX4_joinsBothWaysAlike_13 : decode cX4_joinsBothWaysAlike 13 = .ok (.iload_n 1, 1) := by decide +kernel
theorem dX4_joinsBothWaysAlike_14 : decode cX4_joinsBothWaysAlike 14 = .ok (.if_icmp .ge 26, 3) := by decide +kernel
theorem dX4_joinsBothWaysAlike_17 : decode cX4_joinsBothWaysAlike 17 = .ok (.aload_n 0, 1) := by decide +kernel
theorem dX4_joinsBothWaysAlike_18 : decode cX4_joinsBothWaysAlike 18 = .ok (.iload_n 1, 1) := by decide +kernel
theorem dX4_joinsBothWaysAlike_19 : decode cX4_joinsBothWaysAlike 19 = .ok (.iload_n 2, 1) := by decide +kernel
theorem dX4_joinsBothWaysAlike_20 : decode cX4_joinsBothWaysAlike 20 = .ok (.invokevirtual 78, 3) := by decide +kernel
theorem dX4_joinsBothWaysAlike_23 : decode cX4_joinsBothWaysAlike 23 = .ok (.aload_n 0, 1) := by decide +kernel
theorem dX4_joinsBothWaysAlike_24 : decode cX4_joinsBothWaysAlike 24 = .ok (.iload_n 2, 1) := by decide +kernel
theorem dX4_joinsBothWaysAlike_25 : decode cX4_joinsBothWaysAlike 25 = .ok (.iload_n 1, 1) := by decide +kernel
theorem dX4_joinsBothWaysAlike_26 : decode cX4_joinsBothWaysAlike 26 = .ok (.invokevirtual 78, 3) := by decide +kernel
theorem dX4_joinsBothWaysAlike_29 : decode cX4_joinsBothWaysAlike 29 = .ok (.if_icmp .eq 5, 3) := by decide +kernel
theorem dX4_joinsBothWaysAlike_32 : decode cX4_joinsBothWaysAlike 32 = .ok (.iconst 0, 1) := by decide +kernel
theorem dX4_joinsBothWaysAlike_33 : decode cX4_joinsBothWaysAlike 33 = .ok (.ireturn, 1) := by decide +kernel
theorem dX4_joinsBothWaysAlike_34 : decode cX4_joinsBothWaysAlike 34 = .ok (.iinc 2 1, 3) := by decide +kernel
theorem dX4_joinsBothWaysAlike_37 : decode cX4_joinsBothWaysAlike 37 = .ok (.goto (-25), 3) := by decide +kernel
theorem dX4_joinsBothWaysAlike_40 : decode cX4_joinsBothWaysAlike 40 = .ok (.iinc 1 1, 3) := by decide +kernel
theorem dX4_joinsBothWaysAlike_43 : decode cX4_joinsBothWaysAlike 43 = .ok (.goto (-41), 3) := by decide +kernel
theorem dX4_joinsBothWaysAlike_46 : decode cX4_joinsBothWaysAlike 46 = .ok (.iconst 1, 1) := by decide +kernel
theorem dX4_joinsBothWaysAlike_47 : decode cX4_joinsBothWaysAlike 47 = .ok (.ireturn, 1) := by decide +kernel
theorem dX4_joinsInAnyGroupsAlike_0 : decode cX4_joinsInAnyGroupsAlike 0 = .ok (.iconst 0, 1) := by decide +kernel
theorem dX4_joinsInAnyGroupsAlike_1 : decode cX4_joinsInAnyGroupsAlike 1 = .ok (.istore_n 1, 1) := by decide +kernel
theorem dX4_joinsInAnyGroupsAlike_2 : decode cX4_joinsInAnyGroupsAlike 2 = .ok (.iload_n 1, 1) := by decide +kernel
theorem dX4_joinsInAnyGroupsAlike_3 : decode cX4_joinsInAnyGroupsAlike 3 = .ok (.aload_n 0, 1) := by decide +kernel
theorem dX4_joinsInAnyGroupsAlike_4 : decode cX4_joinsInAnyGroupsAlike 4 = .ok (.getfield 39, 3) := by decide +kernel
theorem dX4_joinsInAnyGroupsAlike_7 : decode cX4_joinsInAnyGroupsAlike 7 = .ok (.if_icmp .ge 74, 3) := by decide +kernel
theorem dX4_joinsInAnyGroupsAlike_10 : decode cX4_joinsInAnyGroupsAlike 10 = .ok (.iconst 0, 1) := by decide +kernel
theorem dX4_joinsInAnyGroupsAlike_11 : decode cX4_joinsInAnyGroupsAlike 11 = .ok (.istore_n 2, 1) := by decide +kernel
theorem dX4_joinsInAnyGroupsAlike_12 : decode cX4_joinsInAnyGroupsAlike 12 = .ok (.iload_n 2, 1) := by decide +kernel
theorem dX4_joinsInAnyGroupsAlike_13 : decode cX4_joinsInAnyGroupsAlike 13 = .ok (.aload_n 0, 1) := by decide +kernel
theorem dX4_joinsInAnyGroupsAlike_14 : decode cX4_joinsInAnyGroupsAlike 14 = .ok (.getfield 39, 3) := by decide +kernel
theorem dX4_joinsInAnyGroupsAlike_17 : decode cX4_joinsInAnyGroupsAlike 17 = .ok (.if_icmp .ge 58, 3) := by decide +kernel
theorem dX4_joinsInAnyGroupsAlike_20 : decode cX4_joinsInAnyGroupsAlike 20 = .ok (.aload_n 0, 1) := by decide +kernel
theorem dX4_joinsInAnyGroupsAlike_21 : decode cX4_joinsInAnyGroupsAlike 21 = .ok (.iload_n 1, 1) := by decide +kernel
theorem dX4_joinsInAnyGroupsAlike_22 : decode cX4_joinsInAnyGroupsAlike 22 = .ok (.iload_n 2, 1) := by decide +kernel
theorem dX4_joinsInAnyGroupsAlike_23 : decode cX4_joinsInAnyGroupsAlike 23 = .ok (.invokevirtual 78, 3) := by decide +kernel
theorem dX4_joinsInAnyGroupsAlike_26 : decode cX4_joinsInAnyGroupsAlike 26 = .ok (.istore_n 3, 1) := by decide +kernel
theorem dX4_joinsInAnyGroupsAlike_27 : decode cX4_joinsInAnyGroupsAlike 27 = .ok (.iconst 0, 1) := by decide +kernel
theorem dX4_joinsInAnyGroupsAlike_28 : decode cX4_joinsInAnyGroupsAlike 28 = .ok (.istore 4, 2) := by decide +kernel
theorem dX4_joinsInAnyGroupsAlike_30 : decode cX4_joinsInAnyGroupsAlike 30 = .ok (.iload 4, 2) := by decide +kernel
theorem dX4_joinsInAnyGroupsAlike_32 : decode cX4_joinsInAnyGroupsAlike 32 = .ok (.aload_n 0, 1) := by decide +kernel
theorem dX4_joinsInAnyGroupsAlike_33 : decode cX4_joinsInAnyGroupsAlike 33 = .ok (.getfield 39, 3) := by decide +kernel
theorem dX4_joinsInAnyGroupsAlike_36 : decode cX4_joinsInAnyGroupsAlike 36 = .ok (.if_icmp .ge 33, 3) := by decide +kernel
theorem dX4_joinsInAnyGroupsAlike_39 : decode cX4_joinsInAnyGroupsAlike 39 = .ok (.aload_n 0, 1) := by decide +kernel
theorem dX4_joinsInAnyGroupsAlike_40 : decode cX4_joinsInAnyGroupsAlike 40 = .ok (.iload_n 3, 1) := by decide +kernel
theorem dX4_joinsInAnyGroupsAlike_41 : decode cX4_joinsInAnyGroupsAlike 41 = .ok (.iload 4, 2) := by decide +kernel
theorem dX4_joinsInAnyGroupsAlike_43 : decode cX4_joinsInAnyGroupsAlike 43 = .ok (.invokevirtual 78, 3) := by decide +kernel
theorem dX4_joinsInAnyGroupsAlike_46 : decode cX4_joinsInAnyGroupsAlike 46 = .ok (.aload_n 0, 1) := by decide +kernel
theorem dX4_joinsInAnyGroupsAlike_47 : decode cX4_joinsInAnyGroupsAlike 47 = .ok (.iload_n 1, 1) := by decide +kernel
theorem dX4_joinsInAnyGroupsAlike_48 : decode cX4_joinsInAnyGroupsAlike 48 = .ok (.aload_n 0, 1) := by decide +kernel
theorem dX4_joinsInAnyGroupsAlike_49 : decode cX4_joinsInAnyGroupsAlike 49 = .ok (.iload_n 2, 1) := by decide +kernel
theorem dX4_joinsInAnyGroupsAlike_50 : decode cX4_joinsInAnyGroupsAlike 50 = .ok (.iload 4, 2) := by decide +kernel
theorem dX4_joinsInAnyGroupsAlike_52 : decode cX4_joinsInAnyGroupsAlike 52 = .ok (.invokevirtual 78, 3) := by decide +kernel
theorem dX4_joinsInAnyGroupsAlike_55 : decode cX4_joinsInAnyGroupsAlike 55 = .ok (.invokevirtual 78, 3) := by decide +kernel
theorem dX4_joinsInAnyGroupsAlike_58 : decode cX4_joinsInAnyGroupsAlike 58 = .ok (.if_icmp .eq 5, 3) := by decide +kernel
theorem dX4_joinsInAnyGroupsAlike_61 : decode cX4_joinsInAnyGroupsAlike 61 = .ok (.iconst 0, 1) := by decide +kernel
theorem dX4_joinsInAnyGroupsAlike_62 : decode cX4_joinsInAnyGroupsAlike 62 = .ok (.ireturn, 1) := by decide +kernel
theorem dX4_joinsInAnyGroupsAlike_63 : decode cX4_joinsInAnyGroupsAlike 63 = .ok (.iinc 4 1, 3) := by decide +kernel
theorem dX4_joinsInAnyGroupsAlike_66 : decode cX4_joinsInAnyGroupsAlike 66 = .ok (.goto (-36), 3) := by decide +kernel
theorem dX4_joinsInAnyGroupsAlike_69 : decode cX4_joinsInAnyGroupsAlike 69 = .ok (.iinc 2 1, 3) := by decide +kernel
theorem dX4_joinsInAnyGroupsAlike_72 : decode cX4_joinsInAnyGroupsAlike 72 = .ok (.goto (-60), 3) := by decide +kernel
theorem dX4_joinsInAnyGroupsAlike_75 : decode cX4_joinsInAnyGroupsAlike 75 = .ok (.iinc 1 1, 3) := by decide +kernel
theorem dX4_joinsInAnyGroupsAlike_78 : decode cX4_joinsInAnyGroupsAlike 78 = .ok (.goto (-76), 3) := by decide +kernel
theorem dX4_joinsInAnyGroupsAlike_81 : decode cX4_joinsInAnyGroupsAlike 81 = .ok (.iconst 1, 1) := by decide +kernel
theorem dX4_joinsInAnyGroupsAlike_82 : decode cX4_joinsInAnyGroupsAlike 82 = .ok (.ireturn, 1) := by decide +kernel
theorem dX4_joinsZeroAsNothing_0 : decode cX4_joinsZeroAsNothing 0 = .ok (.iconst 0, 1) := by decide +kernel
theorem dX4_joinsZeroAsNothing_1 : decode cX4_joinsZeroAsNothing 1 = .ok (.istore_n 1, 1) := by decide +kernel
theorem dX4_joinsZeroAsNothing_2 : decode cX4_joinsZeroAsNothing 2 = .ok (.iload_n 1, 1) := by decide +kernel
theorem dX4_joinsZeroAsNothing_3 : decode cX4_joinsZeroAsNothing 3 = .ok (.aload_n 0, 1) := by decide +kernel
theorem dX4_joinsZeroAsNothing_4 : decode cX4_joinsZeroAsNothing 4 = .ok (.getfield 39, 3) := by decide +kernel
theorem dX4_joinsZeroAsNothing_7 : decode cX4_joinsZeroAsNothing 7 = .ok (.if_icmp .ge 21, 3) := by decide +kernel
theorem dX4_joinsZeroAsNothing_10 : decode cX4_joinsZeroAsNothing 10 = .ok (.aload_n 0, 1) := by decide +kernel
theorem dX4_joinsZeroAsNothing_11 : decode cX4_joinsZeroAsNothing 11 = .ok (.iconst 0, 1) := by decide +kernel
theorem dX4_joinsZeroAsNothing_12 : decode cX4_joinsZeroAsNothing 12 = .ok (.iload_n 1, 1) := by decide +kernel
theorem dX4_joinsZeroAsNothing_13 : decode cX4_joinsZeroAsNothing 13 = .ok (.invokevirtual 78, 3) := by decide +kernel
theorem dX4_joinsZeroAsNothing_16 : decode cX4_joinsZeroAsNothing 16 = .ok (.iload_n 1, 1) := by decide +kernel
theorem dX4_joinsZeroAsNothing_17 : decode cX4_joinsZeroAsNothing 17 = .ok (.if_icmp .eq 5, 3) := by decide +kernel
theorem dX4_joinsZeroAsNothing_20 : decode cX4_joinsZeroAsNothing 20 = .ok (.iconst 0, 1) := by decide +kernel
theorem dX4_joinsZeroAsNothing_21 : decode cX4_joinsZeroAsNothing 21 = .ok (.ireturn, 1) := by decide +kernel
theorem dX4_joinsZeroAsNothing_22 : decode cX4_joinsZeroAsNothing 22 = .ok (.iinc 1 1, 3) := by decide +kernel
theorem dX4_joinsZeroAsNothing_25 : decode cX4_joinsZeroAsNothing 25 = .ok (.goto (-23), 3) := by decide +kernel
theorem dX4_joinsZeroAsNothing_28 : decode cX4_joinsZeroAsNothing 28 = .ok (.iconst 1, 1) := by decide +kernel
theorem dX4_joinsZeroAsNothing_29 : decode cX4_joinsZeroAsNothing 29 = .ok (.ireturn, 1) := by decide +kernel
theorem dX4_keepsOrder_0 : decode cX4_keepsOrder 0 = .ok (.iload_n 1, 1) := by decide +kernel
theorem dX4_keepsOrder_1 : decode cX4_keepsOrder 1 = .ok (.bipush 8, 2) := by decide +kernel
theorem dX4_keepsOrder_3 : decode cX4_keepsOrder 3 = .ok (.imul, 1) := by decide +kernel
theorem dX4_keepsOrder_4 : decode cX4_keepsOrder 4 = .ok (.istore_n 2, 1) := by decide +kernel
theorem dX4_keepsOrder_5 : decode cX4_keepsOrder 5 = .ok (.iconst 0, 1) := by decide +kernel
theorem dX4_keepsOrder_6 : decode cX4_keepsOrder 6 = .ok (.istore_n 3, 1) := by decide +kernel
theorem dX4_keepsOrder_7 : decode cX4_keepsOrder 7 = .ok (.iload_n 3, 1) := by decide +kernel
theorem dX4_keepsOrder_8 : decode cX4_keepsOrder 8 = .ok (.aload_n 0, 1) := by decide +kernel
theorem dX4_keepsOrder_9 : decode cX4_keepsOrder 9 = .ok (.getfield 39, 3) := by decide +kernel
theorem dX4_keepsOrder_12 : decode cX4_keepsOrder 12 = .ok (.if_icmp .ge 63, 3) := by decide +kernel
theorem dX4_keepsOrder_15 : decode cX4_keepsOrder 15 = .ok (.iconst 0, 1) := by decide +kernel
theorem dX4_keepsOrder_16 : decode cX4_keepsOrder 16 = .ok (.istore 4, 2) := by decide +kernel
theorem dX4_keepsOrder_18 : decode cX4_keepsOrder 18 = .ok (.iload 4, 2) := by decide +kernel
theorem dX4_keepsOrder_20 : decode cX4_keepsOrder 20 = .ok (.aload_n 0, 1) := by decide +kernel
theorem dX4_keepsOrder_21 : decode cX4_keepsOrder 21 = .ok (.getfield 39, 3) := by decide +kernel
theorem dX4_keepsOrder_24 : decode cX4_keepsOrder 24 = .ok (.if_icmp .ge 45, 3) := by decide +kernel
theorem dX4_keepsOrder_27 : decode cX4_keepsOrder 27 = .ok (.aload_n 0, 1) := by decide +kernel
theorem dX4_keepsOrder_28 : decode cX4_keepsOrder 28 = .ok (.iload_n 3, 1) := by decide +kernel
theorem dX4_keepsOrder_29 : decode cX4_keepsOrder 29 = .ok (.iload 4, 2) := by decide +kernel
theorem dX4_keepsOrder_31 : decode cX4_keepsOrder 31 = .ok (.invokevirtual 81, 3) := by decide +kernel
theorem dX4_keepsOrder_34 : decode cX4_keepsOrder 34 = .ok (.ifCond .eq 29, 3) := by decide +kernel
theorem dX4_keepsOrder_37 : decode cX4_keepsOrder 37 = .ok (.aload_n 0, 1) := by decide +kernel
theorem dX4_keepsOrder_38 : decode cX4_keepsOrder 38 = .ok (.aload_n 0, 1) := by decide +kernel
theorem dX4_keepsOrder_39 : decode cX4_keepsOrder 39 = .ok (.getfield 27, 3) := by decide +kernel
theorem dX4_keepsOrder_42 : decode cX4_keepsOrder 42 = .ok (.iload_n 2, 1) := by decide +kernel
theorem dX4_keepsOrder_43 : decode cX4_keepsOrder 43 = .ok (.iload_n 3, 1) := by decide +kernel
theorem dX4_keepsOrder_44 : decode cX4_keepsOrder 44 = .ok (.iadd, 1) := by decide +kernel
theorem dX4_keepsOrder_45 : decode cX4_keepsOrder 45 = .ok (.iaload, 1) := by decide +kernel
theorem dX4_keepsOrder_46 : decode cX4_keepsOrder 46 = .ok (.aload_n 0, 1) := by decide +kernel
theorem dX4_keepsOrder_47 : decode cX4_keepsOrder 47 = .ok (.getfield 27, 3) := by decide +kernel
theorem dX4_keepsOrder_50 : decode cX4_keepsOrder 50 = .ok (.iload_n 2, 1) := by decide +kernel
theorem dX4_keepsOrder_51 : decode cX4_keepsOrder 51 = .ok (.iload 4, 2) := by decide +kernel
theorem dX4_keepsOrder_53 : decode cX4_keepsOrder 53 = .ok (.iadd, 1) := by decide +kernel
theorem dX4_keepsOrder_54 : decode cX4_keepsOrder 54 = .ok (.iaload, 1) := by decide +kernel
theorem dX4_keepsOrder_55 : decode cX4_keepsOrder 55 = .ok (.invokevirtual 81, 3) := by decide +kernel
theorem dX4_keepsOrder_58 : decode cX4_keepsOrder 58 = .ok (.ifCond .ne 5, 3) := by decide +kernel
theorem dX4_keepsOrder_61 : decode cX4_keepsOrder 61 = .ok (.iconst 0, 1) := by decide +kernel
theorem dX4_keepsOrder_62 : decode cX4_keepsOrder 62 = .ok (.ireturn, 1) := by decide +kernel
theorem dX4_keepsOrder_63 : decode cX4_keepsOrder 63 = .ok (.iinc 4 1, 3) := by decide +kernel
theorem dX4_keepsOrder_66 : decode cX4_keepsOrder 66 = .ok (.goto (-48), 3) := by decide +kernel
theorem dX4_keepsOrder_69 : decode cX4_keepsOrder 69 = .ok (.iinc 3 1, 3) := by decide +kernel
theorem dX4_keepsOrder_72 : decode cX4_keepsOrder 72 = .ok (.goto (-65), 3) := by decide +kernel
theorem dX4_keepsOrder_75 : decode cX4_keepsOrder 75 = .ok (.iconst 1, 1) := by decide +kernel
theorem dX4_keepsOrder_76 : decode cX4_keepsOrder 76 = .ok (.ireturn, 1) := by decide +kernel
theorem dX4_firstOutOfOrder_0 : decode cX4_firstOutOfOrder 0 = .ok (.iconst 0, 1) := by decide +kernel
theorem dX4_firstOutOfOrder_1 : decode cX4_firstOutOfOrder 1 = .ok (.istore_n 1, 1) := by decide +kernel
theorem dX4_firstOutOfOrder_2 : decode cX4_firstOutOfOrder 2 = .ok (.iload_n 1, 1) := by decide +kernel
theorem dX4_firstOutOfOrder_3 : decode cX4_firstOutOfOrder 3 = .ok (.aload_n 0, 1) := by decide +kernel
theorem dX4_firstOutOfOrder_4 : decode cX4_firstOutOfOrder 4 = .ok (.getfield 46, 3) := by decide +kernel
theorem dX4_firstOutOfOrder_7 : decode cX4_firstOutOfOrder 7 = .ok (.if_icmp .ge 19, 3) := by decide +kernel
theorem dX4_firstOutOfOrder_10 : decode cX4_firstOutOfOrder 10 = .ok (.aload_n 0, 1) := by decide +kernel
theorem dX4_firstOutOfOrder_11 : decode cX4_firstOutOfOrder 11 = .ok (.iload_n 1, 1) := by decide +kernel
theorem dX4_firstOutOfOrder_12 : decode cX4_firstOutOfOrder 12 = .ok (.invokevirtual 85, 3) := by decide +kernel
theorem dX4_firstOutOfOrder_15 : decode cX4_firstOutOfOrder 15 = .ok (.ifCond .ne 5, 3) := by decide +kernel
theorem dX4_firstOutOfOrder_18 : decode cX4_firstOutOfOrder 18 = .ok (.iload_n 1, 1) := by decide +kernel
theorem dX4_firstOutOfOrder_19 : decode cX4_firstOutOfOrder 19 = .ok (.ireturn, 1) := by decide +kernel
theorem dX4_firstOutOfOrder_20 : decode cX4_firstOutOfOrder 20 = .ok (.iinc 1 1, 3) := by decide +kernel
theorem dX4_firstOutOfOrder_23 : decode cX4_firstOutOfOrder 23 = .ok (.goto (-21), 3) := by decide +kernel
theorem dX4_firstOutOfOrder_26 : decode cX4_firstOutOfOrder 26 = .ok (.iconst (-1), 1) := by decide +kernel
theorem dX4_firstOutOfOrder_27 : decode cX4_firstOutOfOrder 27 = .ok (.ireturn, 1) := by decide +kernel
theorem dX4_isWell_0 : decode cX4_isWell 0 = .ok (.aload_n 0, 1) := by decide +kernel
theorem dX4_isWell_1 : decode cX4_isWell 1 = .ok (.invokevirtual 89, 3) := by decide +kernel
theorem dX4_isWell_4 : decode cX4_isWell 4 = .ok (.ifCond .ne 15, 3) := by decide +kernel
theorem dX4_isWell_7 : decode cX4_isWell 7 = .ok (.aload_n 0, 1) := by decide +kernel
theorem dX4_isWell_8 : decode cX4_isWell 8 = .ok (.invokevirtual 93, 3) := by decide +kernel
theorem dX4_isWell_11 : decode cX4_isWell 11 = .ok (.iconst (-1), 1) := by decide +kernel
theorem dX4_isWell_12 : decode cX4_isWell 12 = .ok (.if_icmp .ne 7, 3) := by decide +kernel
theorem dX4_isWell_15 : decode cX4_isWell 15 = .ok (.iconst 1, 1) := by decide +kernel
theorem dX4_isWell_16 : decode cX4_isWell 16 = .ok (.goto 4, 3) := by decide +kernel
theorem dX4_isWell_19 : decode cX4_isWell 19 = .ok (.iconst 0, 1) := by decide +kernel
theorem dX4_isWell_20 : decode cX4_isWell 20 = .ok (.ireturn, 1) := by decide +kernel
theorem dX4_isKept_0 : decode cX4_isKept 0 = .ok (.iconst 0, 1) := by decide +kernel
theorem dX4_isKept_1 : decode cX4_isKept 1 = .ok (.istore_n 2, 1) := by decide +kernel
theorem dX4_isKept_2 : decode cX4_isKept 2 = .ok (.iload_n 2, 1) := by decide +kernel
theorem dX4_isKept_3 : decode cX4_isKept 3 = .ok (.aload_n 0, 1) := by decide +kernel
theorem dX4_isKept_4 : decode cX4_isKept 4 = .ok (.getfield 46, 3) := by decide +kernel
theorem dX4_isKept_7 : decode cX4_isKept 7 = .ok (.if_icmp .ge 31, 3) := by decide +kernel
theorem dX4_isKept_10 : decode cX4_isKept 10 = .ok (.aload_n 0, 1) := by decide +kernel
theorem dX4_isKept_11 : decode cX4_isKept 11 = .ok (.getfield 24, 3) := by decide +kernel
theorem dX4_isKept_14 : decode cX4_isKept 14 = .ok (.iload_n 2, 1) := by decide +kernel
theorem dX4_isKept_15 : decode cX4_isKept 15 = .ok (.iaload, 1) := by decide +kernel
theorem dX4_isKept_16 : decode cX4_isKept 16 = .ok (.iload_n 1, 1) := by decide +kernel
theorem dX4_isKept_17 : decode cX4_isKept 17 = .ok (.if_icmp .ne 15, 3) := by decide +kernel
theorem dX4_isKept_20 : decode cX4_isKept 20 = .ok (.aload_n 0, 1) := by decide +kernel
theorem dX4_isKept_21 : decode cX4_isKept 21 = .ok (.getfield 21, 3) := by decide +kernel
theorem dX4_isKept_24 : decode cX4_isKept 24 = .ok (.iload_n 2, 1) := by decide +kernel
theorem dX4_isKept_25 : decode cX4_isKept 25 = .ok (.iaload, 1) := by decide +kernel
theorem dX4_isKept_26 : decode cX4_isKept 26 = .ok (.iload_n 1, 1) := by decide +kernel
theorem dX4_isKept_27 : decode cX4_isKept 27 = .ok (.if_icmp .lt 5, 3) := by decide +kernel
theorem dX4_isKept_30 : decode cX4_isKept 30 = .ok (.iconst 1, 1) := by decide +kernel
theorem dX4_isKept_31 : decode cX4_isKept 31 = .ok (.ireturn, 1) := by decide +kernel
theorem dX4_isKept_32 : decode cX4_isKept 32 = .ok (.iinc 2 1, 3) := by decide +kernel
theorem dX4_isKept_35 : decode cX4_isKept 35 = .ok (.goto (-33), 3) := by decide +kernel
theorem dX4_isKept_38 : decode cX4_isKept 38 = .ok (.iconst 0, 1) := by decide +kernel
theorem dX4_isKept_39 : decode cX4_isKept 39 = .ok (.ireturn, 1) := by decide +kernel
theorem dX4_keptPlaces_0 : decode cX4_keptPlaces 0 = .ok (.iconst 0, 1) := by decide +kernel
theorem dX4_keptPlaces_1 : decode cX4_keptPlaces 1 = .ok (.istore_n 1, 1) := by decide +kernel
theorem dX4_keptPlaces_2 : decode cX4_keptPlaces 2 = .ok (.iconst 0, 1) := by decide +kernel
theorem dX4_keptPlaces_3 : decode cX4_keptPlaces 3 = .ok (.istore_n 2, 1) := by decide +kernel
theorem dX4_keptPlaces_4 : decode cX4_keptPlaces 4 = .ok (.iload_n 2, 1) := by decide +kernel
theorem dX4_keptPlaces_5 : decode cX4_keptPlaces 5 = .ok (.aload_n 0, 1) := by decide +kernel
theorem dX4_keptPlaces_6 : decode cX4_keptPlaces 6 = .ok (.getfield 46, 3) := by decide +kernel
theorem dX4_keptPlaces_9 : decode cX4_keptPlaces 9 = .ok (.if_icmp .ge 35, 3) := by decide +kernel
theorem dX4_keptPlaces_12 : decode cX4_keptPlaces 12 = .ok (.aload_n 0, 1) := by decide +kernel
theorem dX4_keptPlaces_13 : decode cX4_keptPlaces 13 = .ok (.getfield 21, 3) := by decide +kernel
theorem dX4_keptPlaces_16 : decode cX4_keptPlaces 16 = .ok (.iload_n 2, 1) := by decide +kernel
theorem dX4_keptPlaces_17 : decode cX4_keptPlaces 17 = .ok (.iaload, 1) := by decide +kernel
theorem dX4_keptPlaces_18 : decode cX4_keptPlaces 18 = .ok (.aload_n 0, 1) := by decide +kernel
theorem dX4_keptPlaces_19 : decode cX4_keptPlaces 19 = .ok (.getfield 24, 3) := by decide +kernel
theorem dX4_keptPlaces_22 : decode cX4_keptPlaces 22 = .ok (.iload_n 2, 1) := by decide +kernel
theorem dX4_keptPlaces_23 : decode cX4_keptPlaces 23 = .ok (.iaload, 1) := by decide +kernel
theorem dX4_keptPlaces_24 : decode cX4_keptPlaces 24 = .ok (.if_icmp .lt 14, 3) := by decide +kernel
theorem dX4_keptPlaces_27 : decode cX4_keptPlaces 27 = .ok (.iload_n 1, 1) := by decide +kernel
theorem dX4_keptPlaces_28 : decode cX4_keptPlaces 28 = .ok (.iconst 1, 1) := by decide +kernel
theorem dX4_keptPlaces_29 : decode cX4_keptPlaces 29 = .ok (.aload_n 0, 1) := by decide +kernel
theorem dX4_keptPlaces_30 : decode cX4_keptPlaces 30 = .ok (.getfield 24, 3) := by decide +kernel
theorem dX4_keptPlaces_33 : decode cX4_keptPlaces 33 = .ok (.iload_n 2, 1) := by decide +kernel
theorem dX4_keptPlaces_34 : decode cX4_keptPlaces 34 = .ok (.iaload, 1) := by decide +kernel
theorem dX4_keptPlaces_35 : decode cX4_keptPlaces 35 = .ok (.ishl, 1) := by decide +kernel
theorem dX4_keptPlaces_36 : decode cX4_keptPlaces 36 = .ok (.ior, 1) := by decide +kernel
theorem dX4_keptPlaces_37 : decode cX4_keptPlaces 37 = .ok (.istore_n 1, 1) := by decide +kernel
theorem dX4_keptPlaces_38 : decode cX4_keptPlaces 38 = .ok (.iinc 2 1, 3) := by decide +kernel
theorem dX4_keptPlaces_41 : decode cX4_keptPlaces 41 = .ok (.goto (-37), 3) := by decide +kernel
theorem dX4_keptPlaces_44 : decode cX4_keptPlaces 44 = .ok (.iload_n 1, 1) := by decide +kernel
theorem dX4_keptPlaces_45 : decode cX4_keptPlaces 45 = .ok (.ireturn, 1) := by decide +kernel
theorem dX4_brought_0 : decode cX4_brought 0 = .ok (.aload_n 2, 1) := by decide +kernel
theorem dX4_brought_1 : decode cX4_brought 1 = .ok (.aload_n 0, 1) := by decide +kernel
theorem dX4_brought_2 : decode cX4_brought 2 = .ok (.getfield 21, 3) := by decide +kernel
theorem dX4_brought_5 : decode cX4_brought 5 = .ok (.iload_n 1, 1) := by decide +kernel
theorem dX4_brought_6 : decode cX4_brought 6 = .ok (.iaload, 1) := by decide +kernel
theorem dX4_brought_7 : decode cX4_brought 7 = .ok (.iaload, 1) := by decide +kernel
theorem dX4_brought_8 : decode cX4_brought 8 = .ok (.istore_n 3, 1) := by decide +kernel
theorem dX4_brought_9 : decode cX4_brought 9 = .ok (.iload_n 3, 1) := by decide +kernel
theorem dX4_brought_10 : decode cX4_brought 10 = .ok (.invokestatic 96, 3) := by decide +kernel
theorem dX4_brought_13 : decode cX4_brought 13 = .ok (.istore 4, 2) := by decide +kernel
theorem dX4_brought_15 : decode cX4_brought 15 = .ok (.aload_n 0, 1) := by decide +kernel
theorem dX4_brought_16 : decode cX4_brought 16 = .ok (.aload_n 0, 1) := by decide +kernel
theorem dX4_brought_17 : decode cX4_brought 17 = .ok (.getfield 36, 3) := by decide +kernel
theorem dX4_brought_20 : decode cX4_brought 20 = .ok (.iload_n 1, 1) := by decide +kernel
theorem dX4_brought_21 : decode cX4_brought 21 = .ok (.iaload, 1) := by decide +kernel
theorem dX4_brought_22 : decode cX4_brought 22 = .ok (.iload 4, 2) := by decide +kernel
theorem dX4_brought_24 : decode cX4_brought 24 = .ok (.invokevirtual 81, 3) := by decide +kernel
theorem dX4_brought_27 : decode cX4_brought 27 = .ok (.ifCond .ne 5, 3) := by decide +kernel
theorem dX4_brought_30 : decode cX4_brought 30 = .ok (.iconst 0, 1) := by decide +kernel
theorem dX4_brought_31 : decode cX4_brought 31 = .ok (.ireturn, 1) := by decide +kernel
theorem dX4_brought_32 : decode cX4_brought 32 = .ok (.aload_n 0, 1) := by decide +kernel
theorem dX4_brought_33 : decode cX4_brought 33 = .ok (.getfield 27, 3) := by decide +kernel
theorem dX4_brought_36 : decode cX4_brought 36 = .ok (.iload_n 1, 1) := by decide +kernel
theorem dX4_brought_37 : decode cX4_brought 37 = .ok (.bipush 8, 2) := by decide +kernel
theorem dX4_brought_39 : decode cX4_brought 39 = .ok (.imul, 1) := by decide +kernel
theorem dX4_brought_40 : decode cX4_brought 40 = .ok (.iload 4, 2) := by decide +kernel
theorem dX4_brought_42 : decode cX4_brought 42 = .ok (.iadd, 1) := by decide +kernel
theorem dX4_brought_43 : decode cX4_brought 43 = .ok (.iaload, 1) := by decide +kernel
theorem dX4_brought_44 : decode cX4_brought 44 = .ok (.sipush 256, 3) := by decide +kernel
theorem dX4_brought_47 : decode cX4_brought 47 = .ok (.imul, 1) := by decide +kernel
theorem dX4_brought_48 : decode cX4_brought 48 = .ok (.iload_n 3, 1) := by decide +kernel
theorem dX4_brought_49 : decode cX4_brought 49 = .ok (.invokestatic 100, 3) := by decide +kernel
theorem dX4_brought_52 : decode cX4_brought 52 = .ok (.aload_n 0, 1) := by decide +kernel
theorem dX4_brought_53 : decode cX4_brought 53 = .ok (.getfield 33, 3) := by decide +kernel
theorem dX4_brought_56 : decode cX4_brought 56 = .ok (.iload_n 1, 1) := by decide +kernel
theorem dX4_brought_57 : decode cX4_brought 57 = .ok (.iaload, 1) := by decide +kernel
theorem dX4_brought_58 : decode cX4_brought 58 = .ok (.iconst (-1), 1) := by decide +kernel
theorem dX4_brought_59 : decode cX4_brought 59 = .ok (.ixor, 1) := by decide +kernel
theorem dX4_brought_60 : decode cX4_brought 60 = .ok (.iand, 1) := by decide +kernel
theorem dX4_brought_61 : decode cX4_brought 61 = .ok (.aload_n 0, 1) := by decide +kernel
theorem dX4_brought_62 : decode cX4_brought 62 = .ok (.getfield 30, 3) := by decide +kernel
theorem dX4_brought_65 : decode cX4_brought 65 = .ok (.iload_n 1, 1) := by decide +kernel
theorem dX4_brought_66 : decode cX4_brought 66 = .ok (.iaload, 1) := by decide +kernel
theorem dX4_brought_67 : decode cX4_brought 67 = .ok (.ior, 1) := by decide +kernel
theorem dX4_brought_68 : decode cX4_brought 68 = .ok (.iadd, 1) := by decide +kernel
theorem dX4_brought_69 : decode cX4_brought 69 = .ok (.ireturn, 1) := by decide +kernel
theorem dX4_together_0 : decode cX4_together 0 = .ok (.aload_n 0, 1) := by decide +kernel
theorem dX4_together_1 : decode cX4_together 1 = .ok (.getfield 15, 3) := by decide +kernel
theorem dX4_together_4 : decode cX4_together 4 = .ok (.iload_n 1, 1) := by decide +kernel
theorem dX4_together_5 : decode cX4_together 5 = .ok (.iaload, 1) := by decide +kernel
theorem dX4_together_6 : decode cX4_together 6 = .ok (.invokestatic 96, 3) := by decide +kernel
theorem dX4_together_9 : decode cX4_together 9 = .ok (.istore 4, 2) := by decide +kernel
theorem dX4_together_11 : decode cX4_together 11 = .ok (.aload_n 0, 1) := by decide +kernel
theorem dX4_together_12 : decode cX4_together 12 = .ok (.getfield 15, 3) := by decide +kernel
theorem dX4_together_15 : decode cX4_together 15 = .ok (.iload_n 1, 1) := by decide +kernel
theorem dX4_together_16 : decode cX4_together 16 = .ok (.iaload, 1) := by decide +kernel
theorem dX4_together_17 : decode cX4_together 17 = .ok (.invokestatic 100, 3) := by decide +kernel
theorem dX4_together_20 : decode cX4_together 20 = .ok (.istore 5, 2) := by decide +kernel
theorem dX4_together_22 : decode cX4_together 22 = .ok (.iconst 0, 1) := by decide +kernel
theorem dX4_together_23 : decode cX4_together 23 = .ok (.istore 6, 2) := by decide +kernel
theorem dX4_together_25 : decode cX4_together 25 = .ok (.iload 6, 2) := by decide +kernel
theorem dX4_together_27 : decode cX4_together 27 = .ok (.aload_n 0, 1) := by decide +kernel
theorem dX4_together_28 : decode cX4_together 28 = .ok (.getfield 46, 3) := by decide +kernel
theorem dX4_together_31 : decode cX4_together 31 = .ok (.if_icmp .ge 58, 3) := by decide +kernel
theorem dX4_together_34 : decode cX4_together 34 = .ok (.aload_n 0, 1) := by decide +kernel
theorem dX4_together_35 : decode cX4_together 35 = .ok (.getfield 24, 3) := by decide +kernel
theorem dX4_together_38 : decode cX4_together 38 = .ok (.iload 6, 2) := by decide +kernel
theorem dX4_together_40 : decode cX4_together 40 = .ok (.iaload, 1) := by decide +kernel
theorem dX4_together_41 : decode cX4_together 41 = .ok (.iload_n 1, 1) := by decide +kernel
theorem dX4_together_42 : decode cX4_together 42 = .ok (.if_icmp .ne 41, 3) := by decide +kernel
theorem dX4_together_45 : decode cX4_together 45 = .ok (.iload 6, 2) := by decide +kernel
theorem dX4_together_47 : decode cX4_together 47 = .ok (.iload_n 3, 1) := by decide +kernel
theorem dX4_together_48 : decode cX4_together 48 = .ok (.if_icmp .eq 35, 3) := by decide +kernel
theorem dX4_together_51 : decode cX4_together 51 = .ok (.aload_n 0, 1) := by decide +kernel
theorem dX4_together_52 : decode cX4_together 52 = .ok (.iload 6, 2) := by decide +kernel
theorem dX4_together_54 : decode cX4_together 54 = .ok (.aload_n 2, 1) := by decide +kernel
theorem dX4_together_55 : decode cX4_together 55 = .ok (.invokevirtual 103, 3) := by decide +kernel
theorem dX4_together_58 : decode cX4_together 58 = .ok (.istore 7, 2) := by decide +kernel
theorem dX4_together_60 : decode cX4_together 60 = .ok (.aload_n 0, 1) := by decide +kernel
theorem dX4_together_61 : decode cX4_together 61 = .ok (.iload 4, 2) := by decide +kernel
theorem dX4_together_63 : decode cX4_together 63 = .ok (.iload 7, 2) := by decide +kernel
theorem dX4_together_65 : decode cX4_together 65 = .ok (.invokestatic 96, 3) := by decide +kernel
theorem dX4_together_68 : decode cX4_together 68 = .ok (.invokevirtual 78, 3) := by decide +kernel
theorem dX4_together_71 : decode cX4_together 71 = .ok (.istore 4, 2) := by decide +kernel
theorem dX4_together_73 : decode cX4_together 73 = .ok (.iload 5, 2) := by decide +kernel
theorem dX4_together_75 : decode cX4_together 75 = .ok (.iload 7, 2) := by decide +kernel
theorem dX4_together_77 : decode cX4_together 77 = .ok (.invokestatic 100, 3) := by decide +kernel
theorem dX4_together_80 : decode cX4_together 80 = .ok (.ior, 1) := by decide +kernel
theorem dX4_together_81 : decode cX4_together 81 = .ok (.istore 5, 2) := by decide +kernel
theorem dX4_together_83 : decode cX4_together 83 = .ok (.iinc 6 1, 3) := by decide +kernel
theorem dX4_together_86 : decode cX4_together 86 = .ok (.goto (-61), 3) := by decide +kernel
theorem dX4_together_89 : decode cX4_together 89 = .ok (.iload 4, 2) := by decide +kernel
theorem dX4_together_91 : decode cX4_together 91 = .ok (.sipush 256, 3) := by decide +kernel
theorem dX4_together_94 : decode cX4_together 94 = .ok (.imul, 1) := by decide +kernel
theorem dX4_together_95 : decode cX4_together 95 = .ok (.iload 5, 2) := by decide +kernel
theorem dX4_together_97 : decode cX4_together 97 = .ok (.iadd, 1) := by decide +kernel
theorem dX4_together_98 : decode cX4_together 98 = .ok (.ireturn, 1) := by decide +kernel
theorem dX4_isNoMore_0 : decode cX4_isNoMore 0 = .ok (.aload_n 0, 1) := by decide +kernel
theorem dX4_isNoMore_1 : decode cX4_isNoMore 1 = .ok (.iload_n 1, 1) := by decide +kernel
theorem dX4_isNoMore_2 : decode cX4_isNoMore 2 = .ok (.invokestatic 96, 3) := by decide +kernel
theorem dX4_isNoMore_5 : decode cX4_isNoMore 5 = .ok (.iload_n 2, 1) := by decide +kernel
theorem dX4_isNoMore_6 : decode cX4_isNoMore 6 = .ok (.invokestatic 96, 3) := by decide +kernel
theorem dX4_isNoMore_9 : decode cX4_isNoMore 9 = .ok (.invokevirtual 81, 3) := by decide +kernel
theorem dX4_isNoMore_12 : decode cX4_isNoMore 12 = .ok (.ifCond .eq 21, 3) := by decide +kernel
theorem dX4_isNoMore_15 : decode cX4_isNoMore 15 = .ok (.iload_n 1, 1) := by decide +kernel
theorem dX4_isNoMore_16 : decode cX4_isNoMore 16 = .ok (.invokestatic 100, 3) := by decide +kernel
theorem dX4_isNoMore_19 : decode cX4_isNoMore 19 = .ok (.iload_n 2, 1) := by decide +kernel
theorem dX4_isNoMore_20 : decode cX4_isNoMore 20 = .ok (.invokestatic 100, 3) := by decide +kernel
theorem dX4_isNoMore_23 : decode cX4_isNoMore 23 = .ok (.iconst (-1), 1) := by decide +kernel
theorem dX4_isNoMore_24 : decode cX4_isNoMore 24 = .ok (.ixor, 1) := by decide +kernel
theorem dX4_isNoMore_25 : decode cX4_isNoMore 25 = .ok (.iand, 1) := by decide +kernel
theorem dX4_isNoMore_26 : decode cX4_isNoMore 26 = .ok (.ifCond .ne 7, 3) := by decide +kernel
theorem dX4_isNoMore_29 : decode cX4_isNoMore 29 = .ok (.iconst 1, 1) := by decide +kernel
theorem dX4_isNoMore_30 : decode cX4_isNoMore 30 = .ok (.goto 4, 3) := by decide +kernel
theorem dX4_isNoMore_33 : decode cX4_isNoMore 33 = .ok (.iconst 0, 1) := by decide +kernel
theorem dX4_isNoMore_34 : decode cX4_isNoMore 34 = .ok (.ireturn, 1) := by decide +kernel
theorem dX4_addWay_0 : decode cX4_addWay 0 = .ok (.aload_n 0, 1) := by decide +kernel
theorem dX4_addWay_1 : decode cX4_addWay 1 = .ok (.getfield 46, 3) := by decide +kernel
theorem dX4_addWay_4 : decode cX4_addWay 4 = .ok (.istore_n 3, 1) := by decide +kernel
theorem dX4_addWay_5 : decode cX4_addWay 5 = .ok (.aload_n 0, 1) := by decide +kernel
theorem dX4_addWay_6 : decode cX4_addWay 6 = .ok (.getfield 21, 3) := by decide +kernel
theorem dX4_addWay_9 : decode cX4_addWay 9 = .ok (.iload_n 3, 1) := by decide +kernel
theorem dX4_addWay_10 : decode cX4_addWay 10 = .ok (.iload_n 1, 1) := by decide +kernel
theorem dX4_addWay_11 : decode cX4_addWay 11 = .ok (.iastore, 1) := by decide +kernel
theorem dX4_addWay_12 : decode cX4_addWay 12 = .ok (.aload_n 0, 1) := by decide +kernel
theorem dX4_addWay_13 : decode cX4_addWay 13 = .ok (.getfield 24, 3) := by decide +kernel
theorem dX4_addWay_16 : decode cX4_addWay 16 = .ok (.iload_n 3, 1) := by decide +kernel
theorem dX4_addWay_17 : decode cX4_addWay 17 = .ok (.iload_n 2, 1) := by decide +kernel
theorem dX4_addWay_18 : decode cX4_addWay 18 = .ok (.iastore, 1) := by decide +kernel
theorem dX4_addWay_19 : decode cX4_addWay 19 = .ok (.aload_n 0, 1) := by decide +kernel
theorem dX4_addWay_20 : decode cX4_addWay 20 = .ok (.getfield 30, 3) := by decide +kernel
theorem dX4_addWay_23 : decode cX4_addWay 23 = .ok (.iload_n 3, 1) := by decide +kernel
theorem dX4_addWay_24 : decode cX4_addWay 24 = .ok (.iconst 0, 1) := by decide +kernel
theorem dX4_addWay_25 : decode cX4_addWay 25 = .ok (.iastore, 1) := by decide +kernel
theorem dX4_addWay_26 : decode cX4_addWay 26 = .ok (.aload_n 0, 1) := by decide +kernel
theorem dX4_addWay_27 : decode cX4_addWay 27 = .ok (.getfield 33, 3) := by decide +kernel
theorem dX4_addWay_30 : decode cX4_addWay 30 = .ok (.iload_n 3, 1) := by decide +kernel
theorem dX4_addWay_31 : decode cX4_addWay 31 = .ok (.iconst 0, 1) := by decide +kernel
theorem dX4_addWay_32 : decode cX4_addWay 32 = .ok (.iastore, 1) := by decide +kernel
theorem dX4_addWay_33 : decode cX4_addWay 33 = .ok (.aload_n 0, 1) := by decide +kernel
theorem dX4_addWay_34 : decode cX4_addWay 34 = .ok (.getfield 36, 3) := by decide +kernel
theorem dX4_addWay_37 : decode cX4_addWay 37 = .ok (.iload_n 3, 1) := by decide +kernel
theorem dX4_addWay_38 : decode cX4_addWay 38 = .ok (.iconst 0, 1) := by decide +kernel
theorem dX4_addWay_39 : decode cX4_addWay 39 = .ok (.iastore, 1) := by decide +kernel
theorem dX4_addWay_40 : decode cX4_addWay 40 = .ok (.iconst 0, 1) := by decide +kernel
theorem dX4_addWay_41 : decode cX4_addWay 41 = .ok (.istore 4, 2) := by decide +kernel
theorem dX4_addWay_43 : decode cX4_addWay 43 = .ok (.iload 4, 2) := by decide +kernel
theorem dX4_addWay_45 : decode cX4_addWay 45 = .ok (.bipush 8, 2) := by decide +kernel
theorem dX4_addWay_47 : decode cX4_addWay 47 = .ok (.if_icmp .ge 23, 3) := by decide +kernel
theorem dX4_addWay_50 : decode cX4_addWay 50 = .ok (.aload_n 0, 1) := by decide +kernel
theorem dX4_addWay_51 : decode cX4_addWay 51 = .ok (.getfield 27, 3) := by decide +kernel
theorem dX4_addWay_54 : decode cX4_addWay 54 = .ok (.iload_n 3, 1) := by decide +kernel
theorem dX4_addWay_55 : decode cX4_addWay 55 = .ok (.bipush 8, 2) := by decide +kernel
theorem dX4_addWay_57 : decode cX4_addWay 57 = .ok (.imul, 1) := by decide +kernel
theorem dX4_addWay_58 : decode cX4_addWay 58 = .ok (.iload 4, 2) := by decide +kernel
theorem dX4_addWay_60 : decode cX4_addWay 60 = .ok (.iadd, 1) := by decide +kernel
theorem dX4_addWay_61 : decode cX4_addWay 61 = .ok (.iload 4, 2) := by decide +kernel
theorem dX4_addWay_63 : decode cX4_addWay 63 = .ok (.iastore, 1) := by decide +kernel
theorem dX4_addWay_64 : decode cX4_addWay 64 = .ok (.iinc 4 1, 3) := by decide +kernel
theorem dX4_addWay_67 : decode cX4_addWay 67 = .ok (.goto (-24), 3) := by decide +kernel
theorem dX4_addWay_70 : decode cX4_addWay 70 = .ok (.aload_n 0, 1) := by decide +kernel
theorem dX4_addWay_71 : decode cX4_addWay 71 = .ok (.dup, 1) := by decide +kernel
theorem dX4_addWay_72 : decode cX4_addWay 72 = .ok (.getfield 46, 3) := by decide +kernel
theorem dX4_addWay_75 : decode cX4_addWay 75 = .ok (.iconst 1, 1) := by decide +kernel
theorem dX4_addWay_76 : decode cX4_addWay 76 = .ok (.iadd, 1) := by decide +kernel
theorem dX4_addWay_77 : decode cX4_addWay 77 = .ok (.putfield 46, 3) := by decide +kernel
theorem dX4_addWay_80 : decode cX4_addWay 80 = .ok (.iload_n 3, 1) := by decide +kernel
theorem dX4_addWay_81 : decode cX4_addWay 81 = .ok (.ireturn, 1) := by decide +kernel
theorem dX4_removeWay_0 : decode cX4_removeWay 0 = .ok (.aload_n 0, 1) := by decide +kernel
theorem dX4_removeWay_1 : decode cX4_removeWay 1 = .ok (.getfield 46, 3) := by decide +kernel
theorem dX4_removeWay_4 : decode cX4_removeWay 4 = .ok (.iload_n 1, 1) := by decide +kernel
theorem dX4_removeWay_5 : decode cX4_removeWay 5 = .ok (.isub, 1) := by decide +kernel
theorem dX4_removeWay_6 : decode cX4_removeWay 6 = .ok (.iconst 1, 1) := by decide +kernel
theorem dX4_removeWay_7 : decode cX4_removeWay 7 = .ok (.isub, 1) := by decide +kernel
theorem dX4_removeWay_8 : decode cX4_removeWay 8 = .ok (.istore_n 2, 1) := by decide +kernel
theorem dX4_removeWay_9 : decode cX4_removeWay 9 = .ok (.aload_n 0, 1) := by decide +kernel
theorem dX4_removeWay_10 : decode cX4_removeWay 10 = .ok (.getfield 21, 3) := by decide +kernel
theorem dX4_removeWay_13 : decode cX4_removeWay 13 = .ok (.iload_n 1, 1) := by decide +kernel
theorem dX4_removeWay_14 : decode cX4_removeWay 14 = .ok (.iconst 1, 1) := by decide +kernel
theorem dX4_removeWay_15 : decode cX4_removeWay 15 = .ok (.iadd, 1) := by decide +kernel
theorem dX4_removeWay_16 : decode cX4_removeWay 16 = .ok (.aload_n 0, 1) := by decide +kernel
theorem dX4_removeWay_17 : decode cX4_removeWay 17 = .ok (.getfield 21, 3) := by decide +kernel
theorem dX4_removeWay_20 : decode cX4_removeWay 20 = .ok (.iload_n 1, 1) := by decide +kernel
theorem dX4_removeWay_21 : decode cX4_removeWay 21 = .ok (.iload_n 2, 1) := by decide +kernel
theorem dX4_removeWay_22 : decode cX4_removeWay 22 = .ok (.invokestatic 49, 3) := by decide +kernel
theorem dX4_removeWay_25 : decode cX4_removeWay 25 = .ok (.aload_n 0, 1) := by decide +kernel
theorem dX4_removeWay_26 : decode cX4_removeWay 26 = .ok (.getfield 24, 3) := by decide +kernel
theorem dX4_removeWay_29 : decode cX4_removeWay 29 = .ok (.iload_n 1, 1) := by decide +kernel
theorem dX4_removeWay_30 : decode cX4_removeWay 30 = .ok (.iconst 1, 1) := by decide +kernel
theorem dX4_removeWay_31 : decode cX4_removeWay 31 = .ok (.iadd, 1) := by decide +kernel
theorem dX4_removeWay_32 : decode cX4_removeWay 32 = .ok (.aload_n 0, 1) := by decide +kernel
theorem dX4_removeWay_33 : decode cX4_removeWay 33 = .ok (.getfield 24, 3) := by decide +kernel
theorem dX4_removeWay_36 : decode cX4_removeWay 36 = .ok (.iload_n 1, 1) := by decide +kernel
theorem dX4_removeWay_37 : decode cX4_removeWay 37 = .ok (.iload_n 2, 1) := by decide +kernel
theorem dX4_removeWay_38 : decode cX4_removeWay 38 = .ok (.invokestatic 49, 3) := by decide +kernel
theorem dX4_removeWay_41 : decode cX4_removeWay 41 = .ok (.aload_n 0, 1) := by decide +kernel
theorem dX4_removeWay_42 : decode cX4_removeWay 42 = .ok (.getfield 30, 3) := by decide +kernel
theorem dX4_removeWay_45 : decode cX4_removeWay 45 = .ok (.iload_n 1, 1) := by decide +kernel
theorem dX4_removeWay_46 : decode cX4_removeWay 46 = .ok (.iconst 1, 1) := by decide +kernel
theorem dX4_removeWay_47 : decode cX4_removeWay 47 = .ok (.iadd, 1) := by decide +kernel
theorem dX4_removeWay_48 : decode cX4_removeWay 48 = .ok (.aload_n 0, 1) := by decide +kernel
theorem dX4_removeWay_49 : decode cX4_removeWay 49 = .ok (.getfield 30, 3) := by decide +kernel
theorem dX4_removeWay_52 : decode cX4_removeWay 52 = .ok (.iload_n 1, 1) := by decide +kernel
theorem dX4_removeWay_53 : decode cX4_removeWay 53 = .ok (.iload_n 2, 1) := by decide +kernel
theorem dX4_removeWay_54 : decode cX4_removeWay 54 = .ok (.invokestatic 49, 3) := by decide +kernel
theorem dX4_removeWay_57 : decode cX4_removeWay 57 = .ok (.aload_n 0, 1) := by decide +kernel
theorem dX4_removeWay_58 : decode cX4_removeWay 58 = .ok (.getfield 33, 3) := by decide +kernel
theorem dX4_removeWay_61 : decode cX4_removeWay 61 = .ok (.iload_n 1, 1) := by decide +kernel
theorem dX4_removeWay_62 : decode cX4_removeWay 62 = .ok (.iconst 1, 1) := by decide +kernel
theorem dX4_removeWay_63 : decode cX4_removeWay 63 = .ok (.iadd, 1) := by decide +kernel
theorem dX4_removeWay_64 : decode cX4_removeWay 64 = .ok (.aload_n 0, 1) := by decide +kernel
theorem dX4_removeWay_65 : decode cX4_removeWay 65 = .ok (.getfield 33, 3) := by decide +kernel
theorem dX4_removeWay_68 : decode cX4_removeWay 68 = .ok (.iload_n 1, 1) := by decide +kernel
theorem dX4_removeWay_69 : decode cX4_removeWay 69 = .ok (.iload_n 2, 1) := by decide +kernel
theorem dX4_removeWay_70 : decode cX4_removeWay 70 = .ok (.invokestatic 49, 3) := by decide +kernel
theorem dX4_removeWay_73 : decode cX4_removeWay 73 = .ok (.aload_n 0, 1) := by decide +kernel
theorem dX4_removeWay_74 : decode cX4_removeWay 74 = .ok (.getfield 36, 3) := by decide +kernel
theorem dX4_removeWay_77 : decode cX4_removeWay 77 = .ok (.iload_n 1, 1) := by decide +kernel
theorem dX4_removeWay_78 : decode cX4_removeWay 78 = .ok (.iconst 1, 1) := by decide +kernel
theorem dX4_removeWay_79 : decode cX4_removeWay 79 = .ok (.iadd, 1) := by decide +kernel
theorem dX4_removeWay_80 : decode cX4_removeWay 80 = .ok (.aload_n 0, 1) := by decide +kernel
theorem dX4_removeWay_81 : decode cX4_removeWay 81 = .ok (.getfield 36, 3) := by decide +kernel
theorem dX4_removeWay_84 : decode cX4_removeWay 84 = .ok (.iload_n 1, 1) := by decide +kernel
theorem dX4_removeWay_85 : decode cX4_removeWay 85 = .ok (.iload_n 2, 1) := by decide +kernel
theorem dX4_removeWay_86 : decode cX4_removeWay 86 = .ok (.invokestatic 49, 3) := by decide +kernel
theorem dX4_removeWay_89 : decode cX4_removeWay 89 = .ok (.aload_n 0, 1) := by decide +kernel
theorem dX4_removeWay_90 : decode cX4_removeWay 90 = .ok (.getfield 27, 3) := by decide +kernel
theorem dX4_removeWay_93 : decode cX4_removeWay 93 = .ok (.iload_n 1, 1) := by decide +kernel
theorem dX4_removeWay_94 : decode cX4_removeWay 94 = .ok (.iconst 1, 1) := by decide +kernel
theorem dX4_removeWay_95 : decode cX4_removeWay 95 = .ok (.iadd, 1) := by decide +kernel
theorem dX4_removeWay_96 : decode cX4_removeWay 96 = .ok (.bipush 8, 2) := by decide +kernel
theorem dX4_removeWay_98 : decode cX4_removeWay 98 = .ok (.imul, 1) := by decide +kernel
theorem dX4_removeWay_99 : decode cX4_removeWay 99 = .ok (.aload_n 0, 1) := by decide +kernel
theorem dX4_removeWay_100 : decode cX4_removeWay 100 = .ok (.getfield 27, 3) := by decide +kernel
theorem dX4_removeWay_103 : decode cX4_removeWay 103 = .ok (.iload_n 1, 1) := by decide +kernel
theorem dX4_removeWay_104 : decode cX4_removeWay 104 = .ok (.bipush 8, 2) := by decide +kernel
theorem dX4_removeWay_106 : decode cX4_removeWay 106 = .ok (.imul, 1) := by decide +kernel
theorem dX4_removeWay_107 : decode cX4_removeWay 107 = .ok (.iload_n 2, 1) := by decide +kernel
theorem dX4_removeWay_108 : decode cX4_removeWay 108 = .ok (.bipush 8, 2) := by decide +kernel
theorem dX4_removeWay_110 : decode cX4_removeWay 110 = .ok (.imul, 1) := by decide +kernel
theorem dX4_removeWay_111 : decode cX4_removeWay 111 = .ok (.invokestatic 49, 3) := by decide +kernel
theorem dX4_removeWay_114 : decode cX4_removeWay 114 = .ok (.aload_n 0, 1) := by decide +kernel
theorem dX4_removeWay_115 : decode cX4_removeWay 115 = .ok (.dup, 1) := by decide +kernel
theorem dX4_removeWay_116 : decode cX4_removeWay 116 = .ok (.getfield 46, 3) := by decide +kernel
theorem dX4_removeWay_119 : decode cX4_removeWay 119 = .ok (.iconst 1, 1) := by decide +kernel
theorem dX4_removeWay_120 : decode cX4_removeWay 120 = .ok (.isub, 1) := by decide +kernel
theorem dX4_removeWay_121 : decode cX4_removeWay 121 = .ok (.putfield 46, 3) := by decide +kernel
theorem dX4_removeWay_124 : decode cX4_removeWay 124 = .ok (.return_, 1) := by decide +kernel
theorem dX5_init_0 : decode cX5_init 0 = .ok (.aload_n 0, 1) := by decide +kernel
theorem dX5_init_1 : decode cX5_init 1 = .ok (.invokespecial 3, 3) := by decide +kernel
theorem dX5_init_4 : decode cX5_init 4 = .ok (.aload_n 0, 1) := by decide +kernel
theorem dX5_init_5 : decode cX5_init 5 = .ok (.bipush 10, 2) := by decide +kernel
theorem dX5_init_7 : decode cX5_init 7 = .ok (.newarray .int, 2) := by decide +kernel
theorem dX5_init_9 : decode cX5_init 9 = .ok (.putfield 9, 3) := by decide +kernel
theorem dX5_init_12 : decode cX5_init 12 = .ok (.aload_n 0, 1) := by decide +kernel
theorem dX5_init_13 : decode cX5_init 13 = .ok (.bipush 10, 2) := by decide +kernel
theorem dX5_init_15 : decode cX5_init 15 = .ok (.newarray .int, 2) := by decide +kernel
theorem dX5_init_17 : decode cX5_init 17 = .ok (.putfield 15, 3) := by decide +kernel
theorem dX5_init_20 : decode cX5_init 20 = .ok (.return_, 1) := by decide +kernel
theorem dX5_run_0 : decode cX5_run 0 = .ok (.aload_n 0, 1) := by decide +kernel
theorem dX5_run_1 : decode cX5_run 1 = .ok (.aload_n 1, 1) := by decide +kernel
theorem dX5_run_2 : decode cX5_run 2 = .ok (.getfield 18, 3) := by decide +kernel
theorem dX5_run_5 : decode cX5_run 5 = .ok (.putfield 24, 3) := by decide +kernel
theorem dX5_run_8 : decode cX5_run 8 = .ok (.iconst 0, 1) := by decide +kernel
theorem dX5_run_9 : decode cX5_run 9 = .ok (.istore 4, 2) := by decide +kernel
theorem dX5_run_11 : decode cX5_run 11 = .ok (.iload 4, 2) := by decide +kernel
theorem dX5_run_13 : decode cX5_run 13 = .ok (.aload_n 1, 1) := by decide +kernel
theorem dX5_run_14 : decode cX5_run 14 = .ok (.getfield 18, 3) := by decide +kernel
theorem dX5_run_17 : decode cX5_run 17 = .ok (.if_icmp .ge 26, 3) := by decide +kernel
theorem dX5_run_20 : decode cX5_run 20 = .ok (.aload_n 0, 1) := by decide +kernel
theorem dX5_run_21 : decode cX5_run 21 = .ok (.getfield 9, 3) := by decide +kernel
theorem dX5_run_24 : decode cX5_run 24 = .ok (.iload 4, 2) := by decide +kernel
theorem dX5_run_26 : decode cX5_run 26 = .ok (.iconst 0, 1) := by decide +kernel
theorem dX5_run_27 : decode cX5_run 27 = .ok (.iastore, 1) := by decide +kernel
theorem dX5_run_28 : decode cX5_run 28 = .ok (.aload_n 0, 1) := by decide +kernel
theorem dX5_run_29 : decode cX5_run 29 = .ok (.getfield 15, 3) := by decide +kernel
theorem dX5_run_32 : decode cX5_run 32 = .ok (.iload 4, 2) := by decide +kernel
theorem dX5_run_34 : decode cX5_run 34 = .ok (.iload 4, 2) := by decide +kernel
theorem dX5_run_36 : decode cX5_run 36 = .ok (.iastore, 1) := by decide +kernel
theorem dX5_run_37 : decode cX5_run 37 = .ok (.iinc 4 1, 3) := by decide +kernel
theorem dX5_run_40 : decode cX5_run 40 = .ok (.goto (-29), 3) := by decide +kernel
theorem dX5_run_43 : decode cX5_run 43 = .ok (.iconst 0, 1) := by decide +kernel
theorem dX5_run_44 : decode cX5_run 44 = .ok (.istore 4, 2) := by decide +kernel
theorem dX5_run_46 : decode cX5_run 46 = .ok (.aload_n 0, 1) := by decide +kernel
theorem dX5_run_47 : decode cX5_run 47 = .ok (.getfield 24, 3) := by decide +kernel
theorem dX5_run_50 : decode cX5_run 50 = .ok (.ifCond .le 66, 3) := by decide +kernel
theorem dX5_run_53 : decode cX5_run 53 = .ok (.iload 4, 2) := by decide +kernel
theorem dX5_run_55 : decode cX5_run 55 = .ok (.sipush 2000, 3) := by decide +kernel
theorem dX5_run_58 : decode cX5_run 58 = .ok (.if_icmp .ge 58, 3) := by decide +kernel
theorem dX5_run_61 : decode cX5_run 61 = .ok (.iinc 4 1, 3) := by decide +kernel
theorem dX5_run_64 : decode cX5_run 64 = .ok (.aload_n 0, 1) := by decide +kernel
theorem dX5_run_65 : decode cX5_run 65 = .ok (.iload_n 2, 1) := by decide +kernel
theorem dX5_run_66 : decode cX5_run 66 = .ok (.invokevirtual 27, 3) := by decide +kernel
theorem dX5_run_69 : decode cX5_run 69 = .ok (.istore 5, 2) := by decide +kernel
theorem dX5_run_71 : decode cX5_run 71 = .ok (.aload_n 1, 1) := by decide +kernel
theorem dX5_run_72 : decode cX5_run 72 = .ok (.iload 5, 2) := by decide +kernel
theorem dX5_run_74 : decode cX5_run 74 = .ok (.aload_n 0, 1) := by decide +kernel
theorem dX5_run_75 : decode cX5_run 75 = .ok (.getfield 9, 3) := by decide +kernel
theorem dX5_run_78 : decode cX5_run 78 = .ok (.iload_n 3, 1) := by decide +kernel
theorem dX5_run_79 : decode cX5_run 79 = .ok (.invokevirtual 31, 3) := by decide +kernel
theorem dX5_run_82 : decode cX5_run 82 = .ok (.istore 6, 2) := by decide +kernel
theorem dX5_run_84 : decode cX5_run 84 = .ok (.iload 6, 2) := by decide +kernel
theorem dX5_run_86 : decode cX5_run 86 = .ok (.aload_n 0, 1) := by decide +kernel
theorem dX5_run_87 : decode cX5_run 87 = .ok (.getfield 9, 3) := by decide +kernel
theorem dX5_run_90 : decode cX5_run 90 = .ok (.iload 5, 2) := by decide +kernel
theorem dX5_run_92 : decode cX5_run 92 = .ok (.iaload, 1) := by decide +kernel
theorem dX5_run_93 : decode cX5_run 93 = .ok (.if_icmp .eq 20, 3) := by decide +kernel
theorem dX5_run_96 : decode cX5_run 96 = .ok (.aload_n 0, 1) := by decide +kernel
theorem dX5_run_97 : decode cX5_run 97 = .ok (.getfield 9, 3) := by decide +kernel
theorem dX5_run_100 : decode cX5_run 100 = .ok (.iload 5, 2) := by decide +kernel
theorem dX5_run_102 : decode cX5_run 102 = .ok (.iload 6, 2) := by decide +kernel
theorem dX5_run_104 : decode cX5_run 104 = .ok (.iastore, 1) := by decide +kernel
theorem dX5_run_105 : decode cX5_run 105 = .ok (.aload_n 0, 1) := by decide +kernel
theorem dX5_run_106 : decode cX5_run 106 = .ok (.aload_n 1, 1) := by decide +kernel
theorem dX5_run_107 : decode cX5_run 107 = .ok (.iload 5, 2) := by decide +kernel
theorem dX5_run_109 : decode cX5_run 109 = .ok (.iload_n 3, 1) := by decide +kernel
theorem dX5_run_110 : decode cX5_run 110 = .ok (.invokevirtual 35, 3) := by decide +kernel
theorem dX5_run_113 : decode cX5_run 113 = .ok (.goto (-67), 3) := by decide +kernel
theorem dX5_run_116 : decode cX5_run 116 = .ok (.aload_n 0, 1) := by decide +kernel
theorem dX5_run_117 : decode cX5_run 117 = .ok (.getfield 24, 3) := by decide +kernel
theorem dX5_run_120 : decode cX5_run 120 = .ok (.ifCond .le 7, 3) := by decide +kernel
theorem dX5_run_123 : decode cX5_run 123 = .ok (.iconst (-1), 1) := by decide +kernel
theorem dX5_run_124 : decode cX5_run 124 = .ok (.goto 5, 3) := by decide +kernel
theorem dX5_run_127 : decode cX5_run 127 = .ok (.iload 4, 2) := by decide +kernel
theorem dX5_run_129 : decode cX5_run 129 = .ok (.ireturn, 1) := by decide +kernel
theorem dX5_takeNext_0 : decode cX5_takeNext 0 = .ok (.iload_n 1, 1) := by decide +kernel
theorem dX5_takeNext_1 : decode cX5_takeNext 1 = .ok (.ifCond .ne 10, 3) := by decide +kernel
theorem dX5_takeNext_4 : decode cX5_takeNext 4 = .ok (.aload_n 0, 1) := by decide +kernel
theorem dX5_takeNext_5 : decode cX5_takeNext 5 = .ok (.invokevirtual 39, 3) := by decide +kernel
theorem dX5_takeNext_8 : decode cX5_takeNext 8 = .ok (.goto 18, 3) := by decide +kernel
theorem dX5_takeNext_11 : decode cX5_takeNext 11 = .ok (.iload_n 1, 1) := by decide +kernel
theorem dX5_takeNext_12 : decode cX5_takeNext 12 = .ok (.iconst 1, 1) := by decide +kernel
theorem dX5_takeNext_13 : decode cX5_takeNext 13 = .ok (.if_icmp .ne 7, 3) := by decide +kernel
theorem dX5_takeNext_16 : decode cX5_takeNext 16 = .ok (.iconst 0, 1) := by decide +kernel
theorem dX5_takeNext_17 : decode cX5_takeNext 17 = .ok (.goto 9, 3) := by decide +kernel
theorem dX5_takeNext_20 : decode cX5_takeNext 20 = .ok (.aload_n 0, 1) := by decide +kernel
theorem dX5_takeNext_21 : decode cX5_takeNext 21 = .ok (.getfield 24, 3) := by decide +kernel
theorem dX5_takeNext_24 : decode cX5_takeNext 24 = .ok (.iconst 1, 1) := by decide +kernel
theorem dX5_takeNext_25 : decode cX5_takeNext 25 = .ok (.isub, 1) := by decide +kernel
theorem dX5_takeNext_26 : decode cX5_takeNext 26 = .ok (.istore_n 2, 1) := by decide +kernel
theorem dX5_takeNext_27 : decode cX5_takeNext 27 = .ok (.aload_n 0, 1) := by decide +kernel
theorem dX5_takeNext_28 : decode cX5_takeNext 28 = .ok (.getfield 15, 3) := by decide +kernel
theorem dX5_takeNext_31 : decode cX5_takeNext 31 = .ok (.iload_n 2, 1) := by decide +kernel
theorem dX5_takeNext_32 : decode cX5_takeNext 32 = .ok (.iaload, 1) := by decide +kernel
theorem dX5_takeNext_33 : decode cX5_takeNext 33 = .ok (.istore_n 3, 1) := by decide +kernel
theorem dX5_takeNext_34 : decode cX5_takeNext 34 = .ok (.aload_n 0, 1) := by decide +kernel
theorem dX5_takeNext_35 : decode cX5_takeNext 35 = .ok (.dup, 1) := by decide +kernel
theorem dX5_takeNext_36 : decode cX5_takeNext 36 = .ok (.getfield 24, 3) := by decide +kernel
theorem dX5_takeNext_39 : decode cX5_takeNext 39 = .ok (.iconst 1, 1) := by decide +kernel
theorem dX5_takeNext_40 : decode cX5_takeNext 40 = .ok (.isub, 1) := by decide +kernel
theorem dX5_takeNext_41 : decode cX5_takeNext 41 = .ok (.putfield 24, 3) := by decide +kernel
theorem dX5_takeNext_44 : decode cX5_takeNext 44 = .ok (.iload_n 2, 1) := by decide +kernel
theorem dX5_takeNext_45 : decode cX5_takeNext 45 = .ok (.istore 4, 2) := by decide +kernel
theorem dX5_takeNext_47 : decode cX5_takeNext 47 = .ok (.iload 4, 2) := by decide +kernel
theorem dX5_takeNext_49 : decode cX5_takeNext 49 = .ok (.aload_n 0, 1) := by decide +kernel
theorem dX5_takeNext_50 : decode cX5_takeNext 50 = .ok (.getfield 24, 3) := by decide +kernel
theorem dX5_takeNext_53 : decode cX5_takeNext 53 = .ok (.if_icmp .ge 25, 3) := by decide +kernel
theorem dX5_takeNext_56 : decode cX5_takeNext 56 = .ok (.aload_n 0, 1) := by decide +kernel
theorem dX5_takeNext_57 : decode cX5_takeNext 57 = .ok (.getfield 15, 3) := by decide +kernel
theorem dX5_takeNext_60 : decode cX5_takeNext 60 = .ok (.iload 4, 2) := by decide +kernel
theorem dX5_takeNext_62 : decode cX5_takeNext 62 = .ok (.aload_n 0, 1) := by decide +kernel
theorem dX5_takeNext_63 : decode cX5_takeNext 63 = .ok (.getfield 15, 3) := by decide +kernel
theorem dX5_takeNext_66 : decode cX5_takeNext 66 = .ok (.iload 4, 2) := by decide +kernel
theorem dX5_takeNext_68 : decode cX5_takeNext 68 = .ok (.iconst 1, 1) := by decide +kernel
theorem dX5_takeNext_69 : decode cX5_takeNext 69 = .ok (.iadd, 1) := by decide +kernel
theorem dX5_takeNext_70 : decode cX5_takeNext 70 = .ok (.iaload, 1) := by decide +kernel
theorem dX5_takeNext_71 : decode cX5_takeNext 71 = .ok (.iastore, 1) := by decide +kernel
theorem dX5_takeNext_72 : decode cX5_takeNext 72 = .ok (.iinc 4 1, 3) := by decide +kernel
theorem dX5_takeNext_75 : decode cX5_takeNext 75 = .ok (.goto (-28), 3) := by decide +kernel
theorem dX5_takeNext_78 : decode cX5_takeNext 78 = .ok (.iload_n 3, 1) := by decide +kernel
theorem dX5_takeNext_79 : decode cX5_takeNext 79 = .ok (.ireturn, 1) := by decide +kernel
theorem dX5_leastWaiting_0 : decode cX5_leastWaiting 0 = .ok (.iconst 0, 1) := by decide +kernel
theorem dX5_leastWaiting_1 : decode cX5_leastWaiting 1 = .ok (.istore_n 1, 1) := by decide +kernel
theorem dX5_leastWaiting_2 : decode cX5_leastWaiting 2 = .ok (.iconst 1, 1) := by decide +kernel
theorem dX5_leastWaiting_3 : decode cX5_leastWaiting 3 = .ok (.istore_n 2, 1) := by decide +kernel
theorem dX5_leastWaiting_4 : decode cX5_leastWaiting 4 = .ok (.iload_n 2, 1) := by decide +kernel
theorem dX5_leastWaiting_5 : decode cX5_leastWaiting 5 = .ok (.aload_n 0, 1) := by decide +kernel
theorem dX5_leastWaiting_6 : decode cX5_leastWaiting 6 = .ok (.getfield 24, 3) := by decide +kernel
theorem dX5_leastWaiting_9 : decode cX5_leastWaiting 9 = .ok (.if_icmp .ge 26, 3) := by decide +kernel
theorem dX5_leastWaiting_12 : decode cX5_leastWaiting 12 = .ok (.aload_n 0, 1) := by decide +kernel
theorem dX5_leastWaiting_13 : decode cX5_leastWaiting 13 = .ok (.getfield 15, 3) := by decide +kernel
theorem dX5_leastWaiting_16 : decode cX5_leastWaiting 16 = .ok (.iload_n 2, 1) := by decide +kernel
theorem dX5_leastWaiting_17 : decode cX5_leastWaiting 17 = .ok (.iaload, 1) := by decide +kernel
theorem dX5_leastWaiting_18 : decode cX5_leastWaiting 18 = .ok (.aload_n 0, 1) := by decide +kernel
theorem dX5_leastWaiting_19 : decode cX5_leastWaiting 19 = .ok (.getfield 15, 3) := by decide +kernel
theorem dX5_leastWaiting_22 : decode cX5_leastWaiting 22 = .ok (.iload_n 1, 1) := by decide +kernel
theorem dX5_leastWaiting_23 : decode cX5_leastWaiting 23 = .ok (.iaload, 1) := by decide +kernel
theorem dX5_leastWaiting_24 : decode cX5_leastWaiting 24 = .ok (.if_icmp .ge 5, 3) := by decide +kernel
theorem dX5_leastWaiting_27 : decode cX5_leastWaiting 27 = .ok (.iload_n 2, 1) := by decide +kernel
theorem dX5_leastWaiting_28 : decode cX5_leastWaiting 28 = .ok (.istore_n 1, 1) := by decide +kernel
theorem dX5_leastWaiting_29 : decode cX5_leastWaiting 29 = .ok (.iinc 2 1, 3) := by decide +kernel
theorem dX5_leastWaiting_32 : decode cX5_leastWaiting 32 = .ok (.goto (-28), 3) := by decide +kernel
theorem dX5_leastWaiting_35 : decode cX5_leastWaiting 35 = .ok (.iload_n 1, 1) := by decide +kernel
theorem dX5_leastWaiting_36 : decode cX5_leastWaiting 36 = .ok (.ireturn, 1) := by decide +kernel
theorem dX5_wakeBehind_0 : decode cX5_wakeBehind 0 = .ok (.iconst 0, 1) := by decide +kernel
theorem dX5_wakeBehind_1 : decode cX5_wakeBehind 1 = .ok (.istore 4, 2) := by decide +kernel
theorem dX5_wakeBehind_3 : decode cX5_wakeBehind 3 = .ok (.iload 4, 2) := by decide +kernel
theorem dX5_wakeBehind_5 : decode cX5_wakeBehind 5 = .ok (.aload_n 1, 1) := by decide +kernel
theorem dX5_wakeBehind_6 : decode cX5_wakeBehind 6 = .ok (.getfield 43, 3) := by decide +kernel
theorem dX5_wakeBehind_9 : decode cX5_wakeBehind 9 = .ok (.if_icmp .ge 75, 3) := by decide +kernel
theorem dX5_wakeBehind_12 : decode cX5_wakeBehind 12 = .ok (.aload_n 1, 1) := by decide +kernel
theorem dX5_wakeBehind_13 : decode cX5_wakeBehind 13 = .ok (.getfield 46, 3) := by decide +kernel
theorem dX5_wakeBehind_16 : decode cX5_wakeBehind 16 = .ok (.iload 4, 2) := by decide +kernel
theorem dX5_wakeBehind_18 : decode cX5_wakeBehind 18 = .ok (.iaload, 1) := by decide +kernel
theorem dX5_wakeBehind_19 : decode cX5_wakeBehind 19 = .ok (.iload_n 2, 1) := by decide +kernel
theorem dX5_wakeBehind_20 : decode cX5_wakeBehind 20 = .ok (.if_icmp .ne 58, 3) := by decide +kernel
theorem dX5_wakeBehind_23 : decode cX5_wakeBehind 23 = .ok (.iload 4, 2) := by decide +kernel
theorem dX5_wakeBehind_25 : decode cX5_wakeBehind 25 = .ok (.iload_n 3, 1) := by decide +kernel
theorem dX5_wakeBehind_26 : decode cX5_wakeBehind 26 = .ok (.if_icmp .eq 52, 3) := by decide +kernel
theorem dX5_wakeBehind_29 : decode cX5_wakeBehind 29 = .ok (.aload_n 0, 1) := by decide +kernel
theorem dX5_wakeBehind_30 : decode cX5_wakeBehind 30 = .ok (.aload_n 1, 1) := by decide +kernel
theorem dX5_wakeBehind_31 : decode cX5_wakeBehind 31 = .ok (.getfield 49, 3) := by decide +kernel
theorem dX5_wakeBehind_34 : decode cX5_wakeBehind 34 = .ok (.iload 4, 2) := by decide +kernel
theorem dX5_wakeBehind_36 : decode cX5_wakeBehind 36 = .ok (.iaload, 1) := by decide +kernel
theorem dX5_wakeBehind_37 : decode cX5_wakeBehind 37 = .ok (.invokevirtual 52, 3) := by decide +kernel
theorem dX5_wakeBehind_40 : decode cX5_wakeBehind 40 = .ok (.ifCond .ne 38, 3) := by decide +kernel
theorem dX5_wakeBehind_43 : decode cX5_wakeBehind 43 = .ok (.aload_n 0, 1) := by decide +kernel
theorem dX5_wakeBehind_44 : decode cX5_wakeBehind 44 = .ok (.getfield 24, 3) := by decide +kernel
theorem dX5_wakeBehind_47 : decode cX5_wakeBehind 47 = .ok (.bipush 10, 2) := by decide +kernel
theorem dX5_wakeBehind_49 : decode cX5_wakeBehind 49 = .ok (.if_icmp .ge 29, 3) := by decide +kernel
theorem dX5_wakeBehind_52 : decode cX5_wakeBehind 52 = .ok (.aload_n 0, 1) := by decide +kernel
theorem dX5_wakeBehind_53 : decode cX5_wakeBehind 53 = .ok (.getfield 15, 3) := by decide +kernel
theorem dX5_wakeBehind_56 : decode cX5_wakeBehind 56 = .ok (.aload_n 0, 1) := by decide +kernel
theorem dX5_wakeBehind_57 : decode cX5_wakeBehind 57 = .ok (.getfield 24, 3) := by decide +kernel
theorem dX5_wakeBehind_60 : decode cX5_wakeBehind 60 = .ok (.aload_n 1, 1) := by decide +kernel
theorem dX5_wakeBehind_61 : decode cX5_wakeBehind 61 = .ok (.getfield 49, 3) := by decide +kernel
theorem dX5_wakeBehind_64 : decode cX5_wakeBehind 64 = .ok (.iload 4, 2) := by decide +kernel
theorem dX5_wakeBehind_66 : decode cX5_wakeBehind 66 = .ok (.iaload, 1) := by decide +kernel
theorem dX5_wakeBehind_67 : decode cX5_wakeBehind 67 = .ok (.iastore, 1) := by decide +kernel
theorem dX5_wakeBehind_68 : decode cX5_wakeBehind 68 = .ok (.aload_n 0, 1) := by decide +kernel
theorem dX5_wakeBehind_69 : decode cX5_wakeBehind 69 = .ok (.dup, 1) := by decide +kernel
theorem dX5_wakeBehind_70 : decode cX5_wakeBehind 70 = .ok (.getfield 24, 3) := by decide +kernel
theorem dX5_wakeBehind_73 : decode cX5_wakeBehind 73 = .ok (.iconst 1, 1) := by decide +kernel
theorem dX5_wakeBehind_74 : decode cX5_wakeBehind 74 = .ok (.iadd, 1) := by decide +kernel
theorem dX5_wakeBehind_75 : decode cX5_wakeBehind 75 = .ok (.putfield 24, 3) := by decide +kernel
theorem dX5_wakeBehind_78 : decode cX5_wakeBehind 78 = .ok (.iinc 4 1, 3) := by decide +kernel
theorem dX5_wakeBehind_81 : decode cX5_wakeBehind 81 = .ok (.goto (-78), 3) := by decide +kernel
theorem dX5_wakeBehind_84 : decode cX5_wakeBehind 84 = .ok (.return_, 1) := by decide +kernel
theorem dX5_isWaiting_0 : decode cX5_isWaiting 0 = .ok (.iconst 0, 1) := by decide +kernel
theorem dX5_isWaiting_1 : decode cX5_isWaiting 1 = .ok (.istore_n 2, 1) := by decide +kernel
theorem dX5_isWaiting_2 : decode cX5_isWaiting 2 = .ok (.iload_n 2, 1) := by decide +kernel
theorem dX5_isWaiting_3 : decode cX5_isWaiting 3 = .ok (.aload_n 0, 1) := by decide +kernel
theorem dX5_isWaiting_4 : decode cX5_isWaiting 4 = .ok (.getfield 24, 3) := by decide +kernel
theorem dX5_isWaiting_7 : decode cX5_isWaiting 7 = .ok (.if_icmp .ge 21, 3) := by decide +kernel
theorem dX5_isWaiting_10 : decode cX5_isWaiting 10 = .ok (.aload_n 0, 1) := by decide +kernel
theorem dX5_isWaiting_11 : decode cX5_isWaiting 11 = .ok (.getfield 15, 3) := by decide +kernel
theorem dX5_isWaiting_14 : decode cX5_isWaiting 14 = .ok (.iload_n 2, 1) := by decide +kernel
theorem dX5_isWaiting_15 : decode cX5_isWaiting 15 = .ok (.iaload, 1) := by decide +kernel
theorem dX5_isWaiting_16 : decode cX5_isWaiting 16 = .ok (.iload_n 1, 1) := by decide +kernel
theorem dX5_isWaiting_17 : decode cX5_isWaiting 17 = .ok (.if_icmp .ne 5, 3) := by decide +kernel
theorem dX5_isWaiting_20 : decode cX5_isWaiting 20 = .ok (.iconst 1, 1) := by decide +kernel
theorem dX5_isWaiting_21 : decode cX5_isWaiting 21 = .ok (.ireturn, 1) := by decide +kernel
theorem dX5_isWaiting_22 : decode cX5_isWaiting 22 = .ok (.iinc 2 1, 3) := by decide +kernel
theorem dX5_isWaiting_25 : decode cX5_isWaiting 25 = .ok (.goto (-23), 3) := by decide +kernel
theorem dX5_isWaiting_28 : decode cX5_isWaiting 28 = .ok (.iconst 0, 1) := by decide +kernel
theorem dX5_isWaiting_29 : decode cX5_isWaiting 29 = .ok (.ireturn, 1) := by decide +kernel
theorem dX6_init_0 : decode cX6_init 0 = .ok (.aload_n 0, 1) := by decide +kernel
theorem dX6_init_1 : decode cX6_init 1 = .ok (.invokespecial 1, 3) := by decide +kernel
theorem dX6_init_4 : decode cX6_init 4 = .ok (.aload_n 0, 1) := by decide +kernel
theorem dX6_init_5 : decode cX6_init 5 = .ok (.new 7, 3) := by decide +kernel
theorem dX6_init_8 : decode cX6_init 8 = .ok (.dup, 1) := by decide +kernel
theorem dX6_init_9 : decode cX6_init 9 = .ok (.invokespecial 9, 3) := by decide +kernel
theorem dX6_init_12 : decode cX6_init 12 = .ok (.putfield 10, 3) := by decide +kernel
theorem dX6_init_15 : decode cX6_init 15 = .ok (.aload_n 0, 1) := by decide +kernel
theorem dX6_init_16 : decode cX6_init 16 = .ok (.new 16, 3) := by decide +kernel
theorem dX6_init_19 : decode cX6_init 19 = .ok (.dup, 1) := by decide +kernel
theorem dX6_init_20 : decode cX6_init 20 = .ok (.invokespecial 18, 3) := by decide +kernel
theorem dX6_init_23 : decode cX6_init 23 = .ok (.putfield 19, 3) := by decide +kernel
theorem dX6_init_26 : decode cX6_init 26 = .ok (.aload_n 0, 1) := by decide +kernel
theorem dX6_init_27 : decode cX6_init 27 = .ok (.new 23, 3) := by decide +kernel
theorem dX6_init_30 : decode cX6_init 30 = .ok (.dup, 1) := by decide +kernel
theorem dX6_init_31 : decode cX6_init 31 = .ok (.invokespecial 25, 3) := by decide +kernel
theorem dX6_init_34 : decode cX6_init 34 = .ok (.putfield 26, 3) := by decide +kernel
theorem dX6_init_37 : decode cX6_init 37 = .ok (.aload_n 0, 1) := by decide +kernel
theorem dX6_init_38 : decode cX6_init 38 = .ok (.new 23, 3) := by decide +kernel
theorem dX6_init_41 : decode cX6_init 41 = .ok (.dup, 1) := by decide +kernel
theorem dX6_init_42 : decode cX6_init 42 = .ok (.invokespecial 25, 3) := by decide +kernel
theorem dX6_init_45 : decode cX6_init 45 = .ok (.putfield 30, 3) := by decide +kernel
theorem dX6_init_48 : decode cX6_init 48 = .ok (.aload_n 0, 1) := by decide +kernel
theorem dX6_init_49 : decode cX6_init 49 = .ok (.new 33, 3) := by decide +kernel
theorem dX6_init_52 : decode cX6_init 52 = .ok (.dup, 1) := by decide +kernel
theorem dX6_init_53 : decode cX6_init 53 = .ok (.invokespecial 35, 3) := by decide +kernel
theorem dX6_init_56 : decode cX6_init 56 = .ok (.putfield 36, 3) := by decide +kernel
theorem dX6_init_59 : decode cX6_init 59 = .ok (.aload_n 0, 1) := by decide +kernel
theorem dX6_init_60 : decode cX6_init 60 = .ok (.new 40, 3) := by decide +kernel
theorem dX6_init_63 : decode cX6_init 63 = .ok (.dup, 1) := by decide +kernel
theorem dX6_init_64 : decode cX6_init 64 = .ok (.invokespecial 42, 3) := by decide +kernel
theorem dX6_init_67 : decode cX6_init 67 = .ok (.putfield 43, 3) := by decide +kernel
theorem dX6_init_70 : decode cX6_init 70 = .ok (.aload_n 0, 1) := by decide +kernel
theorem dX6_init_71 : decode cX6_init 71 = .ok (.new 40, 3) := by decide +kernel
theorem dX6_init_74 : decode cX6_init 74 = .ok (.dup, 1) := by decide +kernel
theorem dX6_init_75 : decode cX6_init 75 = .ok (.invokespecial 42, 3) := by decide +kernel
theorem dX6_init_78 : decode cX6_init 78 = .ok (.putfield 47, 3) := by decide +kernel
theorem dX6_init_81 : decode cX6_init 81 = .ok (.aload_n 0, 1) := by decide +kernel
theorem dX6_init_82 : decode cX6_init 82 = .ok (.new 50, 3) := by decide +kernel
theorem dX6_init_85 : decode cX6_init 85 = .ok (.dup, 1) := by decide +kernel
theorem dX6_init_86 : decode cX6_init 86 = .ok (.invokespecial 52, 3) := by decide +kernel
theorem dX6_init_89 : decode cX6_init 89 = .ok (.putfield 53, 3) := by decide +kernel
theorem dX6_init_92 : decode cX6_init 92 = .ok (.aload_n 0, 1) := by decide +kernel
theorem dX6_init_93 : decode cX6_init 93 = .ok (.getfield 10, 3) := by decide +kernel
theorem dX6_init_96 : decode cX6_init 96 = .ok (.iconst 0, 1) := by decide +kernel
theorem dX6_init_97 : decode cX6_init 97 = .ok (.iconst 4, 1) := by decide +kernel
theorem dX6_init_98 : decode cX6_init 98 = .ok (.iconst 4, 1) := by decide +kernel
theorem dX6_init_99 : decode cX6_init 99 = .ok (.invokevirtual 57, 3) := by decide +kernel
theorem dX6_init_102 : decode cX6_init 102 = .ok (.return_, 1) := by decide +kernel
theorem dX6_told_0 : decode cX6_told 0 = .ok (.iload_n 1, 1) := by decide +kernel
theorem dX6_told_1 : decode cX6_told 1 = .ok (.tableswitch 182 0 12 #[67, 75, 83, 91, 99, 107, 123, 131, 143, 156, 161, 169, 174], 67) := by decide +kernel
theorem dX6_told_68 : decode cX6_told 68 = .ok (.aload_n 0, 1) := by decide +kernel
theorem dX6_told_69 : decode cX6_told 69 = .ok (.getfield 10, 3) := by decide +kernel
theorem dX6_told_72 : decode cX6_told 72 = .ok (.getfield 61, 3) := by decide +kernel
theorem dX6_told_75 : decode cX6_told 75 = .ok (.ireturn, 1) := by decide +kernel
theorem dX6_told_76 : decode cX6_told 76 = .ok (.aload_n 0, 1) := by decide +kernel
theorem dX6_told_77 : decode cX6_told 77 = .ok (.getfield 10, 3) := by decide +kernel
theorem dX6_told_80 : decode cX6_told 80 = .ok (.getfield 65, 3) := by decide +kernel
theorem dX6_told_83 : decode cX6_told 83 = .ok (.ireturn, 1) := by decide +kernel
theorem dX6_told_84 : decode cX6_told 84 = .ok (.aload_n 0, 1) := by decide +kernel
theorem dX6_told_85 : decode cX6_told 85 = .ok (.getfield 10, 3) := by decide +kernel
theorem dX6_told_88 : decode cX6_told 88 = .ok (.getfield 68, 3) := by decide +kernel
theorem dX6_told_91 : decode cX6_told 91 = .ok (.ireturn, 1) := by decide +kernel
theorem dX6_told_92 : decode cX6_told 92 = .ok (.aload_n 0, 1) := by decide +kernel
theorem dX6_told_93 : decode cX6_told 93 = .ok (.getfield 10, 3) := by decide +kernel
theorem dX6_told_96 : decode cX6_told 96 = .ok (.invokevirtual 71, 3) := by decide +kernel
theorem dX6_told_99 : decode cX6_told 99 = .ok (.ireturn, 1) := by decide +kernel
theorem dX6_told_100 : decode cX6_told 100 = .ok (.aload_n 0, 1) := by decide +kernel
theorem dX6_told_101 : decode cX6_told 101 = .ok (.getfield 10, 3) := by decide +kernel
theorem dX6_told_104 : decode cX6_told 104 = .ok (.invokevirtual 75, 3) := by decide +kernel
theorem dX6_told_107 : decode cX6_told 107 = .ok (.ireturn, 1) := by decide +kernel
theorem dX6_told_108 : decode cX6_told 108 = .ok (.aload_n 0, 1) := by decide +kernel
theorem dX6_told_109 : decode cX6_told 109 = .ok (.getfield 10, 3) := by decide +kernel
theorem dX6_told_112 : decode cX6_told 112 = .ok (.invokevirtual 78, 3) := by decide +kernel
theorem dX6_told_115 : decode cX6_told 115 = .ok (.ifCond .eq 7, 3) := by decide +kernel
theorem dX6_told_118 : decode cX6_told 118 = .ok (.iconst 1, 1) := by decide +kernel
theorem dX6_told_119 : decode cX6_told 119 = .ok (.goto 4, 3) := by decide +kernel
theorem dX6_told_122 : decode cX6_told 122 = .ok (.iconst 0, 1) := by decide +kernel
theorem dX6_told_123 : decode cX6_told 123 = .ok (.ireturn, 1) := by decide +kernel
theorem dX6_told_124 : decode cX6_told 124 = .ok (.aload_n 0, 1) := by decide +kernel
theorem dX6_told_125 : decode cX6_told 125 = .ok (.getfield 10, 3) := by decide +kernel
theorem dX6_told_128 : decode cX6_told 128 = .ok (.invokevirtual 82, 3) := by decide +kernel
theorem dX6_told_131 : decode cX6_told 131 = .ok (.ireturn, 1) := by decide +kernel
theorem dX6_told_132 : decode cX6_told 132 = .ok (.aload_n 0, 1) := by decide +kernel
theorem dX6_told_133 : decode cX6_told 133 = .ok (.getfield 53, 3) := by decide +kernel
theorem dX6_told_136 : decode cX6_told 136 = .ok (.aload_n 0, 1) := by decide +kernel
theorem dX6_told_137 : decode cX6_told 137 = .ok (.getfield 10, 3) := by decide +kernel
theorem dX6_told_140 : decode cX6_told 140 = .ok (.invokevirtual 85, 3) := by decide +kernel
theorem dX6_told_143 : decode cX6_told 143 = .ok (.ireturn, 1) := by decide +kernel
theorem dX6_told_144 : decode cX6_told 144 = .ok (.aload_n 0, 1) := by decide +kernel
theorem dX6_told_145 : decode cX6_told 145 = .ok (.invokevirtual 89, 3) := by decide +kernel
theorem dX6_told_148 : decode cX6_told 148 = .ok (.ifCond .eq 7, 3) := by decide +kernel
theorem dX6_told_151 : decode cX6_told 151 = .ok (.iconst 1, 1) := by decide +kernel
theorem dX6_told_152 : decode cX6_told 152 = .ok (.goto 4, 3) := by decide +kernel
theorem dX6_told_155 : decode cX6_told 155 = .ok (.iconst 0, 1) := by decide +kernel
theorem dX6_told_156 : decode cX6_told 156 = .ok (.ireturn, 1) := by decide +kernel
theorem dX6_told_157 : decode cX6_told 157 = .ok (.aload_n 0, 1) := by decide +kernel
theorem dX6_told_158 : decode cX6_told 158 = .ok (.invokevirtual 92, 3) := by decide +kernel
theorem dX6_told_161 : decode cX6_told 161 = .ok (.ireturn, 1) := by decide +kernel
theorem dX6_told_162 : decode cX6_told 162 = .ok (.aload_n 0, 1) := by decide +kernel
theorem dX6_told_163 : decode cX6_told 163 = .ok (.getfield 36, 3) := by decide +kernel
theorem dX6_told_166 : decode cX6_told 166 = .ok (.getfield 95, 3) := by decide +kernel
theorem dX6_told_169 : decode cX6_told 169 = .ok (.ireturn, 1) := by decide +kernel
theorem dX6_told_170 : decode cX6_told 170 = .ok (.aload_n 0, 1) := by decide +kernel
theorem dX6_told_171 : decode cX6_told 171 = .ok (.invokevirtual 98, 3) := by decide +kernel
theorem dX6_told_174 : decode cX6_told 174 = .ok (.ireturn, 1) := by decide +kernel
theorem dX6_told_175 : decode cX6_told 175 = .ok (.aload_n 0, 1) := by decide +kernel
theorem dX6_told_176 : decode cX6_told 176 = .ok (.getfield 19, 3) := by decide +kernel
theorem dX6_told_179 : decode cX6_told 179 = .ok (.getfield 101, 3) := by decide +kernel
theorem dX6_told_182 : decode cX6_told 182 = .ok (.ireturn, 1) := by decide +kernel
theorem dX6_told_183 : decode cX6_told 183 = .ok (.ldc 104, 2) := by decide +kernel
theorem dX6_told_185 : decode cX6_told 185 = .ok (.ireturn, 1) := by decide +kernel
theorem dX6_joined_0 : decode cX6_joined 0 = .ok (.aload_n 0, 1) := by decide +kernel
theorem dX6_joined_1 : decode cX6_joined 1 = .ok (.getfield 10, 3) := by decide +kernel
theorem dX6_joined_4 : decode cX6_joined 4 = .ok (.iload_n 1, 1) := by decide +kernel
theorem dX6_joined_5 : decode cX6_joined 5 = .ok (.invokevirtual 105, 3) := by decide +kernel
theorem dX6_joined_8 : decode cX6_joined 8 = .ok (.ifCond .eq 14, 3) := by decide +kernel
theorem dX6_joined_11 : decode cX6_joined 11 = .ok (.aload_n 0, 1) := by decide +kernel
theorem dX6_joined_12 : decode cX6_joined 12 = .ok (.getfield 10, 3) := by decide +kernel
theorem dX6_joined_15 : decode cX6_joined 15 = .ok (.iload_n 2, 1) := by decide +kernel
theorem dX6_joined_16 : decode cX6_joined 16 = .ok (.invokevirtual 105, 3) := by decide +kernel
theorem dX6_joined_19 : decode cX6_joined 19 = .ok (.ifCond .ne 6, 3) := by decide +kernel
theorem dX6_joined_22 : decode cX6_joined 22 = .ok (.ldc 109, 2) := by decide +kernel
theorem dX6_joined_24 : decode cX6_joined 24 = .ok (.ireturn, 1) := by decide +kernel
theorem dX6_joined_25 : decode cX6_joined 25 = .ok (.aload_n 0, 1) := by decide +kernel
theorem dX6_joined_26 : decode cX6_joined 26 = .ok (.getfield 10, 3) := by decide +kernel
theorem dX6_joined_29 : decode cX6_joined 29 = .ok (.iload_n 1, 1) := by decide +kernel
theorem dX6_joined_30 : decode cX6_joined 30 = .ok (.iload_n 2, 1) := by decide +kernel
theorem dX6_joined_31 : decode cX6_joined 31 = .ok (.invokevirtual 110, 3) := by decide +kernel
theorem dX6_joined_34 : decode cX6_joined 34 = .ok (.ireturn, 1) := by decide +kernel
theorem dX6_below_0 : decode cX6_below 0 = .ok (.aload_n 0, 1) := by decide +kernel
theorem dX6_below_1 : decode cX6_below 1 = .ok (.getfield 10, 3) := by decide +kernel
theorem dX6_below_4 : decode cX6_below 4 = .ok (.iload_n 1, 1) := by decide +kernel
theorem dX6_below_5 : decode cX6_below 5 = .ok (.invokevirtual 105, 3) := by decide +kernel
theorem dX6_below_8 : decode cX6_below 8 = .ok (.ifCond .eq 14, 3) := by decide +kernel
theorem dX6_below_11 : decode cX6_below 11 = .ok (.aload_n 0, 1) := by decide +kernel
theorem dX6_below_12 : decode cX6_below 12 = .ok (.getfield 10, 3) := by decide +kernel
theorem dX6_below_15 : decode cX6_below 15 = .ok (.iload_n 2, 1) := by decide +kernel
theorem dX6_below_16 : decode cX6_below 16 = .ok (.invokevirtual 105, 3) := by decide +kernel
theorem dX6_below_19 : decode cX6_below 19 = .ok (.ifCond .ne 6, 3) := by decide +kernel
theorem dX6_below_22 : decode cX6_below 22 = .ok (.ldc 109, 2) := by decide +kernel
theorem dX6_below_24 : decode cX6_below 24 = .ok (.ireturn, 1) := by decide +kernel
theorem dX6_below_25 : decode cX6_below 25 = .ok (.aload_n 0, 1) := by decide +kernel
theorem dX6_below_26 : decode cX6_below 26 = .ok (.getfield 10, 3) := by decide +kernel
theorem dX6_below_29 : decode cX6_below 29 = .ok (.iload_n 1, 1) := by decide +kernel
theorem dX6_below_30 : decode cX6_below 30 = .ok (.iload_n 2, 1) := by decide +kernel
theorem dX6_below_31 : decode cX6_below 31 = .ok (.invokevirtual 114, 3) := by decide +kernel
theorem dX6_below_34 : decode cX6_below 34 = .ok (.ifCond .eq 7, 3) := by decide +kernel
theorem dX6_below_37 : decode cX6_below 37 = .ok (.iconst 1, 1) := by decide +kernel
theorem dX6_below_38 : decode cX6_below 38 = .ok (.goto 4, 3) := by decide +kernel
theorem dX6_below_41 : decode cX6_below 41 = .ok (.iconst 0, 1) := by decide +kernel
theorem dX6_below_42 : decode cX6_below 42 = .ok (.ireturn, 1) := by decide +kernel
theorem dX6_place_0 : decode cX6_place 0 = .ok (.aload_n 0, 1) := by decide +kernel
theorem dX6_place_1 : decode cX6_place 1 = .ok (.getfield 10, 3) := by decide +kernel
theorem dX6_place_4 : decode cX6_place 4 = .ok (.iload_n 1, 1) := by decide +kernel
theorem dX6_place_5 : decode cX6_place 5 = .ok (.invokevirtual 118, 3) := by decide +kernel
theorem dX6_place_8 : decode cX6_place 8 = .ok (.ifCond .ne 6, 3) := by decide +kernel
theorem dX6_place_11 : decode cX6_place 11 = .ok (.ldc 109, 2) := by decide +kernel
theorem dX6_place_13 : decode cX6_place 13 = .ok (.ireturn, 1) := by decide +kernel
theorem dX6_place_14 : decode cX6_place 14 = .ok (.iload_n 2, 1) := by decide +kernel
theorem dX6_place_15 : decode cX6_place 15 = .ok (.tableswitch 193 0 7 #[45, 58, 71, 95, 119, 128, 137, 165], 45) := by decide +kernel
theorem dX6_place_60 : decode cX6_place 60 = .ok (.aload_n 0, 1) := by decide +kernel
theorem dX6_place_61 : decode cX6_place 61 = .ok (.getfield 10, 3) := by decide +kernel
theorem dX6_place_64 : decode cX6_place 64 = .ok (.getfield 121, 3) := by decide +kernel
theorem dX6_place_67 : decode cX6_place 67 = .ok (.iload_n 1, 1) := by decide +kernel
theorem dX6_place_68 : decode cX6_place 68 = .ok (.iaload, 1) := by decide +kernel
theorem dX6_place_69 : decode cX6_place 69 = .ok (.invokestatic 125, 3) := by decide +kernel
theorem dX6_place_72 : decode cX6_place 72 = .ok (.ireturn, 1) := by decide +kernel
theorem dX6_place_73 : decode cX6_place 73 = .ok (.aload_n 0, 1) := by decide +kernel
theorem dX6_place_74 : decode cX6_place 74 = .ok (.getfield 10, 3) := by decide +kernel
theorem dX6_place_77 : decode cX6_place 77 = .ok (.getfield 121, 3) := by decide +kernel
theorem dX6_place_80 : decode cX6_place 80 = .ok (.iload_n 1, 1) := by decide +kernel
theorem dX6_place_81 : decode cX6_place 81 = .ok (.iaload, 1) := by decide +kernel
theorem dX6_place_82 : decode cX6_place 82 = .ok (.invokestatic 129, 3) := by decide +kernel
theorem dX6_place_85 : decode cX6_place 85 = .ok (.ireturn, 1) := by decide +kernel
theorem dX6_place_86 : decode cX6_place 86 = .ok (.aload_n 0, 1) := by decide +kernel
theorem dX6_place_87 : decode cX6_place 87 = .ok (.invokevirtual 132, 3) := by decide +kernel
theorem dX6_place_90 : decode cX6_place 90 = .ok (.ifCond .eq 18, 3) := by decide +kernel
theorem dX6_place_93 : decode cX6_place 93 = .ok (.aload_n 0, 1) := by decide +kernel
theorem dX6_place_94 : decode cX6_place 94 = .ok (.getfield 43, 3) := by decide +kernel
theorem dX6_place_97 : decode cX6_place 97 = .ok (.getfield 135, 3) := by decide +kernel
theorem dX6_place_100 : decode cX6_place 100 = .ok (.iload_n 1, 1) := by decide +kernel
theorem dX6_place_101 : decode cX6_place 101 = .ok (.iaload, 1) := by decide +kernel
theorem dX6_place_102 : decode cX6_place 102 = .ok (.invokestatic 125, 3) := by decide +kernel
theorem dX6_place_105 : decode cX6_place 105 = .ok (.goto 4, 3) := by decide +kernel
theorem dX6_place_108 : decode cX6_place 108 = .ok (.iconst (-1), 1) := by decide +kernel
theorem dX6_place_109 : decode cX6_place 109 = .ok (.ireturn, 1) := by decide +kernel
theorem dX6_place_110 : decode cX6_place 110 = .ok (.aload_n 0, 1) := by decide +kernel
theorem dX6_place_111 : decode cX6_place 111 = .ok (.invokevirtual 132, 3) := by decide +kernel
theorem dX6_place_114 : decode cX6_place 114 = .ok (.ifCond .eq 18, 3) := by decide +kernel
theorem dX6_place_117 : decode cX6_place 117 = .ok (.aload_n 0, 1) := by decide +kernel
theorem dX6_place_118 : decode cX6_place 118 = .ok (.getfield 43, 3) := by decide +kernel
theorem dX6_place_121 : decode cX6_place 121 = .ok (.getfield 135, 3) := by decide +kernel
theorem dX6_place_124 : decode cX6_place 124 = .ok (.iload_n 1, 1) := by decide +kernel
theorem dX6_place_125 : decode cX6_place 125 = .ok (.iaload, 1) := by decide +kernel
theorem dX6_place_126 : decode cX6_place 126 = .ok (.invokestatic 129, 3) := by decide +kernel
theorem dX6_place_129 : decode cX6_place 129 = .ok (.goto 4, 3) := by decide +kernel
theorem dX6_place_132 : decode cX6_place 132 = .ok (.iconst (-1), 1) := by decide +kernel
theorem dX6_place_133 : decode cX6_place 133 = .ok (.ireturn, 1) := by decide +kernel
theorem dX6_place_134 : decode cX6_place 134 = .ok (.aload_n 0, 1) := by decide +kernel
theorem dX6_place_135 : decode cX6_place 135 = .ok (.iload_n 1, 1) := by decide +kernel
theorem dX6_place_136 : decode cX6_place 136 = .ok (.invokevirtual 138, 3) := by decide +kernel
theorem dX6_place_139 : decode cX6_place 139 = .ok (.invokestatic 125, 3) := by decide +kernel
theorem dX6_place_142 : decode cX6_place 142 = .ok (.ireturn, 1) := by decide +kernel
theorem dX6_place_143 : decode cX6_place 143 = .ok (.aload_n 0, 1) := by decide +kernel
theorem dX6_place_144 : decode cX6_place 144 = .ok (.iload_n 1, 1) := by decide +kernel
theorem dX6_place_145 : decode cX6_place 145 = .ok (.invokevirtual 138, 3) := by decide +kernel
theorem dX6_place_148 : decode cX6_place 148 = .ok (.invokestatic 129, 3) := by decide +kernel
theorem dX6_place_151 : decode cX6_place 151 = .ok (.ireturn, 1) := by decide +kernel
theorem dX6_place_152 : decode cX6_place 152 = .ok (.aload_n 0, 1) := by decide +kernel
theorem dX6_place_153 : decode cX6_place 153 = .ok (.getfield 10, 3) := by decide +kernel
theorem dX6_place_156 : decode cX6_place 156 = .ok (.iload_n 1, 1) := by decide +kernel
theorem dX6_place_157 : decode cX6_place 157 = .ok (.invokevirtual 141, 3) := by decide +kernel
theorem dX6_place_160 : decode cX6_place 160 = .ok (.ifCond .eq 18, 3) := by decide +kernel
theorem dX6_place_163 : decode cX6_place 163 = .ok (.aload_n 0, 1) := by decide +kernel
theorem dX6_place_164 : decode cX6_place 164 = .ok (.getfield 10, 3) := by decide +kernel
theorem dX6_place_167 : decode cX6_place 167 = .ok (.getfield 144, 3) := by decide +kernel
theorem dX6_place_170 : decode cX6_place 170 = .ok (.iload_n 1, 1) := by decide +kernel
theorem dX6_place_171 : decode cX6_place 171 = .ok (.iaload, 1) := by decide +kernel
theorem dX6_place_172 : decode cX6_place 172 = .ok (.invokestatic 125, 3) := by decide +kernel
theorem dX6_place_175 : decode cX6_place 175 = .ok (.goto 4, 3) := by decide +kernel
theorem dX6_place_178 : decode cX6_place 178 = .ok (.iconst (-1), 1) := by decide +kernel
theorem dX6_place_179 : decode cX6_place 179 = .ok (.ireturn, 1) := by decide +kernel
theorem dX6_place_180 : decode cX6_place 180 = .ok (.aload_n 0, 1) := by decide +kernel
theorem dX6_place_181 : decode cX6_place 181 = .ok (.getfield 10, 3) := by decide +kernel
theorem dX6_place_184 : decode cX6_place 184 = .ok (.iload_n 1, 1) := by decide +kernel
theorem dX6_place_185 : decode cX6_place 185 = .ok (.invokevirtual 141, 3) := by decide +kernel
theorem dX6_place_188 : decode cX6_place 188 = .ok (.ifCond .eq 18, 3) := by decide +kernel
theorem dX6_place_191 : decode cX6_place 191 = .ok (.aload_n 0, 1) := by decide +kernel
theorem dX6_place_192 : decode cX6_place 192 = .ok (.getfield 10, 3) := by decide +kernel
theorem dX6_place_195 : decode cX6_place 195 = .ok (.getfield 144, 3) := by decide +kernel
theorem dX6_place_198 : decode cX6_place 198 = .ok (.iload_n 1, 1) := by decide +kernel
theorem dX6_place_199 : decode cX6_place 199 = .ok (.iaload, 1) := by decide +kernel
theorem dX6_place_200 : decode cX6_place 200 = .ok (.invokestatic 129, 3) := by decide +kernel
theorem dX6_place_203 : decode cX6_place 203 = .ok (.goto 4, 3) := by decide +kernel
theorem dX6_place_206 : decode cX6_place 206 = .ok (.iconst (-1), 1) := by decide +kernel
theorem dX6_place_207 : decode cX6_place 207 = .ok (.ireturn, 1) := by decide +kernel
theorem dX6_place_208 : decode cX6_place 208 = .ok (.ldc 104, 2) := by decide +kernel
theorem dX6_place_210 : decode cX6_place 210 = .ok (.ireturn, 1) := by decide +kernel
theorem dX6_wayAt_0 : decode cX6_wayAt 0 = .ok (.aload_n 0, 1) := by decide +kernel
theorem dX6_wayAt_1 : decode cX6_wayAt 1 = .ok (.getfield 10, 3) := by decide +kernel
theorem dX6_wayAt_4 : decode cX6_wayAt 4 = .ok (.iload_n 1, 1) := by decide +kernel
theorem dX6_wayAt_5 : decode cX6_wayAt 5 = .ok (.invokevirtual 147, 3) := by decide +kernel
theorem dX6_wayAt_8 : decode cX6_wayAt 8 = .ok (.ifCond .ne 6, 3) := by decide +kernel
theorem dX6_wayAt_11 : decode cX6_wayAt 11 = .ok (.ldc 109, 2) := by decide +kernel
theorem dX6_wayAt_13 : decode cX6_wayAt 13 = .ok (.ireturn, 1) := by decide +kernel
theorem dX6_wayAt_14 : decode cX6_wayAt 14 = .ok (.iload_n 2, 1) := by decide +kernel
theorem dX6_wayAt_15 : decode cX6_wayAt 15 = .ok (.tableswitch 193 0 8 #[49, 59, 69, 79, 89, 99, 116, 133, 163], 49) := by decide +kernel
theorem dX6_wayAt_64 : decode cX6_wayAt 64 = .ok (.aload_n 0, 1) := by decide +kernel
theorem dX6_wayAt_65 : decode cX6_wayAt 65 = .ok (.getfield 10, 3) := by decide +kernel
theorem dX6_wayAt_68 : decode cX6_wayAt 68 = .ok (.getfield 150, 3) := by decide +kernel
theorem dX6_wayAt_71 : decode cX6_wayAt 71 = .ok (.iload_n 1, 1) := by decide +kernel
theorem dX6_wayAt_72 : decode cX6_wayAt 72 = .ok (.iaload, 1) := by decide +kernel
theorem dX6_wayAt_73 : decode cX6_wayAt 73 = .ok (.ireturn, 1) := by decide +kernel
theorem dX6_wayAt_74 : decode cX6_wayAt 74 = .ok (.aload_n 0, 1) := by decide +kernel
theorem dX6_wayAt_75 : decode cX6_wayAt 75 = .ok (.getfield 10, 3) := by decide +kernel
theorem dX6_wayAt_78 : decode cX6_wayAt 78 = .ok (.getfield 153, 3) := by decide +kernel
theorem dX6_wayAt_81 : decode cX6_wayAt 81 = .ok (.iload_n 1, 1) := by decide +kernel
theorem dX6_wayAt_82 : decode cX6_wayAt 82 = .ok (.iaload, 1) := by decide +kernel
theorem dX6_wayAt_83 : decode cX6_wayAt 83 = .ok (.ireturn, 1) := by decide +kernel
theorem dX6_wayAt_84 : decode cX6_wayAt 84 = .ok (.aload_n 0, 1) := by decide +kernel
theorem dX6_wayAt_85 : decode cX6_wayAt 85 = .ok (.getfield 10, 3) := by decide +kernel
theorem dX6_wayAt_88 : decode cX6_wayAt 88 = .ok (.getfield 156, 3) := by decide +kernel
theorem dX6_wayAt_91 : decode cX6_wayAt 91 = .ok (.iload_n 1, 1) := by decide +kernel
theorem dX6_wayAt_92 : decode cX6_wayAt 92 = .ok (.iaload, 1) := by decide +kernel
theorem dX6_wayAt_93 : decode cX6_wayAt 93 = .ok (.ireturn, 1) := by decide +kernel
theorem dX6_wayAt_94 : decode cX6_wayAt 94 = .ok (.aload_n 0, 1) := by decide +kernel
theorem dX6_wayAt_95 : decode cX6_wayAt 95 = .ok (.getfield 10, 3) := by decide +kernel
theorem dX6_wayAt_98 : decode cX6_wayAt 98 = .ok (.getfield 159, 3) := by decide +kernel
theorem dX6_wayAt_101 : decode cX6_wayAt 101 = .ok (.iload_n 1, 1) := by decide +kernel
theorem dX6_wayAt_102 : decode cX6_wayAt 102 = .ok (.iaload, 1) := by decide +kernel
theorem dX6_wayAt_103 : decode cX6_wayAt 103 = .ok (.ireturn, 1) := by decide +kernel
theorem dX6_wayAt_104 : decode cX6_wayAt 104 = .ok (.aload_n 0, 1) := by decide +kernel
theorem dX6_wayAt_105 : decode cX6_wayAt 105 = .ok (.getfield 10, 3) := by decide +kernel
theorem dX6_wayAt_108 : decode cX6_wayAt 108 = .ok (.getfield 162, 3) := by decide +kernel
theorem dX6_wayAt_111 : decode cX6_wayAt 111 = .ok (.iload_n 1, 1) := by decide +kernel
theorem dX6_wayAt_112 : decode cX6_wayAt 112 = .ok (.iaload, 1) := by decide +kernel
theorem dX6_wayAt_113 : decode cX6_wayAt 113 = .ok (.ireturn, 1) := by decide +kernel
theorem dX6_wayAt_114 : decode cX6_wayAt 114 = .ok (.aload_n 0, 1) := by decide +kernel
theorem dX6_wayAt_115 : decode cX6_wayAt 115 = .ok (.getfield 10, 3) := by decide +kernel
theorem dX6_wayAt_118 : decode cX6_wayAt 118 = .ok (.iload_n 1, 1) := by decide +kernel
theorem dX6_wayAt_119 : decode cX6_wayAt 119 = .ok (.invokevirtual 165, 3) := by decide +kernel
theorem dX6_wayAt_122 : decode cX6_wayAt 122 = .ok (.ifCond .eq 7, 3) := by decide +kernel
theorem dX6_wayAt_125 : decode cX6_wayAt 125 = .ok (.iconst 1, 1) := by decide +kernel
theorem dX6_wayAt_126 : decode cX6_wayAt 126 = .ok (.goto 4, 3) := by decide +kernel
theorem dX6_wayAt_129 : decode cX6_wayAt 129 = .ok (.iconst 0, 1) := by decide +kernel
theorem dX6_wayAt_130 : decode cX6_wayAt 130 = .ok (.ireturn, 1) := by decide +kernel
theorem dX6_wayAt_131 : decode cX6_wayAt 131 = .ok (.aload_n 0, 1) := by decide +kernel
theorem dX6_wayAt_132 : decode cX6_wayAt 132 = .ok (.invokevirtual 132, 3) := by decide +kernel
theorem dX6_wayAt_135 : decode cX6_wayAt 135 = .ok (.ifCond .eq 11, 3) := by decide +kernel
theorem dX6_wayAt_138 : decode cX6_wayAt 138 = .ok (.aload_n 0, 1) := by decide +kernel
theorem dX6_wayAt_139 : decode cX6_wayAt 139 = .ok (.iload_n 1, 1) := by decide +kernel
theorem dX6_wayAt_140 : decode cX6_wayAt 140 = .ok (.invokevirtual 168, 3) := by decide +kernel
theorem dX6_wayAt_143 : decode cX6_wayAt 143 = .ok (.goto 4, 3) := by decide +kernel
theorem dX6_wayAt_146 : decode cX6_wayAt 146 = .ok (.iconst (-1), 1) := by decide +kernel
theorem dX6_wayAt_147 : decode cX6_wayAt 147 = .ok (.ireturn, 1) := by decide +kernel
theorem dX6_wayAt_148 : decode cX6_wayAt 148 = .ok (.aload_n 0, 1) := by decide +kernel
theorem dX6_wayAt_149 : decode cX6_wayAt 149 = .ok (.invokevirtual 132, 3) := by decide +kernel
theorem dX6_wayAt_152 : decode cX6_wayAt 152 = .ok (.ifCond .eq 24, 3) := by decide +kernel
theorem dX6_wayAt_155 : decode cX6_wayAt 155 = .ok (.aload_n 0, 1) := by decide +kernel
theorem dX6_wayAt_156 : decode cX6_wayAt 156 = .ok (.getfield 10, 3) := by decide +kernel
theorem dX6_wayAt_159 : decode cX6_wayAt 159 = .ok (.iload_n 1, 1) := by decide +kernel
theorem dX6_wayAt_160 : decode cX6_wayAt 160 = .ok (.aload_n 0, 1) := by decide +kernel
theorem dX6_wayAt_161 : decode cX6_wayAt 161 = .ok (.getfield 43, 3) := by decide +kernel
theorem dX6_wayAt_164 : decode cX6_wayAt 164 = .ok (.getfield 135, 3) := by decide +kernel
theorem dX6_wayAt_167 : decode cX6_wayAt 167 = .ok (.invokevirtual 171, 3) := by decide +kernel
theorem dX6_wayAt_170 : decode cX6_wayAt 170 = .ok (.invokestatic 125, 3) := by decide +kernel
theorem dX6_wayAt_173 : decode cX6_wayAt 173 = .ok (.goto 4, 3) := by decide +kernel
theorem dX6_wayAt_176 : decode cX6_wayAt 176 = .ok (.iconst (-1), 1) := by decide +kernel
theorem dX6_wayAt_177 : decode cX6_wayAt 177 = .ok (.ireturn, 1) := by decide +kernel
theorem dX6_wayAt_178 : decode cX6_wayAt 178 = .ok (.aload_n 0, 1) := by decide +kernel
theorem dX6_wayAt_179 : decode cX6_wayAt 179 = .ok (.invokevirtual 132, 3) := by decide +kernel
theorem dX6_wayAt_182 : decode cX6_wayAt 182 = .ok (.ifCond .eq 24, 3) := by decide +kernel
theorem dX6_wayAt_185 : decode cX6_wayAt 185 = .ok (.aload_n 0, 1) := by decide +kernel
theorem dX6_wayAt_186 : decode cX6_wayAt 186 = .ok (.getfield 10, 3) := by decide +kernel
theorem dX6_wayAt_189 : decode cX6_wayAt 189 = .ok (.iload_n 1, 1) := by decide +kernel
theorem dX6_wayAt_190 : decode cX6_wayAt 190 = .ok (.aload_n 0, 1) := by decide +kernel
theorem dX6_wayAt_191 : decode cX6_wayAt 191 = .ok (.getfield 43, 3) := by decide +kernel
theorem dX6_wayAt_194 : decode cX6_wayAt 194 = .ok (.getfield 135, 3) := by decide +kernel
theorem dX6_wayAt_197 : decode cX6_wayAt 197 = .ok (.invokevirtual 171, 3) := by decide +kernel
theorem dX6_wayAt_200 : decode cX6_wayAt 200 = .ok (.invokestatic 129, 3) := by decide +kernel
theorem dX6_wayAt_203 : decode cX6_wayAt 203 = .ok (.goto 4, 3) := by decide +kernel
theorem dX6_wayAt_206 : decode cX6_wayAt 206 = .ok (.iconst (-1), 1) := by decide +kernel
theorem dX6_wayAt_207 : decode cX6_wayAt 207 = .ok (.ireturn, 1) := by decide +kernel
theorem dX6_wayAt_208 : decode cX6_wayAt 208 = .ok (.ldc 104, 2) := by decide +kernel
theorem dX6_wayAt_210 : decode cX6_wayAt 210 = .ok (.ireturn, 1) := by decide +kernel
theorem dX6_mapped_0 : decode cX6_mapped 0 = .ok (.aload_n 0, 1) := by decide +kernel
theorem dX6_mapped_1 : decode cX6_mapped 1 = .ok (.getfield 10, 3) := by decide +kernel
theorem dX6_mapped_4 : decode cX6_mapped 4 = .ok (.iload_n 1, 1) := by decide +kernel
theorem dX6_mapped_5 : decode cX6_mapped 5 = .ok (.invokevirtual 147, 3) := by decide +kernel
theorem dX6_mapped_8 : decode cX6_mapped 8 = .ok (.ifCond .eq 14, 3) := by decide +kernel
theorem dX6_mapped_11 : decode cX6_mapped 11 = .ok (.aload_n 0, 1) := by decide +kernel
theorem dX6_mapped_12 : decode cX6_mapped 12 = .ok (.getfield 10, 3) := by decide +kernel
theorem dX6_mapped_15 : decode cX6_mapped 15 = .ok (.iload_n 2, 1) := by decide +kernel
theorem dX6_mapped_16 : decode cX6_mapped 16 = .ok (.invokevirtual 105, 3) := by decide +kernel
theorem dX6_mapped_19 : decode cX6_mapped 19 = .ok (.ifCond .ne 6, 3) := by decide +kernel
theorem dX6_mapped_22 : decode cX6_mapped 22 = .ok (.ldc 109, 2) := by decide +kernel
theorem dX6_mapped_24 : decode cX6_mapped 24 = .ok (.ireturn, 1) := by decide +kernel
theorem dX6_mapped_25 : decode cX6_mapped 25 = .ok (.aload_n 0, 1) := by decide +kernel
theorem dX6_mapped_26 : decode cX6_mapped 26 = .ok (.getfield 10, 3) := by decide +kernel
theorem dX6_mapped_29 : decode cX6_mapped 29 = .ok (.getfield 175, 3) := by decide +kernel
theorem dX6_mapped_32 : decode cX6_mapped 32 = .ok (.iload_n 1, 1) := by decide +kernel
theorem dX6_mapped_33 : decode cX6_mapped 33 = .ok (.bipush 8, 2) := by decide +kernel
theorem dX6_mapped_35 : decode cX6_mapped 35 = .ok (.imul, 1) := by decide +kernel
theorem dX6_mapped_36 : decode cX6_mapped 36 = .ok (.iload_n 2, 1) := by decide +kernel
theorem dX6_mapped_37 : decode cX6_mapped 37 = .ok (.iadd, 1) := by decide +kernel
theorem dX6_mapped_38 : decode cX6_mapped 38 = .ok (.iaload, 1) := by decide +kernel
theorem dX6_mapped_39 : decode cX6_mapped 39 = .ok (.ireturn, 1) := by decide +kernel
theorem dX6_steps_0 : decode cX6_steps 0 = .ok (.iload_n 1, 1) := by decide +kernel
theorem dX6_steps_1 : decode cX6_steps 1 = .ok (.invokestatic 178, 3) := by decide +kernel
theorem dX6_steps_4 : decode cX6_steps 4 = .ok (.ifCond .ne 6, 3) := by decide +kernel
theorem dX6_steps_7 : decode cX6_steps 7 = .ok (.ldc 104, 2) := by decide +kernel
theorem dX6_steps_9 : decode cX6_steps 9 = .ok (.ireturn, 1) := by decide +kernel
theorem dX6_steps_10 : decode cX6_steps 10 = .ok (.aload_n 0, 1) := by decide +kernel
theorem dX6_steps_11 : decode cX6_steps 11 = .ok (.getfield 47, 3) := by decide +kernel
theorem dX6_steps_14 : decode cX6_steps 14 = .ok (.aload_n 0, 1) := by decide +kernel
theorem dX6_steps_15 : decode cX6_steps 15 = .ok (.getfield 10, 3) := by decide +kernel
theorem dX6_steps_18 : decode cX6_steps 18 = .ok (.iload_n 1, 1) := by decide +kernel
theorem dX6_steps_19 : decode cX6_steps 19 = .ok (.iconst (-1), 1) := by decide +kernel
theorem dX6_steps_20 : decode cX6_steps 20 = .ok (.invokevirtual 181, 3) := by decide +kernel
theorem dX6_steps_23 : decode cX6_steps 23 = .ok (.ireturn, 1) := by decide +kernel
theorem dX6_worked_0 : decode cX6_worked 0 = .ok (.aload_n 0, 1) := by decide +kernel
theorem dX6_worked_1 : decode cX6_worked 1 = .ok (.getfield 10, 3) := by decide +kernel
theorem dX6_worked_4 : decode cX6_worked 4 = .ok (.iload_n 2, 1) := by decide +kernel
theorem dX6_worked_5 : decode cX6_worked 5 = .ok (.invokevirtual 118, 3) := by decide +kernel
theorem dX6_worked_8 : decode cX6_worked 8 = .ok (.ifCond .ne 6, 3) := by decide +kernel
theorem dX6_worked_11 : decode cX6_worked 11 = .ok (.ldc 109, 2) := by decide +kernel
theorem dX6_worked_13 : decode cX6_worked 13 = .ok (.ireturn, 1) := by decide +kernel
theorem dX6_worked_14 : decode cX6_worked 14 = .ok (.iload_n 1, 1) := by decide +kernel
theorem dX6_worked_15 : decode cX6_worked 15 = .ok (.invokestatic 178, 3) := by decide +kernel
theorem dX6_worked_18 : decode cX6_worked 18 = .ok (.ifCond .ne 6, 3) := by decide +kernel
theorem dX6_worked_21 : decode cX6_worked 21 = .ok (.ldc 104, 2) := by decide +kernel
theorem dX6_worked_23 : decode cX6_worked 23 = .ok (.ireturn, 1) := by decide +kernel
theorem dX6_worked_24 : decode cX6_worked 24 = .ok (.aload_n 0, 1) := by decide +kernel
theorem dX6_worked_25 : decode cX6_worked 25 = .ok (.getfield 47, 3) := by decide +kernel
theorem dX6_worked_28 : decode cX6_worked 28 = .ok (.aload_n 0, 1) := by decide +kernel
theorem dX6_worked_29 : decode cX6_worked 29 = .ok (.getfield 10, 3) := by decide +kernel
theorem dX6_worked_32 : decode cX6_worked 32 = .ok (.iload_n 1, 1) := by decide +kernel
theorem dX6_worked_33 : decode cX6_worked 33 = .ok (.iconst (-1), 1) := by decide +kernel
theorem dX6_worked_34 : decode cX6_worked 34 = .ok (.invokevirtual 181, 3) := by decide +kernel
theorem dX6_worked_37 : decode cX6_worked 37 = .ok (.iconst (-1), 1) := by decide +kernel
theorem dX6_worked_38 : decode cX6_worked 38 = .ok (.if_icmp .ne 7, 3) := by decide +kernel
theorem dX6_worked_41 : decode cX6_worked 41 = .ok (.iconst (-1), 1) := by decide +kernel
theorem dX6_worked_42 : decode cX6_worked 42 = .ok (.goto 12, 3) := by decide +kernel
theorem dX6_worked_45 : decode cX6_worked 45 = .ok (.aload_n 0, 1) := by decide +kernel
theorem dX6_worked_46 : decode cX6_worked 46 = .ok (.getfield 47, 3) := by decide +kernel
theorem dX6_worked_49 : decode cX6_worked 49 = .ok (.getfield 135, 3) := by decide +kernel
theorem dX6_worked_52 : decode cX6_worked 52 = .ok (.iload_n 2, 1) := by decide +kernel
theorem dX6_worked_53 : decode cX6_worked 53 = .ok (.iaload, 1) := by decide +kernel
theorem dX6_worked_54 : decode cX6_worked 54 = .ok (.ireturn, 1) := by decide +kernel
theorem dX6_build_0 : decode cX6_build 0 = .ok (.iload_n 1, 1) := by decide +kernel
theorem dX6_build_1 : decode cX6_build 1 = .ok (.ifCond .lt 29, 3) := by decide +kernel
theorem dX6_build_4 : decode cX6_build 4 = .ok (.iload_n 1, 1) := by decide +kernel
theorem dX6_build_5 : decode cX6_build 5 = .ok (.iconst 2, 1) := by decide +kernel
theorem dX6_build_6 : decode cX6_build 6 = .ok (.if_icmp .gt 24, 3) := by decide +kernel
theorem dX6_build_9 : decode cX6_build 9 = .ok (.iload_n 2, 1) := by decide +kernel
theorem dX6_build_10 : decode cX6_build 10 = .ok (.iconst 1, 1) := by decide +kernel
theorem dX6_build_11 : decode cX6_build 11 = .ok (.if_icmp .lt 19, 3) := by decide +kernel
theorem dX6_build_14 : decode cX6_build 14 = .ok (.iload_n 2, 1) := by decide +kernel
theorem dX6_build_15 : decode cX6_build 15 = .ok (.bipush 8, 2) := by decide +kernel
theorem dX6_build_17 : decode cX6_build 17 = .ok (.if_icmp .gt 13, 3) := by decide +kernel
theorem dX6_build_20 : decode cX6_build 20 = .ok (.iload_n 3, 1) := by decide +kernel
theorem dX6_build_21 : decode cX6_build 21 = .ok (.ifCond .lt 9, 3) := by decide +kernel
theorem dX6_build_24 : decode cX6_build 24 = .ok (.iload_n 3, 1) := by decide +kernel
theorem dX6_build_25 : decode cX6_build 25 = .ok (.bipush 10, 2) := by decide +kernel
theorem dX6_build_27 : decode cX6_build 27 = .ok (.if_icmp .le 6, 3) := by decide +kernel
theorem dX6_build_30 : decode cX6_build 30 = .ok (.ldc 104, 2) := by decide +kernel
theorem dX6_build_32 : decode cX6_build 32 = .ok (.ireturn, 1) := by decide +kernel
theorem dX6_build_33 : decode cX6_build 33 = .ok (.aload_n 0, 1) := by decide +kernel
theorem dX6_build_34 : decode cX6_build 34 = .ok (.getfield 19, 3) := by decide +kernel
theorem dX6_build_37 : decode cX6_build 37 = .ok (.aload_n 0, 1) := by decide +kernel
theorem dX6_build_38 : decode cX6_build 38 = .ok (.getfield 10, 3) := by decide +kernel
theorem dX6_build_41 : decode cX6_build 41 = .ok (.invokevirtual 185, 3) := by decide +kernel
theorem dX6_build_44 : decode cX6_build 44 = .ok (.aload_n 0, 1) := by decide +kernel
theorem dX6_build_45 : decode cX6_build 45 = .ok (.getfield 10, 3) := by decide +kernel
theorem dX6_build_48 : decode cX6_build 48 = .ok (.getfield 68, 3) := by decide +kernel
theorem dX6_build_51 : decode cX6_build 51 = .ok (.istore 4, 2) := by decide +kernel
theorem dX6_build_53 : decode cX6_build 53 = .ok (.aload_n 0, 1) := by decide +kernel
theorem dX6_build_54 : decode cX6_build 54 = .ok (.getfield 10, 3) := by decide +kernel
theorem dX6_build_57 : decode cX6_build 57 = .ok (.iload_n 1, 1) := by decide +kernel
theorem dX6_build_58 : decode cX6_build 58 = .ok (.iload_n 2, 1) := by decide +kernel
theorem dX6_build_59 : decode cX6_build 59 = .ok (.iload_n 3, 1) := by decide +kernel
theorem dX6_build_60 : decode cX6_build 60 = .ok (.invokevirtual 57, 3) := by decide +kernel
theorem dX6_build_63 : decode cX6_build 63 = .ok (.iload 4, 2) := by decide +kernel
theorem dX6_build_65 : decode cX6_build 65 = .ok (.ireturn, 1) := by decide +kernel
theorem dX6_cell_0 : decode cX6_cell 0 = .ok (.aload_n 0, 1) := by decide +kernel
theorem dX6_cell_1 : decode cX6_cell 1 = .ok (.getfield 10, 3) := by decide +kernel
theorem dX6_cell_4 : decode cX6_cell 4 = .ok (.iload_n 1, 1) := by decide +kernel
theorem dX6_cell_5 : decode cX6_cell 5 = .ok (.invokevirtual 105, 3) := by decide +kernel
theorem dX6_cell_8 : decode cX6_cell 8 = .ok (.ifCond .eq 25, 3) := by decide +kernel
theorem dX6_cell_11 : decode cX6_cell 11 = .ok (.aload_n 0, 1) := by decide +kernel
theorem dX6_cell_12 : decode cX6_cell 12 = .ok (.getfield 10, 3) := by decide +kernel
theorem dX6_cell_15 : decode cX6_cell 15 = .ok (.iload_n 2, 1) := by decide +kernel
theorem dX6_cell_16 : decode cX6_cell 16 = .ok (.invokevirtual 105, 3) := by decide +kernel
theorem dX6_cell_19 : decode cX6_cell 19 = .ok (.ifCond .eq 14, 3) := by decide +kernel
theorem dX6_cell_22 : decode cX6_cell 22 = .ok (.aload_n 0, 1) := by decide +kernel
theorem dX6_cell_23 : decode cX6_cell 23 = .ok (.getfield 10, 3) := by decide +kernel
theorem dX6_cell_26 : decode cX6_cell 26 = .ok (.iload_n 3, 1) := by decide +kernel
theorem dX6_cell_27 : decode cX6_cell 27 = .ok (.invokevirtual 105, 3) := by decide +kernel
theorem dX6_cell_30 : decode cX6_cell 30 = .ok (.ifCond .ne 6, 3) := by decide +kernel
theorem dX6_cell_33 : decode cX6_cell 33 = .ok (.ldc 109, 2) := by decide +kernel
theorem dX6_cell_35 : decode cX6_cell 35 = .ok (.ireturn, 1) := by decide +kernel
theorem dX6_cell_36 : decode cX6_cell 36 = .ok (.aload_n 0, 1) := by decide +kernel
theorem dX6_cell_37 : decode cX6_cell 37 = .ok (.getfield 19, 3) := by decide +kernel
theorem dX6_cell_40 : decode cX6_cell 40 = .ok (.aload_n 0, 1) := by decide +kernel
theorem dX6_cell_41 : decode cX6_cell 41 = .ok (.getfield 10, 3) := by decide +kernel
theorem dX6_cell_44 : decode cX6_cell 44 = .ok (.invokevirtual 185, 3) := by decide +kernel
theorem dX6_cell_47 : decode cX6_cell 47 = .ok (.aload_n 0, 1) := by decide +kernel
theorem dX6_cell_48 : decode cX6_cell 48 = .ok (.getfield 10, 3) := by decide +kernel
theorem dX6_cell_51 : decode cX6_cell 51 = .ok (.getfield 189, 3) := by decide +kernel
theorem dX6_cell_54 : decode cX6_cell 54 = .ok (.iload_n 1, 1) := by decide +kernel
theorem dX6_cell_55 : decode cX6_cell 55 = .ok (.bipush 8, 2) := by decide +kernel
theorem dX6_cell_57 : decode cX6_cell 57 = .ok (.imul, 1) := by decide +kernel
theorem dX6_cell_58 : decode cX6_cell 58 = .ok (.iload_n 2, 1) := by decide +kernel
theorem dX6_cell_59 : decode cX6_cell 59 = .ok (.iadd, 1) := by decide +kernel
theorem dX6_cell_60 : decode cX6_cell 60 = .ok (.iload_n 3, 1) := by decide +kernel
theorem dX6_cell_61 : decode cX6_cell 61 = .ok (.iastore, 1) := by decide +kernel
theorem dX6_cell_62 : decode cX6_cell 62 = .ok (.aload_n 0, 1) := by decide +kernel
theorem dX6_cell_63 : decode cX6_cell 63 = .ok (.getfield 10, 3) := by decide +kernel
theorem dX6_cell_66 : decode cX6_cell 66 = .ok (.invokevirtual 71, 3) := by decide +kernel
theorem dX6_cell_69 : decode cX6_cell 69 = .ok (.ireturn, 1) := by decide +kernel
theorem dX6_start_0 : decode cX6_start 0 = .ok (.aload_n 0, 1) := by decide +kernel
theorem dX6_start_1 : decode cX6_start 1 = .ok (.getfield 10, 3) := by decide +kernel
theorem dX6_start_4 : decode cX6_start 4 = .ok (.iload_n 1, 1) := by decide +kernel
theorem dX6_start_5 : decode cX6_start 5 = .ok (.invokevirtual 118, 3) := by decide +kernel
theorem dX6_start_8 : decode cX6_start 8 = .ok (.ifCond .eq 14, 3) := by decide +kernel
theorem dX6_start_11 : decode cX6_start 11 = .ok (.aload_n 0, 1) := by decide +kernel
theorem dX6_start_12 : decode cX6_start 12 = .ok (.getfield 10, 3) := by decide +kernel
theorem dX6_start_15 : decode cX6_start 15 = .ok (.iload_n 2, 1) := by decide +kernel
theorem dX6_start_16 : decode cX6_start 16 = .ok (.invokevirtual 105, 3) := by decide +kernel
theorem dX6_start_19 : decode cX6_start 19 = .ok (.ifCond .ne 6, 3) := by decide +kernel
theorem dX6_start_22 : decode cX6_start 22 = .ok (.ldc 109, 2) := by decide +kernel
theorem dX6_start_24 : decode cX6_start 24 = .ok (.ireturn, 1) := by decide +kernel
theorem dX6_start_25 : decode cX6_start 25 = .ok (.iload_n 3, 1) := by decide +kernel
theorem dX6_start_26 : decode cX6_start 26 = .ok (.invokestatic 192, 3) := by decide +kernel
theorem dX6_start_29 : decode cX6_start 29 = .ok (.ifCond .ne 6, 3) := by decide +kernel
theorem dX6_start_32 : decode cX6_start 32 = .ok (.ldc 104, 2) := by decide +kernel
theorem dX6_start_34 : decode cX6_start 34 = .ok (.ireturn, 1) := by decide +kernel
theorem dX6_start_35 : decode cX6_start 35 = .ok (.aload_n 0, 1) := by decide +kernel
theorem dX6_start_36 : decode cX6_start 36 = .ok (.getfield 19, 3) := by decide +kernel
theorem dX6_start_39 : decode cX6_start 39 = .ok (.aload_n 0, 1) := by decide +kernel
theorem dX6_start_40 : decode cX6_start 40 = .ok (.getfield 10, 3) := by decide +kernel
theorem dX6_start_43 : decode cX6_start 43 = .ok (.invokevirtual 185, 3) := by decide +kernel
theorem dX6_start_46 : decode cX6_start 46 = .ok (.aload_n 0, 1) := by decide +kernel
theorem dX6_start_47 : decode cX6_start 47 = .ok (.getfield 10, 3) := by decide +kernel
theorem dX6_start_50 : decode cX6_start 50 = .ok (.getfield 121, 3) := by decide +kernel
theorem dX6_start_53 : decode cX6_start 53 = .ok (.iload_n 1, 1) := by decide +kernel
theorem dX6_start_54 : decode cX6_start 54 = .ok (.iload_n 2, 1) := by decide +kernel
theorem dX6_start_55 : decode cX6_start 55 = .ok (.sipush 256, 3) := by decide +kernel
theorem dX6_start_58 : decode cX6_start 58 = .ok (.imul, 1) := by decide +kernel
theorem dX6_start_59 : decode cX6_start 59 = .ok (.iload_n 3, 1) := by decide +kernel
theorem dX6_start_60 : decode cX6_start 60 = .ok (.iadd, 1) := by decide +kernel
theorem dX6_start_61 : decode cX6_start 61 = .ok (.iastore, 1) := by decide +kernel
theorem dX6_start_62 : decode cX6_start 62 = .ok (.iconst 1, 1) := by decide +kernel
theorem dX6_start_63 : decode cX6_start 63 = .ok (.ireturn, 1) := by decide +kernel
theorem dX6_way_0 : decode cX6_way 0 = .ok (.aload_n 0, 1) := by decide +kernel
theorem dX6_way_1 : decode cX6_way 1 = .ok (.getfield 10, 3) := by decide +kernel
theorem dX6_way_4 : decode cX6_way 4 = .ok (.iload_n 1, 1) := by decide +kernel
theorem dX6_way_5 : decode cX6_way 5 = .ok (.invokevirtual 118, 3) := by decide +kernel
theorem dX6_way_8 : decode cX6_way 8 = .ok (.ifCond .eq 14, 3) := by decide +kernel
theorem dX6_way_11 : decode cX6_way 11 = .ok (.aload_n 0, 1) := by decide +kernel
theorem dX6_way_12 : decode cX6_way 12 = .ok (.getfield 10, 3) := by decide +kernel
theorem dX6_way_15 : decode cX6_way 15 = .ok (.iload_n 2, 1) := by decide +kernel
theorem dX6_way_16 : decode cX6_way 16 = .ok (.invokevirtual 118, 3) := by decide +kernel
theorem dX6_way_19 : decode cX6_way 19 = .ok (.ifCond .ne 6, 3) := by decide +kernel
theorem dX6_way_22 : decode cX6_way 22 = .ok (.ldc 109, 2) := by decide +kernel
theorem dX6_way_24 : decode cX6_way 24 = .ok (.ireturn, 1) := by decide +kernel
theorem dX6_way_25 : decode cX6_way 25 = .ok (.aload_n 0, 1) := by decide +kernel
theorem dX6_way_26 : decode cX6_way 26 = .ok (.getfield 10, 3) := by decide +kernel
theorem dX6_way_29 : decode cX6_way 29 = .ok (.getfield 68, 3) := by decide +kernel
theorem dX6_way_32 : decode cX6_way 32 = .ok (.bipush 20, 2) := by decide +kernel
theorem dX6_way_34 : decode cX6_way 34 = .ok (.if_icmp .lt 6, 3) := by decide +kernel
theorem dX6_way_37 : decode cX6_way 37 = .ok (.ldc 195, 2) := by decide +kernel
theorem dX6_way_39 : decode cX6_way 39 = .ok (.ireturn, 1) := by decide +kernel
theorem dX6_way_40 : decode cX6_way 40 = .ok (.aload_n 0, 1) := by decide +kernel
theorem dX6_way_41 : decode cX6_way 41 = .ok (.getfield 19, 3) := by decide +kernel
theorem dX6_way_44 : decode cX6_way 44 = .ok (.aload_n 0, 1) := by decide +kernel
theorem dX6_way_45 : decode cX6_way 45 = .ok (.getfield 10, 3) := by decide +kernel
theorem dX6_way_48 : decode cX6_way 48 = .ok (.invokevirtual 185, 3) := by decide +kernel
theorem dX6_way_51 : decode cX6_way 51 = .ok (.aload_n 0, 1) := by decide +kernel
theorem dX6_way_52 : decode cX6_way 52 = .ok (.getfield 10, 3) := by decide +kernel
theorem dX6_way_55 : decode cX6_way 55 = .ok (.iload_n 1, 1) := by decide +kernel
theorem dX6_way_56 : decode cX6_way 56 = .ok (.iload_n 2, 1) := by decide +kernel
theorem dX6_way_57 : decode cX6_way 57 = .ok (.invokevirtual 196, 3) := by decide +kernel
theorem dX6_way_60 : decode cX6_way 60 = .ok (.ireturn, 1) := by decide +kernel
theorem dX6_drop_0 : decode cX6_drop 0 = .ok (.aload_n 0, 1) := by decide +kernel
theorem dX6_drop_1 : decode cX6_drop 1 = .ok (.getfield 10, 3) := by decide +kernel
theorem dX6_drop_4 : decode cX6_drop 4 = .ok (.iload_n 1, 1) := by decide +kernel
theorem dX6_drop_5 : decode cX6_drop 5 = .ok (.invokevirtual 147, 3) := by decide +kernel
theorem dX6_drop_8 : decode cX6_drop 8 = .ok (.ifCond .ne 6, 3) := by decide +kernel
theorem dX6_drop_11 : decode cX6_drop 11 = .ok (.ldc 109, 2) := by decide +kernel
theorem dX6_drop_13 : decode cX6_drop 13 = .ok (.ireturn, 1) := by decide +kernel
theorem dX6_drop_14 : decode cX6_drop 14 = .ok (.aload_n 0, 1) := by decide +kernel
theorem dX6_drop_15 : decode cX6_drop 15 = .ok (.getfield 19, 3) := by decide +kernel
theorem dX6_drop_18 : decode cX6_drop 18 = .ok (.aload_n 0, 1) := by decide +kernel
theorem dX6_drop_19 : decode cX6_drop 19 = .ok (.getfield 10, 3) := by decide +kernel
theorem dX6_drop_22 : decode cX6_drop 22 = .ok (.invokevirtual 185, 3) := by decide +kernel
theorem dX6_drop_25 : decode cX6_drop 25 = .ok (.aload_n 0, 1) := by decide +kernel
theorem dX6_drop_26 : decode cX6_drop 26 = .ok (.getfield 10, 3) := by decide +kernel
theorem dX6_drop_29 : decode cX6_drop 29 = .ok (.iload_n 1, 1) := by decide +kernel
theorem dX6_drop_30 : decode cX6_drop 30 = .ok (.invokevirtual 199, 3) := by decide +kernel
theorem dX6_drop_33 : decode cX6_drop 33 = .ok (.aload_n 0, 1) := by decide +kernel
theorem dX6_drop_34 : decode cX6_drop 34 = .ok (.getfield 10, 3) := by decide +kernel
theorem dX6_drop_37 : decode cX6_drop 37 = .ok (.getfield 68, 3) := by decide +kernel
theorem dX6_drop_40 : decode cX6_drop 40 = .ok (.ireturn, 1) := by decide +kernel
theorem dX6_map_0 : decode cX6_map 0 = .ok (.aload_n 0, 1) := by decide +kernel
theorem dX6_map_1 : decode cX6_map 1 = .ok (.getfield 10, 3) := by decide +kernel
theorem dX6_map_4 : decode cX6_map 4 = .ok (.iload_n 1, 1) := by decide +kernel
theorem dX6_map_5 : decode cX6_map 5 = .ok (.invokevirtual 147, 3) := by decide +kernel
theorem dX6_map_8 : decode cX6_map 8 = .ok (.ifCond .eq 25, 3) := by decide +kernel
theorem dX6_map_11 : decode cX6_map 11 = .ok (.aload_n 0, 1) := by decide +kernel
theorem dX6_map_12 : decode cX6_map 12 = .ok (.getfield 10, 3) := by decide +kernel
theorem dX6_map_15 : decode cX6_map 15 = .ok (.iload_n 2, 1) := by decide +kernel
theorem dX6_map_16 : decode cX6_map 16 = .ok (.invokevirtual 105, 3) := by decide +kernel
theorem dX6_map_19 : decode cX6_map 19 = .ok (.ifCond .eq 14, 3) := by decide +kernel
theorem dX6_map_22 : decode cX6_map 22 = .ok (.aload_n 0, 1) := by decide +kernel
theorem dX6_map_23 : decode cX6_map 23 = .ok (.getfield 10, 3) := by decide +kernel
theorem dX6_map_26 : decode cX6_map 26 = .ok (.iload_n 3, 1) := by decide +kernel
theorem dX6_map_27 : decode cX6_map 27 = .ok (.invokevirtual 105, 3) := by decide +kernel
theorem dX6_map_30 : decode cX6_map 30 = .ok (.ifCond .ne 6, 3) := by decide +kernel
theorem dX6_map_33 : decode cX6_map 33 = .ok (.ldc 109, 2) := by decide +kernel
theorem dX6_map_35 : decode cX6_map 35 = .ok (.ireturn, 1) := by decide +kernel
theorem dX6_map_36 : decode cX6_map 36 = .ok (.aload_n 0, 1) := by decide +kernel
theorem dX6_map_37 : decode cX6_map 37 = .ok (.getfield 19, 3) := by decide +kernel
theorem dX6_map_40 : decode cX6_map 40 = .ok (.aload_n 0, 1) := by decide +kernel
theorem dX6_map_41 : decode cX6_map 41 = .ok (.getfield 10, 3) := by decide +kernel
theorem dX6_map_44 : decode cX6_map 44 = .ok (.invokevirtual 185, 3) := by decide +kernel
theorem dX6_map_47 : decode cX6_map 47 = .ok (.iload_n 1, 1) := by decide +kernel
theorem dX6_map_48 : decode cX6_map 48 = .ok (.bipush 8, 2) := by decide +kernel
theorem dX6_map_50 : decode cX6_map 50 = .ok (.imul, 1) := by decide +kernel
theorem dX6_map_51 : decode cX6_map 51 = .ok (.iload_n 2, 1) := by decide +kernel
theorem dX6_map_52 : decode cX6_map 52 = .ok (.iadd, 1) := by decide +kernel
theorem dX6_map_53 : decode cX6_map 53 = .ok (.istore 4, 2) := by decide +kernel
theorem dX6_map_55 : decode cX6_map 55 = .ok (.aload_n 0, 1) := by decide +kernel
theorem dX6_map_56 : decode cX6_map 56 = .ok (.getfield 10, 3) := by decide +kernel
theorem dX6_map_59 : decode cX6_map 59 = .ok (.getfield 175, 3) := by decide +kernel
theorem dX6_map_62 : decode cX6_map 62 = .ok (.iload 4, 2) := by decide +kernel
theorem dX6_map_64 : decode cX6_map 64 = .ok (.iaload, 1) := by decide +kernel
theorem dX6_map_65 : decode cX6_map 65 = .ok (.istore 5, 2) := by decide +kernel
theorem dX6_map_67 : decode cX6_map 67 = .ok (.aload_n 0, 1) := by decide +kernel
theorem dX6_map_68 : decode cX6_map 68 = .ok (.getfield 10, 3) := by decide +kernel
theorem dX6_map_71 : decode cX6_map 71 = .ok (.getfield 175, 3) := by decide +kernel
theorem dX6_map_74 : decode cX6_map 74 = .ok (.iload 4, 2) := by decide +kernel
theorem dX6_map_76 : decode cX6_map 76 = .ok (.iload_n 3, 1) := by decide +kernel
theorem dX6_map_77 : decode cX6_map 77 = .ok (.iastore, 1) := by decide +kernel
theorem dX6_map_78 : decode cX6_map 78 = .ok (.iload 5, 2) := by decide +kernel
theorem dX6_map_80 : decode cX6_map 80 = .ok (.ireturn, 1) := by decide +kernel
theorem dX6_marks_0 : decode cX6_marks 0 = .ok (.aload_n 0, 1) := by decide +kernel
theorem dX6_marks_1 : decode cX6_marks 1 = .ok (.getfield 10, 3) := by decide +kernel
theorem dX6_marks_4 : decode cX6_marks 4 = .ok (.iload_n 1, 1) := by decide +kernel
theorem dX6_marks_5 : decode cX6_marks 5 = .ok (.invokevirtual 147, 3) := by decide +kernel
theorem dX6_marks_8 : decode cX6_marks 8 = .ok (.ifCond .ne 6, 3) := by decide +kernel
theorem dX6_marks_11 : decode cX6_marks 11 = .ok (.ldc 109, 2) := by decide +kernel
theorem dX6_marks_13 : decode cX6_marks 13 = .ok (.ireturn, 1) := by decide +kernel
theorem dX6_marks_14 : decode cX6_marks 14 = .ok (.iload_n 2, 1) := by decide +kernel
theorem dX6_marks_15 : decode cX6_marks 15 = .ok (.invokestatic 192, 3) := by decide +kernel
theorem dX6_marks_18 : decode cX6_marks 18 = .ok (.ifCond .eq 10, 3) := by decide +kernel
theorem dX6_marks_21 : decode cX6_marks 21 = .ok (.iload_n 3, 1) := by decide +kernel
theorem dX6_marks_22 : decode cX6_marks 22 = .ok (.invokestatic 192, 3) := by decide +kernel
theorem dX6_marks_25 : decode cX6_marks 25 = .ok (.ifCond .ne 6, 3) := by decide +kernel
theorem dX6_marks_28 : decode cX6_marks 28 = .ok (.ldc 104, 2) := by decide +kernel
theorem dX6_marks_30 : decode cX6_marks 30 = .ok (.ireturn, 1) := by decide +kernel
theorem dX6_marks_31 : decode cX6_marks 31 = .ok (.aload_n 0, 1) := by decide +kernel
theorem dX6_marks_32 : decode cX6_marks 32 = .ok (.getfield 19, 3) := by decide +kernel
theorem dX6_marks_35 : decode cX6_marks 35 = .ok (.aload_n 0, 1) := by decide +kernel
theorem dX6_marks_36 : decode cX6_marks 36 = .ok (.getfield 10, 3) := by decide +kernel
theorem dX6_marks_39 : decode cX6_marks 39 = .ok (.invokevirtual 185, 3) := by decide +kernel
theorem dX6_marks_42 : decode cX6_marks 42 = .ok (.aload_n 0, 1) := by decide +kernel
theorem dX6_marks_43 : decode cX6_marks 43 = .ok (.getfield 10, 3) := by decide +kernel
theorem dX6_marks_46 : decode cX6_marks 46 = .ok (.getfield 156, 3) := by decide +kernel
theorem dX6_marks_49 : decode cX6_marks 49 = .ok (.iload_n 1, 1) := by decide +kernel
theorem dX6_marks_50 : decode cX6_marks 50 = .ok (.iload_n 2, 1) := by decide +kernel
theorem dX6_marks_51 : decode cX6_marks 51 = .ok (.iastore, 1) := by decide +kernel
theorem dX6_marks_52 : decode cX6_marks 52 = .ok (.aload_n 0, 1) := by decide +kernel
theorem dX6_marks_53 : decode cX6_marks 53 = .ok (.getfield 10, 3) := by decide +kernel
theorem dX6_marks_56 : decode cX6_marks 56 = .ok (.getfield 159, 3) := by decide +kernel
theorem dX6_marks_59 : decode cX6_marks 59 = .ok (.iload_n 1, 1) := by decide +kernel
theorem dX6_marks_60 : decode cX6_marks 60 = .ok (.iload_n 3, 1) := by decide +kernel
theorem dX6_marks_61 : decode cX6_marks 61 = .ok (.iastore, 1) := by decide +kernel
theorem dX6_marks_62 : decode cX6_marks 62 = .ok (.iconst 1, 1) := by decide +kernel
theorem dX6_marks_63 : decode cX6_marks 63 = .ok (.ireturn, 1) := by decide +kernel
theorem dX6_gate_0 : decode cX6_gate 0 = .ok (.aload_n 0, 1) := by decide +kernel
theorem dX6_gate_1 : decode cX6_gate 1 = .ok (.getfield 10, 3) := by decide +kernel
theorem dX6_gate_4 : decode cX6_gate 4 = .ok (.iload_n 1, 1) := by decide +kernel
theorem dX6_gate_5 : decode cX6_gate 5 = .ok (.invokevirtual 147, 3) := by decide +kernel
theorem dX6_gate_8 : decode cX6_gate 8 = .ok (.ifCond .eq 14, 3) := by decide +kernel
theorem dX6_gate_11 : decode cX6_gate 11 = .ok (.aload_n 0, 1) := by decide +kernel
theorem dX6_gate_12 : decode cX6_gate 12 = .ok (.getfield 10, 3) := by decide +kernel
theorem dX6_gate_15 : decode cX6_gate 15 = .ok (.iload_n 2, 1) := by decide +kernel
theorem dX6_gate_16 : decode cX6_gate 16 = .ok (.invokevirtual 105, 3) := by decide +kernel
theorem dX6_gate_19 : decode cX6_gate 19 = .ok (.ifCond .ne 6, 3) := by decide +kernel
theorem dX6_gate_22 : decode cX6_gate 22 = .ok (.ldc 109, 2) := by decide +kernel
theorem dX6_gate_24 : decode cX6_gate 24 = .ok (.ireturn, 1) := by decide +kernel
theorem dX6_gate_25 : decode cX6_gate 25 = .ok (.aload_n 0, 1) := by decide +kernel
theorem dX6_gate_26 : decode cX6_gate 26 = .ok (.getfield 19, 3) := by decide +kernel
theorem dX6_gate_29 : decode cX6_gate 29 = .ok (.aload_n 0, 1) := by decide +kernel
theorem dX6_gate_30 : decode cX6_gate 30 = .ok (.getfield 10, 3) := by decide +kernel
theorem dX6_gate_33 : decode cX6_gate 33 = .ok (.invokevirtual 185, 3) := by decide +kernel
theorem dX6_gate_36 : decode cX6_gate 36 = .ok (.aload_n 0, 1) := by decide +kernel
theorem dX6_gate_37 : decode cX6_gate 37 = .ok (.getfield 10, 3) := by decide +kernel
theorem dX6_gate_40 : decode cX6_gate 40 = .ok (.getfield 162, 3) := by decide +kernel
theorem dX6_gate_43 : decode cX6_gate 43 = .ok (.iload_n 1, 1) := by decide +kernel
theorem dX6_gate_44 : decode cX6_gate 44 = .ok (.iaload, 1) := by decide +kernel
theorem dX6_gate_45 : decode cX6_gate 45 = .ok (.istore_n 3, 1) := by decide +kernel
theorem dX6_gate_46 : decode cX6_gate 46 = .ok (.aload_n 0, 1) := by decide +kernel
theorem dX6_gate_47 : decode cX6_gate 47 = .ok (.getfield 10, 3) := by decide +kernel
theorem dX6_gate_50 : decode cX6_gate 50 = .ok (.getfield 162, 3) := by decide +kernel
theorem dX6_gate_53 : decode cX6_gate 53 = .ok (.iload_n 1, 1) := by decide +kernel
theorem dX6_gate_54 : decode cX6_gate 54 = .ok (.iload_n 2, 1) := by decide +kernel
theorem dX6_gate_55 : decode cX6_gate 55 = .ok (.iastore, 1) := by decide +kernel
theorem dX6_gate_56 : decode cX6_gate 56 = .ok (.iload_n 3, 1) := by decide +kernel
theorem dX6_gate_57 : decode cX6_gate 57 = .ok (.ireturn, 1) := by decide +kernel
theorem dX6_write_0 : decode cX6_write 0 = .ok (.aload_n 0, 1) := by decide +kernel
theorem dX6_write_1 : decode cX6_write 1 = .ok (.getfield 10, 3) := by decide +kernel
theorem dX6_write_4 : decode cX6_write 4 = .ok (.iload_n 1, 1) := by decide +kernel
theorem dX6_write_5 : decode cX6_write 5 = .ok (.invokevirtual 118, 3) := by decide +kernel
theorem dX6_write_8 : decode cX6_write 8 = .ok (.ifCond .eq 14, 3) := by decide +kernel
theorem dX6_write_11 : decode cX6_write 11 = .ok (.aload_n 0, 1) := by decide +kernel
theorem dX6_write_12 : decode cX6_write 12 = .ok (.getfield 10, 3) := by decide +kernel
theorem dX6_write_15 : decode cX6_write 15 = .ok (.iload_n 2, 1) := by decide +kernel
theorem dX6_write_16 : decode cX6_write 16 = .ok (.invokevirtual 105, 3) := by decide +kernel
theorem dX6_write_19 : decode cX6_write 19 = .ok (.ifCond .ne 6, 3) := by decide +kernel
theorem dX6_write_22 : decode cX6_write 22 = .ok (.ldc 109, 2) := by decide +kernel
theorem dX6_write_24 : decode cX6_write 24 = .ok (.ireturn, 1) := by decide +kernel
theorem dX6_write_25 : decode cX6_write 25 = .ok (.iload_n 3, 1) := by decide +kernel
theorem dX6_write_26 : decode cX6_write 26 = .ok (.invokestatic 192, 3) := by decide +kernel
theorem dX6_write_29 : decode cX6_write 29 = .ok (.ifCond .ne 6, 3) := by decide +kernel
theorem dX6_write_32 : decode cX6_write 32 = .ok (.ldc 104, 2) := by decide +kernel
theorem dX6_write_34 : decode cX6_write 34 = .ok (.ireturn, 1) := by decide +kernel
theorem dX6_write_35 : decode cX6_write 35 = .ok (.aload_n 0, 1) := by decide +kernel
theorem dX6_write_36 : decode cX6_write 36 = .ok (.getfield 10, 3) := by decide +kernel
theorem dX6_write_39 : decode cX6_write 39 = .ok (.iload_n 1, 1) := by decide +kernel
theorem dX6_write_40 : decode cX6_write 40 = .ok (.invokevirtual 141, 3) := by decide +kernel
theorem dX6_write_43 : decode cX6_write 43 = .ok (.ifCond .ne 6, 3) := by decide +kernel
theorem dX6_write_46 : decode cX6_write 46 = .ok (.ldc 203, 2) := by decide +kernel
theorem dX6_write_48 : decode cX6_write 48 = .ok (.ireturn, 1) := by decide +kernel
theorem dX6_write_49 : decode cX6_write 49 = .ok (.aload_n 0, 1) := by decide +kernel
theorem dX6_write_50 : decode cX6_write 50 = .ok (.getfield 19, 3) := by decide +kernel
theorem dX6_write_53 : decode cX6_write 53 = .ok (.aload_n 0, 1) := by decide +kernel
theorem dX6_write_54 : decode cX6_write 54 = .ok (.getfield 10, 3) := by decide +kernel
theorem dX6_write_57 : decode cX6_write 57 = .ok (.invokevirtual 185, 3) := by decide +kernel
theorem dX6_write_60 : decode cX6_write 60 = .ok (.aload_n 0, 1) := by decide +kernel
theorem dX6_write_61 : decode cX6_write 61 = .ok (.getfield 10, 3) := by decide +kernel
theorem dX6_write_64 : decode cX6_write 64 = .ok (.getfield 144, 3) := by decide +kernel
theorem dX6_write_67 : decode cX6_write 67 = .ok (.iload_n 1, 1) := by decide +kernel
theorem dX6_write_68 : decode cX6_write 68 = .ok (.iload_n 2, 1) := by decide +kernel
theorem dX6_write_69 : decode cX6_write 69 = .ok (.sipush 256, 3) := by decide +kernel
theorem dX6_write_72 : decode cX6_write 72 = .ok (.imul, 1) := by decide +kernel
theorem dX6_write_73 : decode cX6_write 73 = .ok (.iload_n 3, 1) := by decide +kernel
theorem dX6_write_74 : decode cX6_write 74 = .ok (.iadd, 1) := by decide +kernel
theorem dX6_write_75 : decode cX6_write 75 = .ok (.iastore, 1) := by decide +kernel
theorem dX6_write_76 : decode cX6_write 76 = .ok (.aload_n 0, 1) := by decide +kernel
theorem dX6_write_77 : decode cX6_write 77 = .ok (.getfield 53, 3) := by decide +kernel
theorem dX6_write_80 : decode cX6_write 80 = .ok (.aload_n 0, 1) := by decide +kernel
theorem dX6_write_81 : decode cX6_write 81 = .ok (.getfield 10, 3) := by decide +kernel
theorem dX6_write_84 : decode cX6_write 84 = .ok (.invokevirtual 85, 3) := by decide +kernel
theorem dX6_write_87 : decode cX6_write 87 = .ok (.ireturn, 1) := by decide +kernel
theorem dX6_copy_0 : decode cX6_copy 0 = .ok (.aload_n 0, 1) := by decide +kernel
theorem dX6_copy_1 : decode cX6_copy 1 = .ok (.invokevirtual 132, 3) := by decide +kernel
theorem dX6_copy_4 : decode cX6_copy 4 = .ok (.ifCond .ne 6, 3) := by decide +kernel
theorem dX6_copy_7 : decode cX6_copy 7 = .ok (.ldc 203, 2) := by decide +kernel
theorem dX6_copy_9 : decode cX6_copy 9 = .ok (.ireturn, 1) := by decide +kernel
theorem dX6_copy_10 : decode cX6_copy 10 = .ok (.aload_n 0, 1) := by decide +kernel
theorem dX6_copy_11 : decode cX6_copy 11 = .ok (.getfield 19, 3) := by decide +kernel
theorem dX6_copy_14 : decode cX6_copy 14 = .ok (.aload_n 0, 1) := by decide +kernel
theorem dX6_copy_15 : decode cX6_copy 15 = .ok (.getfield 10, 3) := by decide +kernel
theorem dX6_copy_18 : decode cX6_copy 18 = .ok (.invokevirtual 185, 3) := by decide +kernel
theorem dX6_copy_21 : decode cX6_copy 21 = .ok (.iconst 0, 1) := by decide +kernel
theorem dX6_copy_22 : decode cX6_copy 22 = .ok (.istore_n 1, 1) := by decide +kernel
theorem dX6_copy_23 : decode cX6_copy 23 = .ok (.iconst 0, 1) := by decide +kernel
theorem dX6_copy_24 : decode cX6_copy 24 = .ok (.istore_n 2, 1) := by decide +kernel
theorem dX6_copy_25 : decode cX6_copy 25 = .ok (.iload_n 2, 1) := by decide +kernel
theorem dX6_copy_26 : decode cX6_copy 26 = .ok (.aload_n 0, 1) := by decide +kernel
theorem dX6_copy_27 : decode cX6_copy 27 = .ok (.getfield 10, 3) := by decide +kernel
theorem dX6_copy_30 : decode cX6_copy 30 = .ok (.getfield 65, 3) := by decide +kernel
theorem dX6_copy_33 : decode cX6_copy 33 = .ok (.if_icmp .ge 41, 3) := by decide +kernel
theorem dX6_copy_36 : decode cX6_copy 36 = .ok (.aload_n 0, 1) := by decide +kernel
theorem dX6_copy_37 : decode cX6_copy 37 = .ok (.getfield 10, 3) := by decide +kernel
theorem dX6_copy_40 : decode cX6_copy 40 = .ok (.iload_n 2, 1) := by decide +kernel
theorem dX6_copy_41 : decode cX6_copy 41 = .ok (.invokevirtual 141, 3) := by decide +kernel
theorem dX6_copy_44 : decode cX6_copy 44 = .ok (.ifCond .eq 24, 3) := by decide +kernel
theorem dX6_copy_47 : decode cX6_copy 47 = .ok (.aload_n 0, 1) := by decide +kernel
theorem dX6_copy_48 : decode cX6_copy 48 = .ok (.getfield 10, 3) := by decide +kernel
theorem dX6_copy_51 : decode cX6_copy 51 = .ok (.getfield 144, 3) := by decide +kernel
theorem dX6_copy_54 : decode cX6_copy 54 = .ok (.iload_n 2, 1) := by decide +kernel
theorem dX6_copy_55 : decode cX6_copy 55 = .ok (.aload_n 0, 1) := by decide +kernel
theorem dX6_copy_56 : decode cX6_copy 56 = .ok (.getfield 43, 3) := by decide +kernel
theorem dX6_copy_59 : decode cX6_copy 59 = .ok (.getfield 135, 3) := by decide +kernel
theorem dX6_copy_62 : decode cX6_copy 62 = .ok (.iload_n 2, 1) := by decide +kernel
theorem dX6_copy_63 : decode cX6_copy 63 = .ok (.iaload, 1) := by decide +kernel
theorem dX6_copy_64 : decode cX6_copy 64 = .ok (.iastore, 1) := by decide +kernel
theorem dX6_copy_65 : decode cX6_copy 65 = .ok (.iinc 1 1, 3) := by decide +kernel
theorem dX6_copy_68 : decode cX6_copy 68 = .ok (.iinc 2 1, 3) := by decide +kernel
theorem dX6_copy_71 : decode cX6_copy 71 = .ok (.goto (-46), 3) := by decide +kernel
theorem dX6_copy_74 : decode cX6_copy 74 = .ok (.iload_n 1, 1) := by decide +kernel
theorem dX6_copy_75 : decode cX6_copy 75 = .ok (.ireturn, 1) := by decide +kernel
theorem dX6_drift_0 : decode cX6_drift 0 = .ok (.iload_n 1, 1) := by decide +kernel
theorem dX6_drift_1 : decode cX6_drift 1 = .ok (.iconst 1, 1) := by decide +kernel
theorem dX6_drift_2 : decode cX6_drift 2 = .ok (.if_icmp .lt 9, 3) := by decide +kernel
theorem dX6_drift_5 : decode cX6_drift 5 = .ok (.iload_n 1, 1) := by decide +kernel
theorem dX6_drift_6 : decode cX6_drift 6 = .ok (.bipush 16, 2) := by decide +kernel
theorem dX6_drift_8 : decode cX6_drift 8 = .ok (.if_icmp .le 6, 3) := by decide +kernel
theorem dX6_drift_11 : decode cX6_drift 11 = .ok (.ldc 104, 2) := by decide +kernel
theorem dX6_drift_13 : decode cX6_drift 13 = .ok (.ireturn, 1) := by decide +kernel
theorem dX6_drift_14 : decode cX6_drift 14 = .ok (.iconst 0, 1) := by decide +kernel
theorem dX6_drift_15 : decode cX6_drift 15 = .ok (.istore_n 2, 1) := by decide +kernel
theorem dX6_drift_16 : decode cX6_drift 16 = .ok (.iload_n 2, 1) := by decide +kernel
theorem dX6_drift_17 : decode cX6_drift 17 = .ok (.iload_n 1, 1) := by decide +kernel
theorem dX6_drift_18 : decode cX6_drift 18 = .ok (.if_icmp .ge 46, 3) := by decide +kernel
theorem dX6_drift_21 : decode cX6_drift 21 = .ok (.aload_n 0, 1) := by decide +kernel
theorem dX6_drift_22 : decode cX6_drift 22 = .ok (.getfield 10, 3) := by decide +kernel
theorem dX6_drift_25 : decode cX6_drift 25 = .ok (.getfield 65, 3) := by decide +kernel
theorem dX6_drift_28 : decode cX6_drift 28 = .ok (.ifCond .le 36, 3) := by decide +kernel
theorem dX6_drift_31 : decode cX6_drift 31 = .ok (.aload_n 0, 1) := by decide +kernel
theorem dX6_drift_32 : decode cX6_drift 32 = .ok (.getfield 10, 3) := by decide +kernel
theorem dX6_drift_35 : decode cX6_drift 35 = .ok (.getfield 68, 3) := by decide +kernel
theorem dX6_drift_38 : decode cX6_drift 38 = .ok (.bipush 20, 2) := by decide +kernel
theorem dX6_drift_40 : decode cX6_drift 40 = .ok (.if_icmp .ge 24, 3) := by decide +kernel
theorem dX6_drift_43 : decode cX6_drift 43 = .ok (.aload_n 0, 1) := by decide +kernel
theorem dX6_drift_44 : decode cX6_drift 44 = .ok (.getfield 19, 3) := by decide +kernel
theorem dX6_drift_47 : decode cX6_drift 47 = .ok (.aload_n 0, 1) := by decide +kernel
theorem dX6_drift_48 : decode cX6_drift 48 = .ok (.getfield 10, 3) := by decide +kernel
theorem dX6_drift_51 : decode cX6_drift 51 = .ok (.invokevirtual 185, 3) := by decide +kernel
theorem dX6_drift_54 : decode cX6_drift 54 = .ok (.aload_n 0, 1) := by decide +kernel
theorem dX6_drift_55 : decode cX6_drift 55 = .ok (.invokevirtual 204, 3) := by decide +kernel
theorem dX6_drift_58 : decode cX6_drift 58 = .ok (.iinc 2 1, 3) := by decide +kernel
theorem dX6_drift_61 : decode cX6_drift 61 = .ok (.goto (-45), 3) := by decide +kernel
theorem dX6_drift_64 : decode cX6_drift 64 = .ok (.aload_n 0, 1) := by decide +kernel
theorem dX6_drift_65 : decode cX6_drift 65 = .ok (.getfield 10, 3) := by decide +kernel
theorem dX6_drift_68 : decode cX6_drift 68 = .ok (.getfield 68, 3) := by decide +kernel
theorem dX6_drift_71 : decode cX6_drift 71 = .ok (.ireturn, 1) := by decide +kernel
theorem dX6_undo_0 : decode cX6_undo 0 = .ok (.iload_n 1, 1) := by decide +kernel
theorem dX6_undo_1 : decode cX6_undo 1 = .ok (.iconst 1, 1) := by decide +kernel
theorem dX6_undo_2 : decode cX6_undo 2 = .ok (.if_icmp .lt 9, 3) := by decide +kernel
theorem dX6_undo_5 : decode cX6_undo 5 = .ok (.iload_n 1, 1) := by decide +kernel
theorem dX6_undo_6 : decode cX6_undo 6 = .ok (.bipush 16, 2) := by decide +kernel
theorem dX6_undo_8 : decode cX6_undo 8 = .ok (.if_icmp .le 6, 3) := by decide +kernel
theorem dX6_undo_11 : decode cX6_undo 11 = .ok (.ldc 104, 2) := by decide +kernel
theorem dX6_undo_13 : decode cX6_undo 13 = .ok (.ireturn, 1) := by decide +kernel
theorem dX6_undo_14 : decode cX6_undo 14 = .ok (.iload_n 1, 1) := by decide +kernel
theorem dX6_undo_15 : decode cX6_undo 15 = .ok (.aload_n 0, 1) := by decide +kernel
theorem dX6_undo_16 : decode cX6_undo 16 = .ok (.getfield 19, 3) := by decide +kernel
theorem dX6_undo_19 : decode cX6_undo 19 = .ok (.getfield 101, 3) := by decide +kernel
theorem dX6_undo_22 : decode cX6_undo 22 = .ok (.if_icmp .le 6, 3) := by decide +kernel
theorem dX6_undo_25 : decode cX6_undo 25 = .ok (.ldc 203, 2) := by decide +kernel
theorem dX6_undo_27 : decode cX6_undo 27 = .ok (.ireturn, 1) := by decide +kernel
theorem dX6_undo_28 : decode cX6_undo 28 = .ok (.aload_n 0, 1) := by decide +kernel
theorem dX6_undo_29 : decode cX6_undo 29 = .ok (.getfield 19, 3) := by decide +kernel
theorem dX6_undo_32 : decode cX6_undo 32 = .ok (.aload_n 0, 1) := by decide +kernel
theorem dX6_undo_33 : decode cX6_undo 33 = .ok (.getfield 10, 3) := by decide +kernel
theorem dX6_undo_36 : decode cX6_undo 36 = .ok (.iload_n 1, 1) := by decide +kernel
theorem dX6_undo_37 : decode cX6_undo 37 = .ok (.invokevirtual 207, 3) := by decide +kernel
theorem dX6_undo_40 : decode cX6_undo 40 = .ok (.aload_n 0, 1) := by decide +kernel
theorem dX6_undo_41 : decode cX6_undo 41 = .ok (.getfield 10, 3) := by decide +kernel
theorem dX6_undo_44 : decode cX6_undo 44 = .ok (.getfield 68, 3) := by decide +kernel
theorem dX6_undo_47 : decode cX6_undo 47 = .ok (.ireturn, 1) := by decide +kernel
theorem dX6_note_0 : decode cX6_note 0 = .ok (.aload_n 0, 1) := by decide +kernel
theorem dX6_note_1 : decode cX6_note 1 = .ok (.getfield 10, 3) := by decide +kernel
theorem dX6_note_4 : decode cX6_note 4 = .ok (.iload_n 1, 1) := by decide +kernel
theorem dX6_note_5 : decode cX6_note 5 = .ok (.invokevirtual 118, 3) := by decide +kernel
theorem dX6_note_8 : decode cX6_note 8 = .ok (.ifCond .eq 14, 3) := by decide +kernel
theorem dX6_note_11 : decode cX6_note 11 = .ok (.aload_n 0, 1) := by decide +kernel
theorem dX6_note_12 : decode cX6_note 12 = .ok (.getfield 10, 3) := by decide +kernel
theorem dX6_note_15 : decode cX6_note 15 = .ok (.iload_n 2, 1) := by decide +kernel
theorem dX6_note_16 : decode cX6_note 16 = .ok (.invokevirtual 105, 3) := by decide +kernel
theorem dX6_note_19 : decode cX6_note 19 = .ok (.ifCond .ne 6, 3) := by decide +kernel
theorem dX6_note_22 : decode cX6_note 22 = .ok (.ldc 109, 2) := by decide +kernel
theorem dX6_note_24 : decode cX6_note 24 = .ok (.ireturn, 1) := by decide +kernel
theorem dX6_note_25 : decode cX6_note 25 = .ok (.iload_n 3, 1) := by decide +kernel
theorem dX6_note_26 : decode cX6_note 26 = .ok (.invokestatic 192, 3) := by decide +kernel
theorem dX6_note_29 : decode cX6_note 29 = .ok (.ifCond .ne 6, 3) := by decide +kernel
theorem dX6_note_32 : decode cX6_note 32 = .ok (.ldc 104, 2) := by decide +kernel
theorem dX6_note_34 : decode cX6_note 34 = .ok (.ireturn, 1) := by decide +kernel
theorem dX6_note_35 : decode cX6_note 35 = .ok (.aload_n 0, 1) := by decide +kernel
theorem dX6_note_36 : decode cX6_note 36 = .ok (.getfield 36, 3) := by decide +kernel
theorem dX6_note_39 : decode cX6_note 39 = .ok (.getfield 95, 3) := by decide +kernel
theorem dX6_note_42 : decode cX6_note 42 = .ok (.bipush 20, 2) := by decide +kernel
theorem dX6_note_44 : decode cX6_note 44 = .ok (.if_icmp .lt 6, 3) := by decide +kernel
theorem dX6_note_47 : decode cX6_note 47 = .ok (.ldc 195, 2) := by decide +kernel
theorem dX6_note_49 : decode cX6_note 49 = .ok (.ireturn, 1) := by decide +kernel
theorem dX6_note_50 : decode cX6_note 50 = .ok (.aload_n 0, 1) := by decide +kernel
theorem dX6_note_51 : decode cX6_note 51 = .ok (.getfield 36, 3) := by decide +kernel
theorem dX6_note_54 : decode cX6_note 54 = .ok (.iload_n 1, 1) := by decide +kernel
theorem dX6_note_55 : decode cX6_note 55 = .ok (.iload_n 2, 1) := by decide +kernel
theorem dX6_note_56 : decode cX6_note 56 = .ok (.sipush 256, 3) := by decide +kernel
theorem dX6_note_59 : decode cX6_note 59 = .ok (.imul, 1) := by decide +kernel
theorem dX6_note_60 : decode cX6_note 60 = .ok (.iload_n 3, 1) := by decide +kernel
theorem dX6_note_61 : decode cX6_note 61 = .ok (.iadd, 1) := by decide +kernel
theorem dX6_note_62 : decode cX6_note 62 = .ok (.invokevirtual 211, 3) := by decide +kernel
theorem dX6_note_65 : decode cX6_note 65 = .ok (.aload_n 0, 1) := by decide +kernel
theorem dX6_note_66 : decode cX6_note 66 = .ok (.getfield 36, 3) := by decide +kernel
theorem dX6_note_69 : decode cX6_note 69 = .ok (.getfield 95, 3) := by decide +kernel
theorem dX6_note_72 : decode cX6_note 72 = .ok (.ireturn, 1) := by decide +kernel
theorem dX6_tear_0 : decode cX6_tear 0 = .ok (.aload_n 0, 1) := by decide +kernel
theorem dX6_tear_1 : decode cX6_tear 1 = .ok (.getfield 36, 3) := by decide +kernel
theorem dX6_tear_4 : decode cX6_tear 4 = .ok (.getfield 95, 3) := by decide +kernel
theorem dX6_tear_7 : decode cX6_tear 7 = .ok (.istore_n 1, 1) := by decide +kernel
theorem dX6_tear_8 : decode cX6_tear 8 = .ok (.aload_n 0, 1) := by decide +kernel
theorem dX6_tear_9 : decode cX6_tear 9 = .ok (.getfield 36, 3) := by decide +kernel
theorem dX6_tear_12 : decode cX6_tear 12 = .ok (.iconst 0, 1) := by decide +kernel
theorem dX6_tear_13 : decode cX6_tear 13 = .ok (.putfield 95, 3) := by decide +kernel
theorem dX6_tear_16 : decode cX6_tear 16 = .ok (.iload_n 1, 1) := by decide +kernel
theorem dX6_tear_17 : decode cX6_tear 17 = .ok (.ireturn, 1) := by decide +kernel
theorem dX6_seed_0 : decode cX6_seed 0 = .ok (.iload_n 1, 1) := by decide +kernel
theorem dX6_seed_1 : decode cX6_seed 1 = .ok (.ifCond .ge 6, 3) := by decide +kernel
theorem dX6_seed_4 : decode cX6_seed 4 = .ok (.ldc 104, 2) := by decide +kernel
theorem dX6_seed_6 : decode cX6_seed 6 = .ok (.ireturn, 1) := by decide +kernel
theorem dX6_seed_7 : decode cX6_seed 7 = .ok (.aload_n 0, 1) := by decide +kernel
theorem dX6_seed_8 : decode cX6_seed 8 = .ok (.getfield 215, 3) := by decide +kernel
theorem dX6_seed_11 : decode cX6_seed 11 = .ok (.istore_n 2, 1) := by decide +kernel
theorem dX6_seed_12 : decode cX6_seed 12 = .ok (.aload_n 0, 1) := by decide +kernel
theorem dX6_seed_13 : decode cX6_seed 13 = .ok (.iload_n 1, 1) := by decide +kernel
theorem dX6_seed_14 : decode cX6_seed 14 = .ok (.putfield 215, 3) := by decide +kernel
theorem dX6_seed_17 : decode cX6_seed 17 = .ok (.iload_n 2, 1) := by decide +kernel
theorem dX6_seed_18 : decode cX6_seed 18 = .ok (.ireturn, 1) := by decide +kernel
theorem dX6_keep_0 : decode cX6_keep 0 = .ok (.iload_n 1, 1) := by decide +kernel
theorem dX6_keep_1 : decode cX6_keep 1 = .ok (.ifCond .lt 8, 3) := by decide +kernel
theorem dX6_keep_4 : decode cX6_keep 4 = .ok (.iload_n 1, 1) := by decide +kernel
theorem dX6_keep_5 : decode cX6_keep 5 = .ok (.iconst 1, 1) := by decide +kernel
theorem dX6_keep_6 : decode cX6_keep 6 = .ok (.if_icmp .le 6, 3) := by decide +kernel
theorem dX6_keep_9 : decode cX6_keep 9 = .ok (.ldc 109, 2) := by decide +kernel
theorem dX6_keep_11 : decode cX6_keep 11 = .ok (.ireturn, 1) := by decide +kernel
theorem dX6_keep_12 : decode cX6_keep 12 = .ok (.iload_n 1, 1) := by decide +kernel
theorem dX6_keep_13 : decode cX6_keep 13 = .ok (.ifCond .ne 10, 3) := by decide +kernel
theorem dX6_keep_16 : decode cX6_keep 16 = .ok (.aload_n 0, 1) := by decide +kernel
theorem dX6_keep_17 : decode cX6_keep 17 = .ok (.getfield 26, 3) := by decide +kernel
theorem dX6_keep_20 : decode cX6_keep 20 = .ok (.goto 7, 3) := by decide +kernel
theorem dX6_keep_23 : decode cX6_keep 23 = .ok (.aload_n 0, 1) := by decide +kernel
theorem dX6_keep_24 : decode cX6_keep 24 = .ok (.getfield 30, 3) := by decide +kernel
theorem dX6_keep_27 : decode cX6_keep 27 = .ok (.astore_n 2, 1) := by decide +kernel
theorem dX6_keep_28 : decode cX6_keep 28 = .ok (.aload_n 2, 1) := by decide +kernel
theorem dX6_keep_29 : decode cX6_keep 29 = .ok (.iconst 1, 1) := by decide +kernel
theorem dX6_keep_30 : decode cX6_keep 30 = .ok (.putfield 218, 3) := by decide +kernel
theorem dX6_keep_33 : decode cX6_keep 33 = .ok (.aload_n 2, 1) := by decide +kernel
theorem dX6_keep_34 : decode cX6_keep 34 = .ok (.getfield 222, 3) := by decide +kernel
theorem dX6_keep_37 : decode cX6_keep 37 = .ok (.aload_n 0, 1) := by decide +kernel
theorem dX6_keep_38 : decode cX6_keep 38 = .ok (.getfield 10, 3) := by decide +kernel
theorem dX6_keep_41 : decode cX6_keep 41 = .ok (.invokevirtual 223, 3) := by decide +kernel
theorem dX6_keep_44 : decode cX6_keep 44 = .ok (.aload_n 2, 1) := by decide +kernel
theorem dX6_keep_45 : decode cX6_keep 45 = .ok (.aload_n 0, 1) := by decide +kernel
theorem dX6_keep_46 : decode cX6_keep 46 = .ok (.getfield 215, 3) := by decide +kernel
theorem dX6_keep_49 : decode cX6_keep 49 = .ok (.putfield 226, 3) := by decide +kernel
theorem dX6_keep_52 : decode cX6_keep 52 = .ok (.aload_n 0, 1) := by decide +kernel
theorem dX6_keep_53 : decode cX6_keep 53 = .ok (.getfield 19, 3) := by decide +kernel
theorem dX6_keep_56 : decode cX6_keep 56 = .ok (.invokevirtual 227, 3) := by decide +kernel
theorem dX6_keep_59 : decode cX6_keep 59 = .ok (.iconst 1, 1) := by decide +kernel
theorem dX6_keep_60 : decode cX6_keep 60 = .ok (.ireturn, 1) := by decide +kernel
theorem dX6_goBack_0 : decode cX6_goBack 0 = .ok (.iload_n 1, 1) := by decide +kernel
theorem dX6_goBack_1 : decode cX6_goBack 1 = .ok (.ifCond .lt 8, 3) := by decide +kernel
theorem dX6_goBack_4 : decode cX6_goBack 4 = .ok (.iload_n 1, 1) := by decide +kernel
theorem dX6_goBack_5 : decode cX6_goBack 5 = .ok (.iconst 1, 1) := by decide +kernel
theorem dX6_goBack_6 : decode cX6_goBack 6 = .ok (.if_icmp .le 6, 3) := by decide +kernel
theorem dX6_goBack_9 : decode cX6_goBack 9 = .ok (.ldc 109, 2) := by decide +kernel
theorem dX6_goBack_11 : decode cX6_goBack 11 = .ok (.ireturn, 1) := by decide +kernel
theorem dX6_goBack_12 : decode cX6_goBack 12 = .ok (.iload_n 1, 1) := by decide +kernel
theorem dX6_goBack_13 : decode cX6_goBack 13 = .ok (.ifCond .ne 10, 3) := by decide +kernel
theorem dX6_goBack_16 : decode cX6_goBack 16 = .ok (.aload_n 0, 1) := by decide +kernel
theorem dX6_goBack_17 : decode cX6_goBack 17 = .ok (.getfield 26, 3) := by decide +kernel
theorem dX6_goBack_20 : decode cX6_goBack 20 = .ok (.goto 7, 3) := by decide +kernel
theorem dX6_goBack_23 : decode cX6_goBack 23 = .ok (.aload_n 0, 1) := by decide +kernel
theorem dX6_goBack_24 : decode cX6_goBack 24 = .ok (.getfield 30, 3) := by decide +kernel
theorem dX6_goBack_27 : decode cX6_goBack 27 = .ok (.astore_n 2, 1) := by decide +kernel
theorem dX6_goBack_28 : decode cX6_goBack 28 = .ok (.aload_n 2, 1) := by decide +kernel
theorem dX6_goBack_29 : decode cX6_goBack 29 = .ok (.getfield 218, 3) := by decide +kernel
theorem dX6_goBack_32 : decode cX6_goBack 32 = .ok (.ifCond .ne 6, 3) := by decide +kernel
theorem dX6_goBack_35 : decode cX6_goBack 35 = .ok (.ldc 203, 2) := by decide +kernel
theorem dX6_goBack_37 : decode cX6_goBack 37 = .ok (.ireturn, 1) := by decide +kernel
theorem dX6_goBack_38 : decode cX6_goBack 38 = .ok (.aload_n 0, 1) := by decide +kernel
theorem dX6_goBack_39 : decode cX6_goBack 39 = .ok (.getfield 10, 3) := by decide +kernel
theorem dX6_goBack_42 : decode cX6_goBack 42 = .ok (.aload_n 2, 1) := by decide +kernel
theorem dX6_goBack_43 : decode cX6_goBack 43 = .ok (.getfield 222, 3) := by decide +kernel
theorem dX6_goBack_46 : decode cX6_goBack 46 = .ok (.invokevirtual 223, 3) := by decide +kernel
theorem dX6_goBack_49 : decode cX6_goBack 49 = .ok (.aload_n 0, 1) := by decide +kernel
theorem dX6_goBack_50 : decode cX6_goBack 50 = .ok (.aload_n 2, 1) := by decide +kernel
theorem dX6_goBack_51 : decode cX6_goBack 51 = .ok (.getfield 226, 3) := by decide +kernel
theorem dX6_goBack_54 : decode cX6_goBack 54 = .ok (.putfield 215, 3) := by decide +kernel
theorem dX6_goBack_57 : decode cX6_goBack 57 = .ok (.aload_n 0, 1) := by decide +kernel
theorem dX6_goBack_58 : decode cX6_goBack 58 = .ok (.getfield 19, 3) := by decide +kernel
theorem dX6_goBack_61 : decode cX6_goBack 61 = .ok (.invokevirtual 227, 3) := by decide +kernel
theorem dX6_goBack_64 : decode cX6_goBack 64 = .ok (.iconst 1, 1) := by decide +kernel
theorem dX6_goBack_65 : decode cX6_goBack 65 = .ok (.ireturn, 1) := by decide +kernel
theorem dX6_valueOf_0 : decode cX6_valueOf 0 = .ok (.iload_n 0, 1) := by decide +kernel
theorem dX6_valueOf_1 : decode cX6_valueOf 1 = .ok (.sipush 256, 3) := by decide +kernel
theorem dX6_valueOf_4 : decode cX6_valueOf 4 = .ok (.idiv, 1) := by decide +kernel
theorem dX6_valueOf_5 : decode cX6_valueOf 5 = .ok (.ireturn, 1) := by decide +kernel
theorem dX6_setOf_0 : decode cX6_setOf 0 = .ok (.iload_n 0, 1) := by decide +kernel
theorem dX6_setOf_1 : decode cX6_setOf 1 = .ok (.sipush 255, 3) := by decide +kernel
theorem dX6_setOf_4 : decode cX6_setOf 4 = .ok (.iand, 1) := by decide +kernel
theorem dX6_setOf_5 : decode cX6_setOf 5 = .ok (.ireturn, 1) := by decide +kernel
theorem dX6_isSet_0 : decode cX6_isSet 0 = .ok (.iload_n 0, 1) := by decide +kernel
theorem dX6_isSet_1 : decode cX6_isSet 1 = .ok (.ifCond .lt 14, 3) := by decide +kernel
theorem dX6_isSet_4 : decode cX6_isSet 4 = .ok (.iload_n 0, 1) := by decide +kernel
theorem dX6_isSet_5 : decode cX6_isSet 5 = .ok (.sipush 255, 3) := by decide +kernel
theorem dX6_isSet_8 : decode cX6_isSet 8 = .ok (.if_icmp .gt 7, 3) := by decide +kernel
theorem dX6_isSet_11 : decode cX6_isSet 11 = .ok (.iconst 1, 1) := by decide +kernel
theorem dX6_isSet_12 : decode cX6_isSet 12 = .ok (.goto 4, 3) := by decide +kernel
theorem dX6_isSet_15 : decode cX6_isSet 15 = .ok (.iconst 0, 1) := by decide +kernel
theorem dX6_isSet_16 : decode cX6_isSet 16 = .ok (.ireturn, 1) := by decide +kernel
theorem dX6_isChoice_0 : decode cX6_isChoice 0 = .ok (.iload_n 0, 1) := by decide +kernel
theorem dX6_isChoice_1 : decode cX6_isChoice 1 = .ok (.ifCond .lt 12, 3) := by decide +kernel
theorem dX6_isChoice_4 : decode cX6_isChoice 4 = .ok (.iload_n 0, 1) := by decide +kernel
theorem dX6_isChoice_5 : decode cX6_isChoice 5 = .ok (.iconst 2, 1) := by decide +kernel
theorem dX6_isChoice_6 : decode cX6_isChoice 6 = .ok (.if_icmp .gt 7, 3) := by decide +kernel
theorem dX6_isChoice_9 : decode cX6_isChoice 9 = .ok (.iconst 1, 1) := by decide +kernel
theorem dX6_isChoice_10 : decode cX6_isChoice 10 = .ok (.goto 4, 3) := by decide +kernel
theorem dX6_isChoice_13 : decode cX6_isChoice 13 = .ok (.iconst 0, 1) := by decide +kernel
theorem dX6_isChoice_14 : decode cX6_isChoice 14 = .ok (.ireturn, 1) := by decide +kernel
theorem dX6_findKnown_0 : decode cX6_findKnown 0 = .ok (.aload_n 0, 1) := by decide +kernel
theorem dX6_findKnown_1 : decode cX6_findKnown 1 = .ok (.getfield 10, 3) := by decide +kernel
theorem dX6_findKnown_4 : decode cX6_findKnown 4 = .ok (.invokevirtual 78, 3) := by decide +kernel
theorem dX6_findKnown_7 : decode cX6_findKnown 7 = .ok (.ifCond .ne 5, 3) := by decide +kernel
theorem dX6_findKnown_10 : decode cX6_findKnown 10 = .ok (.iconst 0, 1) := by decide +kernel
theorem dX6_findKnown_11 : decode cX6_findKnown 11 = .ok (.ireturn, 1) := by decide +kernel
theorem dX6_findKnown_12 : decode cX6_findKnown 12 = .ok (.aload_n 0, 1) := by decide +kernel
theorem dX6_findKnown_13 : decode cX6_findKnown 13 = .ok (.getfield 43, 3) := by decide +kernel
theorem dX6_findKnown_16 : decode cX6_findKnown 16 = .ok (.aload_n 0, 1) := by decide +kernel
theorem dX6_findKnown_17 : decode cX6_findKnown 17 = .ok (.getfield 10, 3) := by decide +kernel
theorem dX6_findKnown_20 : decode cX6_findKnown 20 = .ok (.iconst 0, 1) := by decide +kernel
theorem dX6_findKnown_21 : decode cX6_findKnown 21 = .ok (.iconst (-1), 1) := by decide +kernel
theorem dX6_findKnown_22 : decode cX6_findKnown 22 = .ok (.invokevirtual 181, 3) := by decide +kernel
theorem dX6_findKnown_25 : decode cX6_findKnown 25 = .ok (.pop, 1) := by decide +kernel
theorem dX6_findKnown_26 : decode cX6_findKnown 26 = .ok (.iconst 1, 1) := by decide +kernel
theorem dX6_findKnown_27 : decode cX6_findKnown 27 = .ok (.ireturn, 1) := by decide +kernel
theorem dX6_otherwiseWithout_0 : decode cX6_otherwiseWithout 0 = .ok (.aload_n 0, 1) := by decide +kernel
theorem dX6_otherwiseWithout_1 : decode cX6_otherwiseWithout 1 = .ok (.getfield 47, 3) := by decide +kernel
theorem dX6_otherwiseWithout_4 : decode cX6_otherwiseWithout 4 = .ok (.aload_n 0, 1) := by decide +kernel
theorem dX6_otherwiseWithout_5 : decode cX6_otherwiseWithout 5 = .ok (.getfield 10, 3) := by decide +kernel
theorem dX6_otherwiseWithout_8 : decode cX6_otherwiseWithout 8 = .ok (.iconst 0, 1) := by decide +kernel
theorem dX6_otherwiseWithout_9 : decode cX6_otherwiseWithout 9 = .ok (.iload_n 1, 1) := by decide +kernel
theorem dX6_otherwiseWithout_10 : decode cX6_otherwiseWithout 10 = .ok (.invokevirtual 181, 3) := by decide +kernel
theorem dX6_otherwiseWithout_13 : decode cX6_otherwiseWithout 13 = .ok (.pop, 1) := by decide +kernel
theorem dX6_otherwiseWithout_14 : decode cX6_otherwiseWithout 14 = .ok (.iconst 0, 1) := by decide +kernel
theorem dX6_otherwiseWithout_15 : decode cX6_otherwiseWithout 15 = .ok (.istore_n 2, 1) := by decide +kernel
theorem dX6_otherwiseWithout_16 : decode cX6_otherwiseWithout 16 = .ok (.iconst 0, 1) := by decide +kernel
theorem dX6_otherwiseWithout_17 : decode cX6_otherwiseWithout 17 = .ok (.istore_n 3, 1) := by decide +kernel
theorem dX6_otherwiseWithout_18 : decode cX6_otherwiseWithout 18 = .ok (.iload_n 3, 1) := by decide +kernel
theorem dX6_otherwiseWithout_19 : decode cX6_otherwiseWithout 19 = .ok (.aload_n 0, 1) := by decide +kernel
theorem dX6_otherwiseWithout_20 : decode cX6_otherwiseWithout 20 = .ok (.getfield 10, 3) := by decide +kernel
theorem dX6_otherwiseWithout_23 : decode cX6_otherwiseWithout 23 = .ok (.getfield 65, 3) := by decide +kernel
theorem dX6_otherwiseWithout_26 : decode cX6_otherwiseWithout 26 = .ok (.if_icmp .ge 33, 3) := by decide +kernel
theorem dX6_otherwiseWithout_29 : decode cX6_otherwiseWithout 29 = .ok (.aload_n 0, 1) := by decide +kernel
theorem dX6_otherwiseWithout_30 : decode cX6_otherwiseWithout 30 = .ok (.getfield 47, 3) := by decide +kernel
theorem dX6_otherwiseWithout_33 : decode cX6_otherwiseWithout 33 = .ok (.getfield 135, 3) := by decide +kernel
theorem dX6_otherwiseWithout_36 : decode cX6_otherwiseWithout 36 = .ok (.iload_n 3, 1) := by decide +kernel
theorem dX6_otherwiseWithout_37 : decode cX6_otherwiseWithout 37 = .ok (.iaload, 1) := by decide +kernel
theorem dX6_otherwiseWithout_38 : decode cX6_otherwiseWithout 38 = .ok (.aload_n 0, 1) := by decide +kernel
theorem dX6_otherwiseWithout_39 : decode cX6_otherwiseWithout 39 = .ok (.getfield 43, 3) := by decide +kernel
theorem dX6_otherwiseWithout_42 : decode cX6_otherwiseWithout 42 = .ok (.getfield 135, 3) := by decide +kernel
theorem dX6_otherwiseWithout_45 : decode cX6_otherwiseWithout 45 = .ok (.iload_n 3, 1) := by decide +kernel
theorem dX6_otherwiseWithout_46 : decode cX6_otherwiseWithout 46 = .ok (.iaload, 1) := by decide +kernel
theorem dX6_otherwiseWithout_47 : decode cX6_otherwiseWithout 47 = .ok (.if_icmp .eq 6, 3) := by decide +kernel
theorem dX6_otherwiseWithout_50 : decode cX6_otherwiseWithout 50 = .ok (.iinc 2 1, 3) := by decide +kernel
theorem dX6_otherwiseWithout_53 : decode cX6_otherwiseWithout 53 = .ok (.iinc 3 1, 3) := by decide +kernel
theorem dX6_otherwiseWithout_56 : decode cX6_otherwiseWithout 56 = .ok (.goto (-38), 3) := by decide +kernel
theorem dX6_otherwiseWithout_59 : decode cX6_otherwiseWithout 59 = .ok (.iload_n 2, 1) := by decide +kernel
theorem dX6_otherwiseWithout_60 : decode cX6_otherwiseWithout 60 = .ok (.ireturn, 1) := by decide +kernel
theorem dX6_waysThatMatter_0 : decode cX6_waysThatMatter 0 = .ok (.aload_n 0, 1) := by decide +kernel
theorem dX6_waysThatMatter_1 : decode cX6_waysThatMatter 1 = .ok (.invokevirtual 132, 3) := by decide +kernel
theorem dX6_waysThatMatter_4 : decode cX6_waysThatMatter 4 = .ok (.ifCond .ne 5, 3) := by decide +kernel
theorem dX6_waysThatMatter_7 : decode cX6_waysThatMatter 7 = .ok (.iconst (-1), 1) := by decide +kernel
theorem dX6_waysThatMatter_8 : decode cX6_waysThatMatter 8 = .ok (.ireturn, 1) := by decide +kernel
theorem dX6_waysThatMatter_9 : decode cX6_waysThatMatter 9 = .ok (.iconst 0, 1) := by decide +kernel
theorem dX6_waysThatMatter_10 : decode cX6_waysThatMatter 10 = .ok (.istore_n 1, 1) := by decide +kernel
theorem dX6_waysThatMatter_11 : decode cX6_waysThatMatter 11 = .ok (.iconst 0, 1) := by decide +kernel
theorem dX6_waysThatMatter_12 : decode cX6_waysThatMatter 12 = .ok (.istore_n 2, 1) := by decide +kernel
theorem dX6_waysThatMatter_13 : decode cX6_waysThatMatter 13 = .ok (.iload_n 2, 1) := by decide +kernel
theorem dX6_waysThatMatter_14 : decode cX6_waysThatMatter 14 = .ok (.aload_n 0, 1) := by decide +kernel
theorem dX6_waysThatMatter_15 : decode cX6_waysThatMatter 15 = .ok (.getfield 10, 3) := by decide +kernel
theorem dX6_waysThatMatter_18 : decode cX6_waysThatMatter 18 = .ok (.getfield 68, 3) := by decide +kernel
theorem dX6_waysThatMatter_21 : decode cX6_waysThatMatter 21 = .ok (.if_icmp .ge 23, 3) := by decide +kernel
theorem dX6_waysThatMatter_24 : decode cX6_waysThatMatter 24 = .ok (.aload_n 0, 1) := by decide +kernel
theorem dX6_waysThatMatter_25 : decode cX6_waysThatMatter 25 = .ok (.iload_n 2, 1) := by decide +kernel
theorem dX6_waysThatMatter_26 : decode cX6_waysThatMatter 26 = .ok (.invokevirtual 168, 3) := by decide +kernel
theorem dX6_waysThatMatter_29 : decode cX6_waysThatMatter 29 = .ok (.ifCond .le 9, 3) := by decide +kernel
theorem dX6_waysThatMatter_32 : decode cX6_waysThatMatter 32 = .ok (.iload_n 1, 1) := by decide +kernel
theorem dX6_waysThatMatter_33 : decode cX6_waysThatMatter 33 = .ok (.iconst 1, 1) := by decide +kernel
theorem dX6_waysThatMatter_34 : decode cX6_waysThatMatter 34 = .ok (.iload_n 2, 1) := by decide +kernel
theorem dX6_waysThatMatter_35 : decode cX6_waysThatMatter 35 = .ok (.ishl, 1) := by decide +kernel
theorem dX6_waysThatMatter_36 : decode cX6_waysThatMatter 36 = .ok (.ior, 1) := by decide +kernel
theorem dX6_waysThatMatter_37 : decode cX6_waysThatMatter 37 = .ok (.istore_n 1, 1) := by decide +kernel
theorem dX6_waysThatMatter_38 : decode cX6_waysThatMatter 38 = .ok (.iinc 2 1, 3) := by decide +kernel
theorem dX6_waysThatMatter_41 : decode cX6_waysThatMatter 41 = .ok (.goto (-28), 3) := by decide +kernel
theorem dX6_waysThatMatter_44 : decode cX6_waysThatMatter 44 = .ok (.iload_n 1, 1) := by decide +kernel
theorem dX6_waysThatMatter_45 : decode cX6_waysThatMatter 45 = .ok (.ireturn, 1) := by decide +kernel
theorem dX6_rebuiltAt_0 : decode cX6_rebuiltAt 0 = .ok (.aload_n 0, 1) := by decide +kernel
theorem dX6_rebuiltAt_1 : decode cX6_rebuiltAt 1 = .ok (.getfield 53, 3) := by decide +kernel
theorem dX6_rebuiltAt_4 : decode cX6_rebuiltAt 4 = .ok (.aload_n 0, 1) := by decide +kernel
theorem dX6_rebuiltAt_5 : decode cX6_rebuiltAt 5 = .ok (.getfield 10, 3) := by decide +kernel
theorem dX6_rebuiltAt_8 : decode cX6_rebuiltAt 8 = .ok (.invokevirtual 230, 3) := by decide +kernel
theorem dX6_rebuiltAt_11 : decode cX6_rebuiltAt 11 = .ok (.aload_n 0, 1) := by decide +kernel
theorem dX6_rebuiltAt_12 : decode cX6_rebuiltAt 12 = .ok (.getfield 53, 3) := by decide +kernel
theorem dX6_rebuiltAt_15 : decode cX6_rebuiltAt 15 = .ok (.getfield 233, 3) := by decide +kernel
theorem dX6_rebuiltAt_18 : decode cX6_rebuiltAt 18 = .ok (.iload_n 1, 1) := by decide +kernel
theorem dX6_rebuiltAt_19 : decode cX6_rebuiltAt 19 = .ok (.iaload, 1) := by decide +kernel
theorem dX6_rebuiltAt_20 : decode cX6_rebuiltAt 20 = .ok (.ireturn, 1) := by decide +kernel
theorem dX6_isExact_0 : decode cX6_isExact 0 = .ok (.aload_n 0, 1) := by decide +kernel
theorem dX6_isExact_1 : decode cX6_isExact 1 = .ok (.invokevirtual 132, 3) := by decide +kernel
theorem dX6_isExact_4 : decode cX6_isExact 4 = .ok (.ifCond .eq 18, 3) := by decide +kernel
theorem dX6_isExact_7 : decode cX6_isExact 7 = .ok (.aload_n 0, 1) := by decide +kernel
theorem dX6_isExact_8 : decode cX6_isExact 8 = .ok (.getfield 53, 3) := by decide +kernel
theorem dX6_isExact_11 : decode cX6_isExact 11 = .ok (.aload_n 0, 1) := by decide +kernel
theorem dX6_isExact_12 : decode cX6_isExact 12 = .ok (.getfield 10, 3) := by decide +kernel
theorem dX6_isExact_15 : decode cX6_isExact 15 = .ok (.invokevirtual 85, 3) := by decide +kernel
theorem dX6_isExact_18 : decode cX6_isExact 18 = .ok (.iconst (-1), 1) := by decide +kernel
theorem dX6_isExact_19 : decode cX6_isExact 19 = .ok (.if_icmp .eq 5, 3) := by decide +kernel
theorem dX6_isExact_22 : decode cX6_isExact 22 = .ok (.iconst 0, 1) := by decide +kernel
theorem dX6_isExact_23 : decode cX6_isExact 23 = .ok (.ireturn, 1) := by decide +kernel
theorem dX6_isExact_24 : decode cX6_isExact 24 = .ok (.iconst 0, 1) := by decide +kernel
theorem dX6_isExact_25 : decode cX6_isExact 25 = .ok (.istore_n 1, 1) := by decide +kernel
theorem dX6_isExact_26 : decode cX6_isExact 26 = .ok (.iload_n 1, 1) := by decide +kernel
theorem dX6_isExact_27 : decode cX6_isExact 27 = .ok (.aload_n 0, 1) := by decide +kernel
theorem dX6_isExact_28 : decode cX6_isExact 28 = .ok (.getfield 10, 3) := by decide +kernel
theorem dX6_isExact_31 : decode cX6_isExact 31 = .ok (.getfield 65, 3) := by decide +kernel
theorem dX6_isExact_34 : decode cX6_isExact 34 = .ok (.if_icmp .ge 32, 3) := by decide +kernel
theorem dX6_isExact_37 : decode cX6_isExact 37 = .ok (.aload_n 0, 1) := by decide +kernel
theorem dX6_isExact_38 : decode cX6_isExact 38 = .ok (.getfield 53, 3) := by decide +kernel
theorem dX6_isExact_41 : decode cX6_isExact 41 = .ok (.getfield 233, 3) := by decide +kernel
theorem dX6_isExact_44 : decode cX6_isExact 44 = .ok (.iload_n 1, 1) := by decide +kernel
theorem dX6_isExact_45 : decode cX6_isExact 45 = .ok (.iaload, 1) := by decide +kernel
theorem dX6_isExact_46 : decode cX6_isExact 46 = .ok (.aload_n 0, 1) := by decide +kernel
theorem dX6_isExact_47 : decode cX6_isExact 47 = .ok (.getfield 43, 3) := by decide +kernel
theorem dX6_isExact_50 : decode cX6_isExact 50 = .ok (.getfield 135, 3) := by decide +kernel
theorem dX6_isExact_53 : decode cX6_isExact 53 = .ok (.iload_n 1, 1) := by decide +kernel
theorem dX6_isExact_54 : decode cX6_isExact 54 = .ok (.iaload, 1) := by decide +kernel
theorem dX6_isExact_55 : decode cX6_isExact 55 = .ok (.if_icmp .eq 5, 3) := by decide +kernel
theorem dX6_isExact_58 : decode cX6_isExact 58 = .ok (.iconst 0, 1) := by decide +kernel
theorem dX6_isExact_59 : decode cX6_isExact 59 = .ok (.ireturn, 1) := by decide +kernel
theorem dX6_isExact_60 : decode cX6_isExact 60 = .ok (.iinc 1 1, 3) := by decide +kernel
theorem dX6_isExact_63 : decode cX6_isExact 63 = .ok (.goto (-37), 3) := by decide +kernel
theorem dX6_isExact_66 : decode cX6_isExact 66 = .ok (.iconst 1, 1) := by decide +kernel
theorem dX6_isExact_67 : decode cX6_isExact 67 = .ok (.ireturn, 1) := by decide +kernel
theorem dX6_firstWrongEntry_0 : decode cX6_firstWrongEntry 0 = .ok (.aload_n 0, 1) := by decide +kernel
theorem dX6_firstWrongEntry_1 : decode cX6_firstWrongEntry 1 = .ok (.getfield 36, 3) := by decide +kernel
theorem dX6_firstWrongEntry_4 : decode cX6_firstWrongEntry 4 = .ok (.getfield 95, 3) := by decide +kernel
theorem dX6_firstWrongEntry_7 : decode cX6_firstWrongEntry 7 = .ok (.ifCond .ne 5, 3) := by decide +kernel
theorem dX6_firstWrongEntry_10 : decode cX6_firstWrongEntry 10 = .ok (.iconst (-1), 1) := by decide +kernel
theorem dX6_firstWrongEntry_11 : decode cX6_firstWrongEntry 11 = .ok (.ireturn, 1) := by decide +kernel
theorem dX6_firstWrongEntry_12 : decode cX6_firstWrongEntry 12 = .ok (.aload_n 0, 1) := by decide +kernel
theorem dX6_firstWrongEntry_13 : decode cX6_firstWrongEntry 13 = .ok (.invokevirtual 132, 3) := by decide +kernel
theorem dX6_firstWrongEntry_16 : decode cX6_firstWrongEntry 16 = .ok (.ifCond .eq 27, 3) := by decide +kernel
theorem dX6_firstWrongEntry_19 : decode cX6_firstWrongEntry 19 = .ok (.aload_n 0, 1) := by decide +kernel
theorem dX6_firstWrongEntry_20 : decode cX6_firstWrongEntry 20 = .ok (.getfield 36, 3) := by decide +kernel
theorem dX6_firstWrongEntry_23 : decode cX6_firstWrongEntry 23 = .ok (.aload_n 0, 1) := by decide +kernel
theorem dX6_firstWrongEntry_24 : decode cX6_firstWrongEntry 24 = .ok (.getfield 43, 3) := by decide +kernel
theorem dX6_firstWrongEntry_27 : decode cX6_firstWrongEntry 27 = .ok (.getfield 135, 3) := by decide +kernel
theorem dX6_firstWrongEntry_30 : decode cX6_firstWrongEntry 30 = .ok (.aload_n 0, 1) := by decide +kernel
theorem dX6_firstWrongEntry_31 : decode cX6_firstWrongEntry 31 = .ok (.getfield 10, 3) := by decide +kernel
theorem dX6_firstWrongEntry_34 : decode cX6_firstWrongEntry 34 = .ok (.getfield 65, 3) := by decide +kernel
theorem dX6_firstWrongEntry_37 : decode cX6_firstWrongEntry 37 = .ok (.invokevirtual 236, 3) := by decide +kernel
theorem dX6_firstWrongEntry_40 : decode cX6_firstWrongEntry 40 = .ok (.goto 4, 3) := by decide +kernel
theorem dX6_firstWrongEntry_43 : decode cX6_firstWrongEntry 43 = .ok (.iconst 0, 1) := by decide +kernel
theorem dX6_firstWrongEntry_44 : decode cX6_firstWrongEntry 44 = .ok (.ireturn, 1) := by decide +kernel
theorem dX6_addDrawnWay_0 : decode cX6_addDrawnWay 0 = .ok (.aload_n 0, 1) := by decide +kernel
theorem dX6_addDrawnWay_1 : decode cX6_addDrawnWay 1 = .ok (.aload_n 0, 1) := by decide +kernel
theorem dX6_addDrawnWay_2 : decode cX6_addDrawnWay 2 = .ok (.getfield 10, 3) := by decide +kernel
theorem dX6_addDrawnWay_5 : decode cX6_addDrawnWay 5 = .ok (.getfield 65, 3) := by decide +kernel
theorem dX6_addDrawnWay_8 : decode cX6_addDrawnWay 8 = .ok (.invokevirtual 240, 3) := by decide +kernel
theorem dX6_addDrawnWay_11 : decode cX6_addDrawnWay 11 = .ok (.istore_n 1, 1) := by decide +kernel
theorem dX6_addDrawnWay_12 : decode cX6_addDrawnWay 12 = .ok (.aload_n 0, 1) := by decide +kernel
theorem dX6_addDrawnWay_13 : decode cX6_addDrawnWay 13 = .ok (.aload_n 0, 1) := by decide +kernel
theorem dX6_addDrawnWay_14 : decode cX6_addDrawnWay 14 = .ok (.getfield 10, 3) := by decide +kernel
theorem dX6_addDrawnWay_17 : decode cX6_addDrawnWay 17 = .ok (.getfield 65, 3) := by decide +kernel
theorem dX6_addDrawnWay_20 : decode cX6_addDrawnWay 20 = .ok (.invokevirtual 240, 3) := by decide +kernel
theorem dX6_addDrawnWay_23 : decode cX6_addDrawnWay 23 = .ok (.istore_n 2, 1) := by decide +kernel
theorem dX6_addDrawnWay_24 : decode cX6_addDrawnWay 24 = .ok (.aload_n 0, 1) := by decide +kernel
theorem dX6_addDrawnWay_25 : decode cX6_addDrawnWay 25 = .ok (.getfield 10, 3) := by decide +kernel
theorem dX6_addDrawnWay_28 : decode cX6_addDrawnWay 28 = .ok (.iload_n 1, 1) := by decide +kernel
theorem dX6_addDrawnWay_29 : decode cX6_addDrawnWay 29 = .ok (.iload_n 2, 1) := by decide +kernel
theorem dX6_addDrawnWay_30 : decode cX6_addDrawnWay 30 = .ok (.invokevirtual 196, 3) := by decide +kernel
theorem dX6_addDrawnWay_33 : decode cX6_addDrawnWay 33 = .ok (.istore_n 3, 1) := by decide +kernel
theorem dX6_addDrawnWay_34 : decode cX6_addDrawnWay 34 = .ok (.aload_n 0, 1) := by decide +kernel
theorem dX6_addDrawnWay_35 : decode cX6_addDrawnWay 35 = .ok (.getfield 10, 3) := by decide +kernel
theorem dX6_addDrawnWay_38 : decode cX6_addDrawnWay 38 = .ok (.getfield 162, 3) := by decide +kernel
theorem dX6_addDrawnWay_41 : decode cX6_addDrawnWay 41 = .ok (.iload_n 3, 1) := by decide +kernel
theorem dX6_addDrawnWay_42 : decode cX6_addDrawnWay 42 = .ok (.aload_n 0, 1) := by decide +kernel
theorem dX6_addDrawnWay_43 : decode cX6_addDrawnWay 43 = .ok (.aload_n 0, 1) := by decide +kernel
theorem dX6_addDrawnWay_44 : decode cX6_addDrawnWay 44 = .ok (.getfield 10, 3) := by decide +kernel
theorem dX6_addDrawnWay_47 : decode cX6_addDrawnWay 47 = .ok (.getfield 61, 3) := by decide +kernel
theorem dX6_addDrawnWay_50 : decode cX6_addDrawnWay 50 = .ok (.invokevirtual 240, 3) := by decide +kernel
theorem dX6_addDrawnWay_53 : decode cX6_addDrawnWay 53 = .ok (.iastore, 1) := by decide +kernel
theorem dX6_addDrawnWay_54 : decode cX6_addDrawnWay 54 = .ok (.aload_n 0, 1) := by decide +kernel
theorem dX6_addDrawnWay_55 : decode cX6_addDrawnWay 55 = .ok (.getfield 10, 3) := by decide +kernel
theorem dX6_addDrawnWay_58 : decode cX6_addDrawnWay 58 = .ok (.getfield 156, 3) := by decide +kernel
theorem dX6_addDrawnWay_61 : decode cX6_addDrawnWay 61 = .ok (.iload_n 3, 1) := by decide +kernel
theorem dX6_addDrawnWay_62 : decode cX6_addDrawnWay 62 = .ok (.iconst 1, 1) := by decide +kernel
theorem dX6_addDrawnWay_63 : decode cX6_addDrawnWay 63 = .ok (.aload_n 0, 1) := by decide +kernel
theorem dX6_addDrawnWay_64 : decode cX6_addDrawnWay 64 = .ok (.bipush 8, 2) := by decide +kernel
theorem dX6_addDrawnWay_66 : decode cX6_addDrawnWay 66 = .ok (.invokevirtual 240, 3) := by decide +kernel
theorem dX6_addDrawnWay_69 : decode cX6_addDrawnWay 69 = .ok (.ishl, 1) := by decide +kernel
theorem dX6_addDrawnWay_70 : decode cX6_addDrawnWay 70 = .ok (.iastore, 1) := by decide +kernel
theorem dX6_addDrawnWay_71 : decode cX6_addDrawnWay 71 = .ok (.aload_n 0, 1) := by decide +kernel
theorem dX6_addDrawnWay_72 : decode cX6_addDrawnWay 72 = .ok (.getfield 10, 3) := by decide +kernel
theorem dX6_addDrawnWay_75 : decode cX6_addDrawnWay 75 = .ok (.getfield 159, 3) := by decide +kernel
theorem dX6_addDrawnWay_78 : decode cX6_addDrawnWay 78 = .ok (.iload_n 3, 1) := by decide +kernel
theorem dX6_addDrawnWay_79 : decode cX6_addDrawnWay 79 = .ok (.iconst 1, 1) := by decide +kernel
theorem dX6_addDrawnWay_80 : decode cX6_addDrawnWay 80 = .ok (.aload_n 0, 1) := by decide +kernel
theorem dX6_addDrawnWay_81 : decode cX6_addDrawnWay 81 = .ok (.bipush 8, 2) := by decide +kernel
theorem dX6_addDrawnWay_83 : decode cX6_addDrawnWay 83 = .ok (.invokevirtual 240, 3) := by decide +kernel
theorem dX6_addDrawnWay_86 : decode cX6_addDrawnWay 86 = .ok (.ishl, 1) := by decide +kernel
theorem dX6_addDrawnWay_87 : decode cX6_addDrawnWay 87 = .ok (.iastore, 1) := by decide +kernel
theorem dX6_addDrawnWay_88 : decode cX6_addDrawnWay 88 = .ok (.return_, 1) := by decide +kernel
theorem dX6_draw_0 : decode cX6_draw 0 = .ok (.aload_n 0, 1) := by decide +kernel
theorem dX6_draw_1 : decode cX6_draw 1 = .ok (.aload_n 0, 1) := by decide +kernel
theorem dX6_draw_2 : decode cX6_draw 2 = .ok (.getfield 215, 3) := by decide +kernel
theorem dX6_draw_5 : decode cX6_draw 5 = .ok (.i2l, 1) := by decide +kernel
theorem dX6_draw_6 : decode cX6_draw 6 = .ok (.ldc2_w 243, 3) := by decide +kernel
theorem dX6_draw_9 : decode cX6_draw 9 = .ok (.lmul, 1) := by decide +kernel
theorem dX6_draw_10 : decode cX6_draw 10 = .ok (.ldc2_w 245, 3) := by decide +kernel
theorem dX6_draw_13 : decode cX6_draw 13 = .ok (.ladd, 1) := by decide +kernel
theorem dX6_draw_14 : decode cX6_draw 14 = .ok (.ldc2_w 247, 3) := by decide +kernel
theorem dX6_draw_17 : decode cX6_draw 17 = .ok (.lrem, 1) := by decide +kernel
theorem dX6_draw_18 : decode cX6_draw 18 = .ok (.l2i, 1) := by decide +kernel
theorem dX6_draw_19 : decode cX6_draw 19 = .ok (.putfield 215, 3) := by decide +kernel
theorem dX6_draw_22 : decode cX6_draw 22 = .ok (.iload_n 1, 1) := by decide +kernel
theorem dX6_draw_23 : decode cX6_draw 23 = .ok (.ifCond .le 15, 3) := by decide +kernel
theorem dX6_draw_26 : decode cX6_draw 26 = .ok (.aload_n 0, 1) := by decide +kernel
theorem dX6_draw_27 : decode cX6_draw 27 = .ok (.getfield 215, 3) := by decide +kernel
theorem dX6_draw_30 : decode cX6_draw 30 = .ok (.ldc 249, 2) := by decide +kernel
theorem dX6_draw_32 : decode cX6_draw 32 = .ok (.idiv, 1) := by decide +kernel
theorem dX6_draw_33 : decode cX6_draw 33 = .ok (.iload_n 1, 1) := by decide +kernel
theorem dX6_draw_34 : decode cX6_draw 34 = .ok (.irem, 1) := by decide +kernel
theorem dX6_draw_35 : decode cX6_draw 35 = .ok (.goto 4, 3) := by decide +kernel
theorem dX6_draw_38 : decode cX6_draw 38 = .ok (.iconst 0, 1) := by decide +kernel
theorem dX6_draw_39 : decode cX6_draw 39 = .ok (.ireturn, 1) := by decide +kernel
