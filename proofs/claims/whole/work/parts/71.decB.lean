theorem dX1_at_0 : decode cX1_at 0 = .ok (.iload_n 1, 1) := by decide +kernel
theorem dX1_at_1 : decode cX1_at 1 = .ok (.ifCond .lt 21, 3) := by decide +kernel
theorem dX1_at_4 : decode cX1_at 4 = .ok (.iload_n 1, 1) := by decide +kernel
theorem dX1_at_5 : decode cX1_at 5 = .ok (.aload_n 0, 1) := by decide +kernel
theorem dX1_at_6 : decode cX1_at 6 = .ok (.getfield 13, 3) := by decide +kernel
theorem dX1_at_9 : decode cX1_at 9 = .ok (.arraylength, 1) := by decide +kernel
theorem dX1_at_10 : decode cX1_at 10 = .ok (.if_icmp .ge 12, 3) := by decide +kernel
theorem dX1_at_13 : decode cX1_at 13 = .ok (.aload_n 0, 1) := by decide +kernel
theorem dX1_at_14 : decode cX1_at 14 = .ok (.getfield 13, 3) := by decide +kernel
theorem dX1_at_17 : decode cX1_at 17 = .ok (.iload_n 1, 1) := by decide +kernel
theorem dX1_at_18 : decode cX1_at 18 = .ok (.iaload, 1) := by decide +kernel
theorem dX1_at_19 : decode cX1_at 19 = .ok (.goto 4, 3) := by decide +kernel
theorem dX1_at_22 : decode cX1_at 22 = .ok (.iconst 0, 1) := by decide +kernel
theorem dX1_at_23 : decode cX1_at 23 = .ok (.ireturn, 1) := by decide +kernel
theorem dX1_put_0 : decode cX1_put 0 = .ok (.iload_n 1, 1) := by decide +kernel
theorem dX1_put_1 : decode cX1_put 1 = .ok (.ifCond .lt 19, 3) := by decide +kernel
theorem dX1_put_4 : decode cX1_put 4 = .ok (.iload_n 1, 1) := by decide +kernel
theorem dX1_put_5 : decode cX1_put 5 = .ok (.aload_n 0, 1) := by decide +kernel
theorem dX1_put_6 : decode cX1_put 6 = .ok (.getfield 13, 3) := by decide +kernel
theorem dX1_put_9 : decode cX1_put 9 = .ok (.arraylength, 1) := by decide +kernel
theorem dX1_put_10 : decode cX1_put 10 = .ok (.if_icmp .ge 10, 3) := by decide +kernel
theorem dX1_put_13 : decode cX1_put 13 = .ok (.aload_n 0, 1) := by decide +kernel
theorem dX1_put_14 : decode cX1_put 14 = .ok (.getfield 13, 3) := by decide +kernel
theorem dX1_put_17 : decode cX1_put 17 = .ok (.iload_n 1, 1) := by decide +kernel
theorem dX1_put_18 : decode cX1_put 18 = .ok (.iload_n 2, 1) := by decide +kernel
theorem dX1_put_19 : decode cX1_put 19 = .ok (.iastore, 1) := by decide +kernel
theorem dX1_put_20 : decode cX1_put 20 = .ok (.return_, 1) := by decide +kernel
theorem dX1_addBits_0 : decode cX1_addBits 0 = .ok (.aload_n 0, 1) := by decide +kernel
theorem dX1_addBits_1 : decode cX1_addBits 1 = .ok (.iload_n 1, 1) := by decide +kernel
theorem dX1_addBits_2 : decode cX1_addBits 2 = .ok (.aload_n 0, 1) := by decide +kernel
theorem dX1_addBits_3 : decode cX1_addBits 3 = .ok (.iload_n 1, 1) := by decide +kernel
theorem dX1_addBits_4 : decode cX1_addBits 4 = .ok (.invokevirtual 19, 3) := by decide +kernel
theorem dX1_addBits_7 : decode cX1_addBits 7 = .ok (.iload_n 2, 1) := by decide +kernel
theorem dX1_addBits_8 : decode cX1_addBits 8 = .ok (.ior, 1) := by decide +kernel
theorem dX1_addBits_9 : decode cX1_addBits 9 = .ok (.invokevirtual 23, 3) := by decide +kernel
theorem dX1_addBits_12 : decode cX1_addBits 12 = .ok (.return_, 1) := by decide +kernel
theorem dX1_grow_0 : decode cX1_grow 0 = .ok (.iload_n 1, 1) := by decide +kernel
theorem dX1_grow_1 : decode cX1_grow 1 = .ok (.aload_n 0, 1) := by decide +kernel
theorem dX1_grow_2 : decode cX1_grow 2 = .ok (.getfield 13, 3) := by decide +kernel
theorem dX1_grow_5 : decode cX1_grow 5 = .ok (.arraylength, 1) := by decide +kernel
theorem dX1_grow_6 : decode cX1_grow 6 = .ok (.if_icmp .le 15, 3) := by decide +kernel
theorem dX1_grow_9 : decode cX1_grow 9 = .ok (.aload_n 0, 1) := by decide +kernel
theorem dX1_grow_10 : decode cX1_grow 10 = .ok (.aload_n 0, 1) := by decide +kernel
theorem dX1_grow_11 : decode cX1_grow 11 = .ok (.getfield 13, 3) := by decide +kernel
theorem dX1_grow_14 : decode cX1_grow 14 = .ok (.iload_n 1, 1) := by decide +kernel
theorem dX1_grow_15 : decode cX1_grow 15 = .ok (.invokestatic 27, 3) := by decide +kernel
theorem dX1_grow_18 : decode cX1_grow 18 = .ok (.putfield 13, 3) := by decide +kernel
theorem dX1_grow_21 : decode cX1_grow 21 = .ok (.return_, 1) := by decide +kernel
theorem dJ7_rangeCheck_23922_0 : decode cJ7_rangeCheck_23922 0 = .ok (.iload_n 1, 1) := by decide +kernel
theorem dJ7_rangeCheck_23922_1 : decode cJ7_rangeCheck_23922 1 = .ok (.iload_n 2, 1) := by decide +kernel
theorem dJ7_rangeCheck_23922_2 : decode cJ7_rangeCheck_23922 2 = .ok (.if_icmp .le 44, 3) := by decide +kernel
theorem dJ7_rangeCheck_23922_5 : decode cJ7_rangeCheck_23922 5 = .ok (.new 43, 3) := by decide +kernel
theorem dJ7_rangeCheck_23922_8 : decode cJ7_rangeCheck_23922 8 = .ok (.dup, 1) := by decide +kernel
theorem dJ7_rangeCheck_23922_9 : decode cJ7_rangeCheck_23922 9 = .ok (.new 45, 3) := by decide +kernel
theorem dJ7_rangeCheck_23922_12 : decode cJ7_rangeCheck_23922 12 = .ok (.dup, 1) := by decide +kernel
theorem dJ7_rangeCheck_23922_13 : decode cJ7_rangeCheck_23922 13 = .ok (.invokespecial 47, 3) := by decide +kernel
theorem dJ7_rangeCheck_23922_16 : decode cJ7_rangeCheck_23922 16 = .ok (.ldc 48, 2) := by decide +kernel
theorem dJ7_rangeCheck_23922_18 : decode cJ7_rangeCheck_23922 18 = .ok (.invokevirtual 50, 3) := by decide +kernel
theorem dJ7_rangeCheck_23922_21 : decode cJ7_rangeCheck_23922 21 = .ok (.iload_n 1, 1) := by decide +kernel
theorem dJ7_rangeCheck_23922_22 : decode cJ7_rangeCheck_23922 22 = .ok (.invokevirtual 54, 3) := by decide +kernel
theorem dJ7_rangeCheck_23922_25 : decode cJ7_rangeCheck_23922 25 = .ok (.ldc 57, 2) := by decide +kernel
theorem dJ7_rangeCheck_23922_27 : decode cJ7_rangeCheck_23922 27 = .ok (.invokevirtual 50, 3) := by decide +kernel
theorem dJ7_rangeCheck_23922_30 : decode cJ7_rangeCheck_23922 30 = .ok (.iload_n 2, 1) := by decide +kernel
theorem dJ7_rangeCheck_23922_31 : decode cJ7_rangeCheck_23922 31 = .ok (.invokevirtual 54, 3) := by decide +kernel
theorem dJ7_rangeCheck_23922_34 : decode cJ7_rangeCheck_23922 34 = .ok (.ldc 59, 2) := by decide +kernel
theorem dJ7_rangeCheck_23922_36 : decode cJ7_rangeCheck_23922 36 = .ok (.invokevirtual 50, 3) := by decide +kernel
theorem dJ7_rangeCheck_23922_39 : decode cJ7_rangeCheck_23922 39 = .ok (.invokevirtual 61, 3) := by decide +kernel
theorem dJ7_rangeCheck_23922_42 : decode cJ7_rangeCheck_23922 42 = .ok (.invokespecial 65, 3) := by decide +kernel
theorem dJ7_rangeCheck_23922_45 : decode cJ7_rangeCheck_23922 45 = .ok (.athrow, 1) := by decide +kernel
theorem dJ7_rangeCheck_23922_46 : decode cJ7_rangeCheck_23922 46 = .ok (.iload_n 1, 1) := by decide +kernel
theorem dJ7_rangeCheck_23922_47 : decode cJ7_rangeCheck_23922 47 = .ok (.ifCond .ge 12, 3) := by decide +kernel
theorem dJ7_rangeCheck_23922_50 : decode cJ7_rangeCheck_23922 50 = .ok (.new 68, 3) := by decide +kernel
theorem dJ7_rangeCheck_23922_53 : decode cJ7_rangeCheck_23922 53 = .ok (.dup, 1) := by decide +kernel
theorem dJ7_rangeCheck_23922_54 : decode cJ7_rangeCheck_23922 54 = .ok (.iload_n 1, 1) := by decide +kernel
theorem dJ7_rangeCheck_23922_55 : decode cJ7_rangeCheck_23922 55 = .ok (.invokespecial 70, 3) := by decide +kernel
theorem dJ7_rangeCheck_23922_58 : decode cJ7_rangeCheck_23922 58 = .ok (.athrow, 1) := by decide +kernel
theorem dJ7_rangeCheck_23922_59 : decode cJ7_rangeCheck_23922 59 = .ok (.iload_n 2, 1) := by decide +kernel
theorem dJ7_rangeCheck_23922_60 : decode cJ7_rangeCheck_23922 60 = .ok (.iload_n 0, 1) := by decide +kernel
theorem dJ7_rangeCheck_23922_61 : decode cJ7_rangeCheck_23922 61 = .ok (.if_icmp .le 12, 3) := by decide +kernel
theorem dJ7_rangeCheck_23922_64 : decode cJ7_rangeCheck_23922 64 = .ok (.new 68, 3) := by decide +kernel
theorem dJ7_rangeCheck_23922_67 : decode cJ7_rangeCheck_23922 67 = .ok (.dup, 1) := by decide +kernel
theorem dJ7_rangeCheck_23922_68 : decode cJ7_rangeCheck_23922 68 = .ok (.iload_n 2, 1) := by decide +kernel
theorem dJ7_rangeCheck_23922_69 : decode cJ7_rangeCheck_23922 69 = .ok (.invokespecial 70, 3) := by decide +kernel
theorem dJ7_rangeCheck_23922_72 : decode cJ7_rangeCheck_23922 72 = .ok (.athrow, 1) := by decide +kernel
theorem dJ7_rangeCheck_23922_73 : decode cJ7_rangeCheck_23922 73 = .ok (.return_, 1) := by decide +kernel
theorem dJ7_fill_fda19_0 : decode cJ7_fill_fda19 0 = .ok (.aload_n 0, 1) := by decide +kernel
theorem dJ7_fill_fda19_1 : decode cJ7_fill_fda19 1 = .ok (.arraylength, 1) := by decide +kernel
theorem dJ7_fill_fda19_2 : decode cJ7_fill_fda19 2 = .ok (.iload_n 1, 1) := by decide +kernel
theorem dJ7_fill_fda19_3 : decode cJ7_fill_fda19 3 = .ok (.iload_n 2, 1) := by decide +kernel
theorem dJ7_fill_fda19_4 : decode cJ7_fill_fda19 4 = .ok (.invokestatic 13, 3) := by decide +kernel
theorem dJ7_fill_fda19_7 : decode cJ7_fill_fda19 7 = .ok (.iload_n 1, 1) := by decide +kernel
theorem dJ7_fill_fda19_8 : decode cJ7_fill_fda19 8 = .ok (.istore 4, 2) := by decide +kernel
theorem dJ7_fill_fda19_10 : decode cJ7_fill_fda19 10 = .ok (.iload 4, 2) := by decide +kernel
theorem dJ7_fill_fda19_12 : decode cJ7_fill_fda19 12 = .ok (.iload_n 2, 1) := by decide +kernel
theorem dJ7_fill_fda19_13 : decode cJ7_fill_fda19 13 = .ok (.if_icmp .ge 14, 3) := by decide +kernel
theorem dJ7_fill_fda19_16 : decode cJ7_fill_fda19 16 = .ok (.aload_n 0, 1) := by decide +kernel
theorem dJ7_fill_fda19_17 : decode cJ7_fill_fda19 17 = .ok (.iload 4, 2) := by decide +kernel
theorem dJ7_fill_fda19_19 : decode cJ7_fill_fda19 19 = .ok (.iload_n 3, 1) := by decide +kernel
theorem dJ7_fill_fda19_20 : decode cJ7_fill_fda19 20 = .ok (.iastore, 1) := by decide +kernel
theorem dJ7_fill_fda19_21 : decode cJ7_fill_fda19 21 = .ok (.iinc 4 1, 3) := by decide +kernel
theorem dJ7_fill_fda19_24 : decode cJ7_fill_fda19 24 = .ok (.goto (-14), 3) := by decide +kernel
theorem dJ7_fill_fda19_27 : decode cJ7_fill_fda19 27 = .ok (.return_, 1) := by decide +kernel
theorem dX1_fill_0 : decode cX1_fill 0 = .ok (.aload_n 0, 1) := by decide +kernel
theorem dX1_fill_1 : decode cX1_fill 1 = .ok (.getfield 13, 3) := by decide +kernel
theorem dX1_fill_4 : decode cX1_fill 4 = .ok (.iconst 0, 1) := by decide +kernel
theorem dX1_fill_5 : decode cX1_fill 5 = .ok (.iconst 0, 1) := by decide +kernel
theorem dX1_fill_6 : decode cX1_fill 6 = .ok (.iload_n 2, 1) := by decide +kernel
theorem dX1_fill_7 : decode cX1_fill 7 = .ok (.aload_n 0, 1) := by decide +kernel
theorem dX1_fill_8 : decode cX1_fill 8 = .ok (.getfield 13, 3) := by decide +kernel
theorem dX1_fill_11 : decode cX1_fill 11 = .ok (.arraylength, 1) := by decide +kernel
theorem dX1_fill_12 : decode cX1_fill 12 = .ok (.invokestatic 33, 3) := by decide +kernel
theorem dX1_fill_15 : decode cX1_fill 15 = .ok (.invokestatic 7, 3) := by decide +kernel
theorem dX1_fill_18 : decode cX1_fill 18 = .ok (.iload_n 1, 1) := by decide +kernel
theorem dX1_fill_19 : decode cX1_fill 19 = .ok (.invokestatic 36, 3) := by decide +kernel
theorem dX1_fill_22 : decode cX1_fill 22 = .ok (.return_, 1) := by decide +kernel
theorem dX1_become_0 : decode cX1_become 0 = .ok (.aload_n 1, 1) := by decide +kernel
theorem dX1_become_1 : decode cX1_become 1 = .ok (.ifnonnull 4, 3) := by decide +kernel
theorem dX1_become_4 : decode cX1_become 4 = .ok (.return_, 1) := by decide +kernel
theorem dX1_become_5 : decode cX1_become 5 = .ok (.iconst 0, 1) := by decide +kernel
theorem dX1_become_6 : decode cX1_become 6 = .ok (.iload_n 2, 1) := by decide +kernel
theorem dX1_become_7 : decode cX1_become 7 = .ok (.aload_n 1, 1) := by decide +kernel
theorem dX1_become_8 : decode cX1_become 8 = .ok (.getfield 13, 3) := by decide +kernel
theorem dX1_become_11 : decode cX1_become 11 = .ok (.arraylength, 1) := by decide +kernel
theorem dX1_become_12 : decode cX1_become 12 = .ok (.invokestatic 33, 3) := by decide +kernel
theorem dX1_become_15 : decode cX1_become 15 = .ok (.invokestatic 7, 3) := by decide +kernel
theorem dX1_become_18 : decode cX1_become 18 = .ok (.istore_n 3, 1) := by decide +kernel
theorem dX1_become_19 : decode cX1_become 19 = .ok (.aload_n 0, 1) := by decide +kernel
theorem dX1_become_20 : decode cX1_become 20 = .ok (.iload_n 3, 1) := by decide +kernel
theorem dX1_become_21 : decode cX1_become 21 = .ok (.invokevirtual 40, 3) := by decide +kernel
theorem dX1_become_24 : decode cX1_become 24 = .ok (.aload_n 1, 1) := by decide +kernel
theorem dX1_become_25 : decode cX1_become 25 = .ok (.getfield 13, 3) := by decide +kernel
theorem dX1_become_28 : decode cX1_become 28 = .ok (.iconst 0, 1) := by decide +kernel
theorem dX1_become_29 : decode cX1_become 29 = .ok (.aload_n 0, 1) := by decide +kernel
theorem dX1_become_30 : decode cX1_become 30 = .ok (.getfield 13, 3) := by decide +kernel
theorem dX1_become_33 : decode cX1_become 33 = .ok (.iconst 0, 1) := by decide +kernel
theorem dX1_become_34 : decode cX1_become 34 = .ok (.iload_n 3, 1) := by decide +kernel
theorem dX1_become_35 : decode cX1_become 35 = .ok (.invokestatic 44, 3) := by decide +kernel
theorem dX1_become_38 : decode cX1_become 38 = .ok (.return_, 1) := by decide +kernel
theorem dX2_lines_0 : decode cX2_lines 0 = .ok (.aload_n 0, 1) := by decide +kernel
theorem dX2_lines_1 : decode cX2_lines 1 = .ok (.getfield 13, 3) := by decide +kernel
theorem dX2_lines_4 : decode cX2_lines 4 = .ok (.ireturn, 1) := by decide +kernel
theorem dX2_joined_0 : decode cX2_joined 0 = .ok (.iload_n 0, 1) := by decide +kernel
theorem dX2_joined_1 : decode cX2_joined 1 = .ok (.tableswitch 65 2000 2004 #[35, 39, 50, 65, 61], 35) := by decide +kernel
theorem dX2_joined_36 : decode cX2_joined 36 = .ok (.iload_n 1, 1) := by decide +kernel
theorem dX2_joined_37 : decode cX2_joined 37 = .ok (.iload_n 2, 1) := by decide +kernel
theorem dX2_joined_38 : decode cX2_joined 38 = .ok (.iadd, 1) := by decide +kernel
theorem dX2_joined_39 : decode cX2_joined 39 = .ok (.ireturn, 1) := by decide +kernel
theorem dX2_joined_40 : decode cX2_joined 40 = .ok (.iload_n 1, 1) := by decide +kernel
theorem dX2_joined_41 : decode cX2_joined 41 = .ok (.iload_n 2, 1) := by decide +kernel
theorem dX2_joined_42 : decode cX2_joined 42 = .ok (.if_icmp .ge 7, 3) := by decide +kernel
theorem dX2_joined_45 : decode cX2_joined 45 = .ok (.iconst 1, 1) := by decide +kernel
theorem dX2_joined_46 : decode cX2_joined 46 = .ok (.goto 4, 3) := by decide +kernel
theorem dX2_joined_49 : decode cX2_joined 49 = .ok (.iconst 0, 1) := by decide +kernel
theorem dX2_joined_50 : decode cX2_joined 50 = .ok (.ireturn, 1) := by decide +kernel
theorem dX2_joined_51 : decode cX2_joined 51 = .ok (.iload_n 1, 1) := by decide +kernel
theorem dX2_joined_52 : decode cX2_joined 52 = .ok (.iload_n 2, 1) := by decide +kernel
theorem dX2_joined_53 : decode cX2_joined 53 = .ok (.if_icmp .le 7, 3) := by decide +kernel
theorem dX2_joined_56 : decode cX2_joined 56 = .ok (.iconst 1, 1) := by decide +kernel
theorem dX2_joined_57 : decode cX2_joined 57 = .ok (.goto 4, 3) := by decide +kernel
theorem dX2_joined_60 : decode cX2_joined 60 = .ok (.iconst 0, 1) := by decide +kernel
theorem dX2_joined_61 : decode cX2_joined 61 = .ok (.ireturn, 1) := by decide +kernel
theorem dX2_joined_62 : decode cX2_joined 62 = .ok (.iload_n 1, 1) := by decide +kernel
theorem dX2_joined_63 : decode cX2_joined 63 = .ok (.iload_n 2, 1) := by decide +kernel
theorem dX2_joined_64 : decode cX2_joined 64 = .ok (.iand, 1) := by decide +kernel
theorem dX2_joined_65 : decode cX2_joined 65 = .ok (.ireturn, 1) := by decide +kernel
theorem dX2_joined_66 : decode cX2_joined 66 = .ok (.iload_n 1, 1) := by decide +kernel
theorem dX2_joined_67 : decode cX2_joined 67 = .ok (.iload_n 2, 1) := by decide +kernel
theorem dX2_joined_68 : decode cX2_joined 68 = .ok (.ior, 1) := by decide +kernel
theorem dX2_joined_69 : decode cX2_joined 69 = .ok (.ireturn, 1) := by decide +kernel
theorem dX2_total_0 : decode cX2_total 0 = .ok (.iconst 0, 1) := by decide +kernel
theorem dX2_total_1 : decode cX2_total 1 = .ok (.istore_n 3, 1) := by decide +kernel
theorem dX2_total_2 : decode cX2_total 2 = .ok (.iconst 0, 1) := by decide +kernel
theorem dX2_total_3 : decode cX2_total 3 = .ok (.istore 4, 2) := by decide +kernel
theorem dX2_total_5 : decode cX2_total 5 = .ok (.iconst 0, 1) := by decide +kernel
theorem dX2_total_6 : decode cX2_total 6 = .ok (.istore 5, 2) := by decide +kernel
theorem dX2_total_8 : decode cX2_total 8 = .ok (.iload 5, 2) := by decide +kernel
theorem dX2_total_10 : decode cX2_total 10 = .ok (.aload_n 0, 1) := by decide +kernel
theorem dX2_total_11 : decode cX2_total 11 = .ok (.getfield 7, 3) := by decide +kernel
theorem dX2_total_14 : decode cX2_total 14 = .ok (.arraylength, 1) := by decide +kernel
theorem dX2_total_15 : decode cX2_total 15 = .ok (.if_icmp .ge 168, 3) := by decide +kernel
theorem dX2_total_18 : decode cX2_total 18 = .ok (.aload_n 0, 1) := by decide +kernel
theorem dX2_total_19 : decode cX2_total 19 = .ok (.getfield 7, 3) := by decide +kernel
theorem dX2_total_22 : decode cX2_total 22 = .ok (.iload 5, 2) := by decide +kernel
theorem dX2_total_24 : decode cX2_total 24 = .ok (.iaload, 1) := by decide +kernel
theorem dX2_total_25 : decode cX2_total 25 = .ok (.istore 6, 2) := by decide +kernel
theorem dX2_total_27 : decode cX2_total 27 = .ok (.iload 6, 2) := by decide +kernel
theorem dX2_total_29 : decode cX2_total 29 = .ok (.sipush 1000, 3) := by decide +kernel
theorem dX2_total_32 : decode cX2_total 32 = .ok (.if_icmp .ge 17, 3) := by decide +kernel
theorem dX2_total_35 : decode cX2_total 35 = .ok (.aload_n 2, 1) := by decide +kernel
theorem dX2_total_36 : decode cX2_total 36 = .ok (.iload 4, 2) := by decide +kernel
theorem dX2_total_38 : decode cX2_total 38 = .ok (.iload 6, 2) := by decide +kernel
theorem dX2_total_40 : decode cX2_total 40 = .ok (.invokevirtual 17, 3) := by decide +kernel
theorem dX2_total_43 : decode cX2_total 43 = .ok (.iinc 4 1, 3) := by decide +kernel
theorem dX2_total_46 : decode cX2_total 46 = .ok (.goto 131, 3) := by decide +kernel
theorem dX2_total_49 : decode cX2_total 49 = .ok (.iload 6, 2) := by decide +kernel
theorem dX2_total_51 : decode cX2_total 51 = .ok (.sipush 2000, 3) := by decide +kernel
theorem dX2_total_54 : decode cX2_total 54 = .ok (.if_icmp .ge 25, 3) := by decide +kernel
theorem dX2_total_57 : decode cX2_total 57 = .ok (.aload_n 2, 1) := by decide +kernel
theorem dX2_total_58 : decode cX2_total 58 = .ok (.iload 4, 2) := by decide +kernel
theorem dX2_total_60 : decode cX2_total 60 = .ok (.aload_n 1, 1) := by decide +kernel
theorem dX2_total_61 : decode cX2_total 61 = .ok (.iload 6, 2) := by decide +kernel
theorem dX2_total_63 : decode cX2_total 63 = .ok (.sipush 1000, 3) := by decide +kernel
theorem dX2_total_66 : decode cX2_total 66 = .ok (.isub, 1) := by decide +kernel
theorem dX2_total_67 : decode cX2_total 67 = .ok (.invokevirtual 23, 3) := by decide +kernel
theorem dX2_total_70 : decode cX2_total 70 = .ok (.invokevirtual 17, 3) := by decide +kernel
theorem dX2_total_73 : decode cX2_total 73 = .ok (.iinc 4 1, 3) := by decide +kernel
theorem dX2_total_76 : decode cX2_total 76 = .ok (.goto 101, 3) := by decide +kernel
theorem dX2_total_79 : decode cX2_total 79 = .ok (.iload 6, 2) := by decide +kernel
theorem dX2_total_81 : decode cX2_total 81 = .ok (.sipush 2003, 3) := by decide +kernel
theorem dX2_total_84 : decode cX2_total 84 = .ok (.if_icmp .ne 24, 3) := by decide +kernel
theorem dX2_total_87 : decode cX2_total 87 = .ok (.aload_n 2, 1) := by decide +kernel
theorem dX2_total_88 : decode cX2_total 88 = .ok (.iload 4, 2) := by decide +kernel
theorem dX2_total_90 : decode cX2_total 90 = .ok (.iconst 1, 1) := by decide +kernel
theorem dX2_total_91 : decode cX2_total 91 = .ok (.isub, 1) := by decide +kernel
theorem dX2_total_92 : decode cX2_total 92 = .ok (.iconst 1, 1) := by decide +kernel
theorem dX2_total_93 : decode cX2_total 93 = .ok (.aload_n 2, 1) := by decide +kernel
theorem dX2_total_94 : decode cX2_total 94 = .ok (.iload 4, 2) := by decide +kernel
theorem dX2_total_96 : decode cX2_total 96 = .ok (.iconst 1, 1) := by decide +kernel
theorem dX2_total_97 : decode cX2_total 97 = .ok (.isub, 1) := by decide +kernel
theorem dX2_total_98 : decode cX2_total 98 = .ok (.invokevirtual 23, 3) := by decide +kernel
theorem dX2_total_101 : decode cX2_total 101 = .ok (.isub, 1) := by decide +kernel
theorem dX2_total_102 : decode cX2_total 102 = .ok (.invokevirtual 17, 3) := by decide +kernel
theorem dX2_total_105 : decode cX2_total 105 = .ok (.goto 72, 3) := by decide +kernel
theorem dX2_total_108 : decode cX2_total 108 = .ok (.aload_n 2, 1) := by decide +kernel
theorem dX2_total_109 : decode cX2_total 109 = .ok (.iload 4, 2) := by decide +kernel
theorem dX2_total_111 : decode cX2_total 111 = .ok (.iconst 2, 1) := by decide +kernel
theorem dX2_total_112 : decode cX2_total 112 = .ok (.isub, 1) := by decide +kernel
theorem dX2_total_113 : decode cX2_total 113 = .ok (.invokevirtual 23, 3) := by decide +kernel
theorem dX2_total_116 : decode cX2_total 116 = .ok (.istore 7, 2) := by decide +kernel
theorem dX2_total_118 : decode cX2_total 118 = .ok (.aload_n 2, 1) := by decide +kernel
theorem dX2_total_119 : decode cX2_total 119 = .ok (.iload 4, 2) := by decide +kernel
theorem dX2_total_121 : decode cX2_total 121 = .ok (.iconst 1, 1) := by decide +kernel
theorem dX2_total_122 : decode cX2_total 122 = .ok (.isub, 1) := by decide +kernel
theorem dX2_total_123 : decode cX2_total 123 = .ok (.invokevirtual 23, 3) := by decide +kernel
theorem dX2_total_126 : decode cX2_total 126 = .ok (.istore 8, 2) := by decide +kernel
theorem dX2_total_128 : decode cX2_total 128 = .ok (.iload 6, 2) := by decide +kernel
theorem dX2_total_130 : decode cX2_total 130 = .ok (.sipush 2006, 3) := by decide +kernel
theorem dX2_total_133 : decode cX2_total 133 = .ok (.if_icmp .ne 24, 3) := by decide +kernel
theorem dX2_total_136 : decode cX2_total 136 = .ok (.iload_n 3, 1) := by decide +kernel
theorem dX2_total_137 : decode cX2_total 137 = .ok (.iload 7, 2) := by decide +kernel
theorem dX2_total_139 : decode cX2_total 139 = .ok (.iconst 1, 1) := by decide +kernel
theorem dX2_total_140 : decode cX2_total 140 = .ok (.if_icmp .ne 8, 3) := by decide +kernel
theorem dX2_total_143 : decode cX2_total 143 = .ok (.iload 8, 2) := by decide +kernel
theorem dX2_total_145 : decode cX2_total 145 = .ok (.goto 4, 3) := by decide +kernel
theorem dX2_total_148 : decode cX2_total 148 = .ok (.iconst 0, 1) := by decide +kernel
theorem dX2_total_149 : decode cX2_total 149 = .ok (.iadd, 1) := by decide +kernel
theorem dX2_total_150 : decode cX2_total 150 = .ok (.istore_n 3, 1) := by decide +kernel
theorem dX2_total_151 : decode cX2_total 151 = .ok (.iinc 4 (-2), 3) := by decide +kernel
theorem dX2_total_154 : decode cX2_total 154 = .ok (.goto 23, 3) := by decide +kernel
theorem dX2_total_157 : decode cX2_total 157 = .ok (.aload_n 2, 1) := by decide +kernel
theorem dX2_total_158 : decode cX2_total 158 = .ok (.iload 4, 2) := by decide +kernel
theorem dX2_total_160 : decode cX2_total 160 = .ok (.iconst 2, 1) := by decide +kernel
theorem dX2_total_161 : decode cX2_total 161 = .ok (.isub, 1) := by decide +kernel
theorem dX2_total_162 : decode cX2_total 162 = .ok (.iload 6, 2) := by decide +kernel
theorem dX2_total_164 : decode cX2_total 164 = .ok (.iload 7, 2) := by decide +kernel
theorem dX2_total_166 : decode cX2_total 166 = .ok (.iload 8, 2) := by decide +kernel
theorem dX2_total_168 : decode cX2_total 168 = .ok (.invokestatic 27, 3) := by decide +kernel
theorem dX2_total_171 : decode cX2_total 171 = .ok (.invokevirtual 17, 3) := by decide +kernel
theorem dX2_total_174 : decode cX2_total 174 = .ok (.iinc 4 (-1), 3) := by decide +kernel
theorem dX2_total_177 : decode cX2_total 177 = .ok (.iinc 5 1, 3) := by decide +kernel
theorem dX2_total_180 : decode cX2_total 180 = .ok (.goto (-172), 3) := by decide +kernel
theorem dX2_total_183 : decode cX2_total 183 = .ok (.iload_n 3, 1) := by decide +kernel
theorem dX2_total_184 : decode cX2_total 184 = .ok (.ireturn, 1) := by decide +kernel
theorem dX6_become_0 : decode cX6_become 0 = .ok (.aload_n 1, 1) := by decide +kernel
theorem dX6_become_1 : decode cX6_become 1 = .ok (.ifnull 8, 3) := by decide +kernel
theorem dX6_become_4 : decode cX6_become 4 = .ok (.aload_n 1, 1) := by decide +kernel
theorem dX6_become_5 : decode cX6_become 5 = .ok (.aload_n 0, 1) := by decide +kernel
theorem dX6_become_6 : decode cX6_become 6 = .ok (.if_acmp .ne 4, 3) := by decide +kernel
theorem dX6_become_9 : decode cX6_become 9 = .ok (.return_, 1) := by decide +kernel
theorem dX6_become_10 : decode cX6_become 10 = .ok (.aload_n 0, 1) := by decide +kernel
theorem dX6_become_11 : decode cX6_become 11 = .ok (.aload_n 1, 1) := by decide +kernel
theorem dX6_become_12 : decode cX6_become 12 = .ok (.getfield 9, 3) := by decide +kernel
theorem dX6_become_15 : decode cX6_become 15 = .ok (.putfield 9, 3) := by decide +kernel
theorem dX6_become_18 : decode cX6_become 18 = .ok (.aload_n 0, 1) := by decide +kernel
theorem dX6_become_19 : decode cX6_become 19 = .ok (.aload_n 1, 1) := by decide +kernel
theorem dX6_become_20 : decode cX6_become 20 = .ok (.getfield 46, 3) := by decide +kernel
theorem dX6_become_23 : decode cX6_become 23 = .ok (.putfield 46, 3) := by decide +kernel
theorem dX6_become_26 : decode cX6_become 26 = .ok (.aload_n 0, 1) := by decide +kernel
theorem dX6_become_27 : decode cX6_become 27 = .ok (.aload_n 1, 1) := by decide +kernel
theorem dX6_become_28 : decode cX6_become 28 = .ok (.getfield 15, 3) := by decide +kernel
theorem dX6_become_31 : decode cX6_become 31 = .ok (.putfield 15, 3) := by decide +kernel
theorem dX6_become_34 : decode cX6_become 34 = .ok (.aload_n 0, 1) := by decide +kernel
theorem dX6_become_35 : decode cX6_become 35 = .ok (.aload_n 1, 1) := by decide +kernel
theorem dX6_become_36 : decode cX6_become 36 = .ok (.getfield 49, 3) := by decide +kernel
theorem dX6_become_39 : decode cX6_become 39 = .ok (.putfield 49, 3) := by decide +kernel
theorem dX6_become_42 : decode cX6_become 42 = .ok (.aload_n 0, 1) := by decide +kernel
theorem dX6_become_43 : decode cX6_become 43 = .ok (.aload_n 1, 1) := by decide +kernel
theorem dX6_become_44 : decode cX6_become 44 = .ok (.getfield 52, 3) := by decide +kernel
theorem dX6_become_47 : decode cX6_become 47 = .ok (.putfield 52, 3) := by decide +kernel
theorem dX6_become_50 : decode cX6_become 50 = .ok (.aload_n 0, 1) := by decide +kernel
theorem dX6_become_51 : decode cX6_become 51 = .ok (.aload_n 1, 1) := by decide +kernel
theorem dX6_become_52 : decode cX6_become 52 = .ok (.getfield 18, 3) := by decide +kernel
theorem dX6_become_55 : decode cX6_become 55 = .ok (.putfield 18, 3) := by decide +kernel
theorem dX6_become_58 : decode cX6_become 58 = .ok (.aload_n 0, 1) := by decide +kernel
theorem dX6_become_59 : decode cX6_become 59 = .ok (.aload_n 1, 1) := by decide +kernel
theorem dX6_become_60 : decode cX6_become 60 = .ok (.getfield 55, 3) := by decide +kernel
theorem dX6_become_63 : decode cX6_become 63 = .ok (.putfield 55, 3) := by decide +kernel
theorem dX6_become_66 : decode cX6_become 66 = .ok (.aload_n 0, 1) := by decide +kernel
theorem dX6_become_67 : decode cX6_become 67 = .ok (.aload_n 1, 1) := by decide +kernel
theorem dX6_become_68 : decode cX6_become 68 = .ok (.getfield 58, 3) := by decide +kernel
theorem dX6_become_71 : decode cX6_become 71 = .ok (.putfield 58, 3) := by decide +kernel
theorem dX6_become_74 : decode cX6_become 74 = .ok (.aload_n 0, 1) := by decide +kernel
theorem dX6_become_75 : decode cX6_become 75 = .ok (.aload_n 1, 1) := by decide +kernel
theorem dX6_become_76 : decode cX6_become 76 = .ok (.getfield 62, 3) := by decide +kernel
theorem dX6_become_79 : decode cX6_become 79 = .ok (.putfield 62, 3) := by decide +kernel
theorem dX6_become_82 : decode cX6_become 82 = .ok (.aload_n 0, 1) := by decide +kernel
theorem dX6_become_83 : decode cX6_become 83 = .ok (.aload_n 1, 1) := by decide +kernel
theorem dX6_become_84 : decode cX6_become 84 = .ok (.getfield 66, 3) := by decide +kernel
theorem dX6_become_87 : decode cX6_become 87 = .ok (.putfield 66, 3) := by decide +kernel
theorem dX6_become_90 : decode cX6_become 90 = .ok (.aload_n 0, 1) := by decide +kernel
theorem dX6_become_91 : decode cX6_become 91 = .ok (.aload_n 1, 1) := by decide +kernel
theorem dX6_become_92 : decode cX6_become 92 = .ok (.getfield 69, 3) := by decide +kernel
theorem dX6_become_95 : decode cX6_become 95 = .ok (.putfield 69, 3) := by decide +kernel
theorem dX6_become_98 : decode cX6_become 98 = .ok (.aload_n 0, 1) := by decide +kernel
theorem dX6_become_99 : decode cX6_become 99 = .ok (.getfield 26, 3) := by decide +kernel
theorem dX6_become_102 : decode cX6_become 102 = .ok (.aload_n 1, 1) := by decide +kernel
theorem dX6_become_103 : decode cX6_become 103 = .ok (.getfield 26, 3) := by decide +kernel
theorem dX6_become_106 : decode cX6_become 106 = .ok (.aload_n 0, 1) := by decide +kernel
theorem dX6_become_107 : decode cX6_become 107 = .ok (.getfield 46, 3) := by decide +kernel
theorem dX6_become_110 : decode cX6_become 110 = .ok (.invokevirtual 72, 3) := by decide +kernel
theorem dX6_become_113 : decode cX6_become 113 = .ok (.aload_n 0, 1) := by decide +kernel
theorem dX6_become_114 : decode cX6_become 114 = .ok (.getfield 30, 3) := by decide +kernel
theorem dX6_become_117 : decode cX6_become 117 = .ok (.aload_n 1, 1) := by decide +kernel
theorem dX6_become_118 : decode cX6_become 118 = .ok (.getfield 30, 3) := by decide +kernel
theorem dX6_become_121 : decode cX6_become 121 = .ok (.aload_n 0, 1) := by decide +kernel
theorem dX6_become_122 : decode cX6_become 122 = .ok (.getfield 46, 3) := by decide +kernel
theorem dX6_become_125 : decode cX6_become 125 = .ok (.invokevirtual 72, 3) := by decide +kernel
theorem dX6_become_128 : decode cX6_become 128 = .ok (.aload_n 0, 1) := by decide +kernel
theorem dX6_become_129 : decode cX6_become 129 = .ok (.getfield 33, 3) := by decide +kernel
theorem dX6_become_132 : decode cX6_become 132 = .ok (.aload_n 1, 1) := by decide +kernel
theorem dX6_become_133 : decode cX6_become 133 = .ok (.getfield 33, 3) := by decide +kernel
theorem dX6_become_136 : decode cX6_become 136 = .ok (.aload_n 0, 1) := by decide +kernel
theorem dX6_become_137 : decode cX6_become 137 = .ok (.getfield 15, 3) := by decide +kernel
theorem dX6_become_140 : decode cX6_become 140 = .ok (.invokevirtual 72, 3) := by decide +kernel
theorem dX6_become_143 : decode cX6_become 143 = .ok (.aload_n 0, 1) := by decide +kernel
theorem dX6_become_144 : decode cX6_become 144 = .ok (.getfield 36, 3) := by decide +kernel
theorem dX6_become_147 : decode cX6_become 147 = .ok (.aload_n 1, 1) := by decide +kernel
theorem dX6_become_148 : decode cX6_become 148 = .ok (.getfield 36, 3) := by decide +kernel
theorem dX6_become_151 : decode cX6_become 151 = .ok (.aload_n 0, 1) := by decide +kernel
theorem dX6_become_152 : decode cX6_become 152 = .ok (.getfield 46, 3) := by decide +kernel
theorem dX6_become_155 : decode cX6_become 155 = .ok (.aload_n 0, 1) := by decide +kernel
theorem dX6_become_156 : decode cX6_become 156 = .ok (.getfield 15, 3) := by decide +kernel
theorem dX6_become_159 : decode cX6_become 159 = .ok (.imul, 1) := by decide +kernel
theorem dX6_become_160 : decode cX6_become 160 = .ok (.invokevirtual 72, 3) := by decide +kernel
theorem dX6_become_163 : decode cX6_become 163 = .ok (.aload_n 0, 1) := by decide +kernel
theorem dX6_become_164 : decode cX6_become 164 = .ok (.getfield 39, 3) := by decide +kernel
theorem dX6_become_167 : decode cX6_become 167 = .ok (.aload_n 1, 1) := by decide +kernel
theorem dX6_become_168 : decode cX6_become 168 = .ok (.getfield 39, 3) := by decide +kernel
theorem dX6_become_171 : decode cX6_become 171 = .ok (.sipush 300, 3) := by decide +kernel
theorem dX6_become_174 : decode cX6_become 174 = .ok (.invokevirtual 72, 3) := by decide +kernel
theorem dX6_become_177 : decode cX6_become 177 = .ok (.return_, 1) := by decide +kernel
theorem dX6_hasPerson_0 : decode cX6_hasPerson 0 = .ok (.iload_n 1, 1) := by decide +kernel
theorem dX6_hasPerson_1 : decode cX6_hasPerson 1 = .ok (.ifCond .lt 15, 3) := by decide +kernel
theorem dX6_hasPerson_4 : decode cX6_hasPerson 4 = .ok (.iload_n 1, 1) := by decide +kernel
theorem dX6_hasPerson_5 : decode cX6_hasPerson 5 = .ok (.aload_n 0, 1) := by decide +kernel
theorem dX6_hasPerson_6 : decode cX6_hasPerson 6 = .ok (.getfield 46, 3) := by decide +kernel
theorem dX6_hasPerson_9 : decode cX6_hasPerson 9 = .ok (.if_icmp .ge 7, 3) := by decide +kernel
theorem dX6_hasPerson_12 : decode cX6_hasPerson 12 = .ok (.iconst 1, 1) := by decide +kernel
theorem dX6_hasPerson_13 : decode cX6_hasPerson 13 = .ok (.goto 4, 3) := by decide +kernel
theorem dX6_hasPerson_16 : decode cX6_hasPerson 16 = .ok (.iconst 0, 1) := by decide +kernel
theorem dX6_hasPerson_17 : decode cX6_hasPerson 17 = .ok (.ireturn, 1) := by decide +kernel
theorem dX6_hasNotice_0 : decode cX6_hasNotice 0 = .ok (.iload_n 1, 1) := by decide +kernel
theorem dX6_hasNotice_1 : decode cX6_hasNotice 1 = .ok (.ifCond .lt 15, 3) := by decide +kernel
theorem dX6_hasNotice_4 : decode cX6_hasNotice 4 = .ok (.iload_n 1, 1) := by decide +kernel
theorem dX6_hasNotice_5 : decode cX6_hasNotice 5 = .ok (.aload_n 0, 1) := by decide +kernel
theorem dX6_hasNotice_6 : decode cX6_hasNotice 6 = .ok (.getfield 9, 3) := by decide +kernel
theorem dX6_hasNotice_9 : decode cX6_hasNotice 9 = .ok (.if_icmp .ge 7, 3) := by decide +kernel
theorem dX6_hasNotice_12 : decode cX6_hasNotice 12 = .ok (.iconst 1, 1) := by decide +kernel
theorem dX6_hasNotice_13 : decode cX6_hasNotice 13 = .ok (.goto 4, 3) := by decide +kernel
theorem dX6_hasNotice_16 : decode cX6_hasNotice 16 = .ok (.iconst 0, 1) := by decide +kernel
theorem dX6_hasNotice_17 : decode cX6_hasNotice 17 = .ok (.ireturn, 1) := by decide +kernel
theorem dX6_hasWorld_0 : decode cX6_hasWorld 0 = .ok (.iload_n 1, 1) := by decide +kernel
theorem dX6_hasWorld_1 : decode cX6_hasWorld 1 = .ok (.ifCond .lt 15, 3) := by decide +kernel
theorem dX6_hasWorld_4 : decode cX6_hasWorld 4 = .ok (.iload_n 1, 1) := by decide +kernel
theorem dX6_hasWorld_5 : decode cX6_hasWorld 5 = .ok (.aload_n 0, 1) := by decide +kernel
theorem dX6_hasWorld_6 : decode cX6_hasWorld 6 = .ok (.getfield 15, 3) := by decide +kernel
theorem dX6_hasWorld_9 : decode cX6_hasWorld 9 = .ok (.if_icmp .ge 7, 3) := by decide +kernel
theorem dX6_hasWorld_12 : decode cX6_hasWorld 12 = .ok (.iconst 1, 1) := by decide +kernel
theorem dX6_hasWorld_13 : decode cX6_hasWorld 13 = .ok (.goto 4, 3) := by decide +kernel
theorem dX6_hasWorld_16 : decode cX6_hasWorld 16 = .ok (.iconst 0, 1) := by decide +kernel
theorem dX6_hasWorld_17 : decode cX6_hasWorld 17 = .ok (.ireturn, 1) := by decide +kernel
theorem dX6_hasSight_0 : decode cX6_hasSight 0 = .ok (.aload_n 0, 1) := by decide +kernel
theorem dX6_hasSight_1 : decode cX6_hasSight 1 = .ok (.iload_n 2, 1) := by decide +kernel
theorem dX6_hasSight_2 : decode cX6_hasSight 2 = .ok (.invokevirtual 76, 3) := by decide +kernel
theorem dX6_hasSight_5 : decode cX6_hasSight 5 = .ok (.ifCond .eq 23, 3) := by decide +kernel
theorem dX6_hasSight_8 : decode cX6_hasSight 8 = .ok (.aload_n 0, 1) := by decide +kernel
theorem dX6_hasSight_9 : decode cX6_hasSight 9 = .ok (.getfield 30, 3) := by decide +kernel
theorem dX6_hasSight_12 : decode cX6_hasSight 12 = .ok (.iload_n 1, 1) := by decide +kernel
theorem dX6_hasSight_13 : decode cX6_hasSight 13 = .ok (.invokevirtual 80, 3) := by decide +kernel
theorem dX6_hasSight_16 : decode cX6_hasSight 16 = .ok (.iload_n 2, 1) := by decide +kernel
theorem dX6_hasSight_17 : decode cX6_hasSight 17 = .ok (.ishr, 1) := by decide +kernel
theorem dX6_hasSight_18 : decode cX6_hasSight 18 = .ok (.iconst 1, 1) := by decide +kernel
theorem dX6_hasSight_19 : decode cX6_hasSight 19 = .ok (.iand, 1) := by decide +kernel
theorem dX6_hasSight_20 : decode cX6_hasSight 20 = .ok (.iconst 1, 1) := by decide +kernel
theorem dX6_hasSight_21 : decode cX6_hasSight 21 = .ok (.if_icmp .ne 7, 3) := by decide +kernel
theorem dX6_hasSight_24 : decode cX6_hasSight 24 = .ok (.iconst 1, 1) := by decide +kernel
theorem dX6_hasSight_25 : decode cX6_hasSight 25 = .ok (.goto 4, 3) := by decide +kernel
theorem dX6_hasSight_28 : decode cX6_hasSight 28 = .ok (.iconst 0, 1) := by decide +kernel
theorem dX6_hasSight_29 : decode cX6_hasSight 29 = .ok (.ireturn, 1) := by decide +kernel
theorem dX6_stands_0 : decode cX6_stands 0 = .ok (.aload_n 0, 1) := by decide +kernel
theorem dX6_stands_1 : decode cX6_stands 1 = .ok (.getfield 33, 3) := by decide +kernel
theorem dX6_stands_4 : decode cX6_stands 4 = .ok (.iload_n 1, 1) := by decide +kernel
theorem dX6_stands_5 : decode cX6_stands 5 = .ok (.invokevirtual 80, 3) := by decide +kernel
theorem dX6_stands_8 : decode cX6_stands 8 = .ok (.iconst 1, 1) := by decide +kernel
theorem dX6_stands_9 : decode cX6_stands 9 = .ok (.if_icmp .ne 7, 3) := by decide +kernel
theorem dX6_stands_12 : decode cX6_stands 12 = .ok (.iconst 1, 1) := by decide +kernel
theorem dX6_stands_13 : decode cX6_stands 13 = .ok (.goto 4, 3) := by decide +kernel
theorem dX6_stands_16 : decode cX6_stands 16 = .ok (.iconst 0, 1) := by decide +kernel
theorem dX6_stands_17 : decode cX6_stands 17 = .ok (.ireturn, 1) := by decide +kernel
theorem dX6_seers_0 : decode cX6_seers 0 = .ok (.iconst 0, 1) := by decide +kernel
theorem dX6_seers_1 : decode cX6_seers 1 = .ok (.istore_n 2, 1) := by decide +kernel
theorem dX6_seers_2 : decode cX6_seers 2 = .ok (.iconst 0, 1) := by decide +kernel
theorem dX6_seers_3 : decode cX6_seers 3 = .ok (.istore_n 3, 1) := by decide +kernel
theorem dX6_seers_4 : decode cX6_seers 4 = .ok (.iload_n 3, 1) := by decide +kernel
theorem dX6_seers_5 : decode cX6_seers 5 = .ok (.aload_n 0, 1) := by decide +kernel
theorem dX6_seers_6 : decode cX6_seers 6 = .ok (.getfield 46, 3) := by decide +kernel
theorem dX6_seers_9 : decode cX6_seers 9 = .ok (.if_icmp .ge 24, 3) := by decide +kernel
theorem dX6_seers_12 : decode cX6_seers 12 = .ok (.aload_n 0, 1) := by decide +kernel
theorem dX6_seers_13 : decode cX6_seers 13 = .ok (.iload_n 3, 1) := by decide +kernel
theorem dX6_seers_14 : decode cX6_seers 14 = .ok (.iload_n 1, 1) := by decide +kernel
theorem dX6_seers_15 : decode cX6_seers 15 = .ok (.invokevirtual 84, 3) := by decide +kernel
theorem dX6_seers_18 : decode cX6_seers 18 = .ok (.ifCond .eq 9, 3) := by decide +kernel
theorem dX6_seers_21 : decode cX6_seers 21 = .ok (.iload_n 2, 1) := by decide +kernel
theorem dX6_seers_22 : decode cX6_seers 22 = .ok (.iconst 1, 1) := by decide +kernel
theorem dX6_seers_23 : decode cX6_seers 23 = .ok (.iload_n 3, 1) := by decide +kernel
theorem dX6_seers_24 : decode cX6_seers 24 = .ok (.ishl, 1) := by decide +kernel
theorem dX6_seers_25 : decode cX6_seers 25 = .ok (.ior, 1) := by decide +kernel
theorem dX6_seers_26 : decode cX6_seers 26 = .ok (.istore_n 2, 1) := by decide +kernel
theorem dX6_seers_27 : decode cX6_seers 27 = .ok (.iinc 3 1, 3) := by decide +kernel
theorem dX6_seers_30 : decode cX6_seers 30 = .ok (.goto (-26), 3) := by decide +kernel
theorem dX6_seers_33 : decode cX6_seers 33 = .ok (.iload_n 2, 1) := by decide +kernel
theorem dX6_seers_34 : decode cX6_seers 34 = .ok (.ireturn, 1) := by decide +kernel
theorem dX6_figure_0 : decode cX6_figure 0 = .ok (.aload_n 0, 1) := by decide +kernel
theorem dX6_figure_1 : decode cX6_figure 1 = .ok (.getfield 26, 3) := by decide +kernel
theorem dX6_figure_4 : decode cX6_figure 4 = .ok (.iload_n 2, 1) := by decide +kernel
theorem dX6_figure_5 : decode cX6_figure 5 = .ok (.invokevirtual 80, 3) := by decide +kernel
theorem dX6_figure_8 : decode cX6_figure 8 = .ok (.istore_n 3, 1) := by decide +kernel
theorem dX6_figure_9 : decode cX6_figure 9 = .ok (.iload_n 3, 1) := by decide +kernel
theorem dX6_figure_10 : decode cX6_figure 10 = .ok (.ifCond .le 21, 3) := by decide +kernel
theorem dX6_figure_13 : decode cX6_figure 13 = .ok (.aload_n 0, 1) := by decide +kernel
theorem dX6_figure_14 : decode cX6_figure 14 = .ok (.getfield 9, 3) := by decide +kernel
theorem dX6_figure_17 : decode cX6_figure 17 = .ok (.ifCond .le 14, 3) := by decide +kernel
theorem dX6_figure_20 : decode cX6_figure 20 = .ok (.iload_n 1, 1) := by decide +kernel
theorem dX6_figure_21 : decode cX6_figure 21 = .ok (.iload_n 3, 1) := by decide +kernel
theorem dX6_figure_22 : decode cX6_figure 22 = .ok (.idiv, 1) := by decide +kernel
theorem dX6_figure_23 : decode cX6_figure 23 = .ok (.aload_n 0, 1) := by decide +kernel
theorem dX6_figure_24 : decode cX6_figure 24 = .ok (.getfield 9, 3) := by decide +kernel
theorem dX6_figure_27 : decode cX6_figure 27 = .ok (.irem, 1) := by decide +kernel
theorem dX6_figure_28 : decode cX6_figure 28 = .ok (.goto 4, 3) := by decide +kernel
theorem dX6_figure_31 : decode cX6_figure 31 = .ok (.iconst 0, 1) := by decide +kernel
theorem dX6_figure_32 : decode cX6_figure 32 = .ok (.ireturn, 1) := by decide +kernel
theorem dX6_many_0 : decode cX6_many 0 = .ok (.iconst 0, 1) := by decide +kernel
theorem dX6_many_1 : decode cX6_many 1 = .ok (.istore_n 3, 1) := by decide +kernel
theorem dX6_many_2 : decode cX6_many 2 = .ok (.iconst 0, 1) := by decide +kernel
theorem dX6_many_3 : decode cX6_many 3 = .ok (.istore 4, 2) := by decide +kernel
theorem dX6_many_5 : decode cX6_many 5 = .ok (.iload 4, 2) := by decide +kernel
theorem dX6_many_7 : decode cX6_many 7 = .ok (.aload_n 0, 1) := by decide +kernel
theorem dX6_many_8 : decode cX6_many 8 = .ok (.getfield 46, 3) := by decide +kernel
theorem dX6_many_11 : decode cX6_many 11 = .ok (.if_icmp .ge 23, 3) := by decide +kernel
theorem dX6_many_14 : decode cX6_many 14 = .ok (.aload_n 0, 1) := by decide +kernel
theorem dX6_many_15 : decode cX6_many 15 = .ok (.iload_n 1, 1) := by decide +kernel
theorem dX6_many_16 : decode cX6_many 16 = .ok (.iload 4, 2) := by decide +kernel
theorem dX6_many_18 : decode cX6_many 18 = .ok (.invokevirtual 88, 3) := by decide +kernel
theorem dX6_many_21 : decode cX6_many 21 = .ok (.iload_n 2, 1) := by decide +kernel
theorem dX6_many_22 : decode cX6_many 22 = .ok (.if_icmp .ne 6, 3) := by decide +kernel
theorem dX6_many_25 : decode cX6_many 25 = .ok (.iinc 3 1, 3) := by decide +kernel
theorem dX6_many_28 : decode cX6_many 28 = .ok (.iinc 4 1, 3) := by decide +kernel
theorem dX6_many_31 : decode cX6_many 31 = .ok (.goto (-26), 3) := by decide +kernel
theorem dX6_many_34 : decode cX6_many 34 = .ok (.iload_n 3, 1) := by decide +kernel
theorem dX6_many_35 : decode cX6_many 35 = .ok (.ireturn, 1) := by decide +kernel
theorem dX6_group_0 : decode cX6_group 0 = .ok (.aload_n 0, 1) := by decide +kernel
theorem dX6_group_1 : decode cX6_group 1 = .ok (.getfield 36, 3) := by decide +kernel
theorem dX6_group_4 : decode cX6_group 4 = .ok (.iload_n 1, 1) := by decide +kernel
theorem dX6_group_5 : decode cX6_group 5 = .ok (.aload_n 0, 1) := by decide +kernel
theorem dX6_group_6 : decode cX6_group 6 = .ok (.getfield 15, 3) := by decide +kernel
theorem dX6_group_9 : decode cX6_group 9 = .ok (.imul, 1) := by decide +kernel
theorem dX6_group_10 : decode cX6_group 10 = .ok (.iload_n 2, 1) := by decide +kernel
theorem dX6_group_11 : decode cX6_group 11 = .ok (.iadd, 1) := by decide +kernel
theorem dX6_group_12 : decode cX6_group 12 = .ok (.invokevirtual 80, 3) := by decide +kernel
theorem dX6_group_15 : decode cX6_group 15 = .ok (.ireturn, 1) := by decide +kernel
theorem dX6_hasRoom_0 : decode cX6_hasRoom 0 = .ok (.aload_n 0, 1) := by decide +kernel
theorem dX6_hasRoom_1 : decode cX6_hasRoom 1 = .ok (.getfield 46, 3) := by decide +kernel
theorem dX6_hasRoom_4 : decode cX6_hasRoom 4 = .ok (.bipush 9, 2) := by decide +kernel
theorem dX6_hasRoom_6 : decode cX6_hasRoom 6 = .ok (.if_icmp .ge 22, 3) := by decide +kernel
theorem dX6_hasRoom_9 : decode cX6_hasRoom 9 = .ok (.aload_n 0, 1) := by decide +kernel
theorem dX6_hasRoom_10 : decode cX6_hasRoom 10 = .ok (.getfield 15, 3) := by decide +kernel
theorem dX6_hasRoom_13 : decode cX6_hasRoom 13 = .ok (.aload_n 0, 1) := by decide +kernel
theorem dX6_hasRoom_14 : decode cX6_hasRoom 14 = .ok (.getfield 9, 3) := by decide +kernel
theorem dX6_hasRoom_17 : decode cX6_hasRoom 17 = .ok (.imul, 1) := by decide +kernel
theorem dX6_hasRoom_18 : decode cX6_hasRoom 18 = .ok (.sipush 512, 3) := by decide +kernel
theorem dX6_hasRoom_21 : decode cX6_hasRoom 21 = .ok (.if_icmp .gt 7, 3) := by decide +kernel
theorem dX6_hasRoom_24 : decode cX6_hasRoom 24 = .ok (.iconst 1, 1) := by decide +kernel
theorem dX6_hasRoom_25 : decode cX6_hasRoom 25 = .ok (.goto 4, 3) := by decide +kernel
theorem dX6_hasRoom_28 : decode cX6_hasRoom 28 = .ok (.iconst 0, 1) := by decide +kernel
theorem dX6_hasRoom_29 : decode cX6_hasRoom 29 = .ok (.ireturn, 1) := by decide +kernel
theorem dX6_join_0 : decode cX6_join 0 = .ok (.iconst 0, 1) := by decide +kernel
theorem dX6_join_1 : decode cX6_join 1 = .ok (.istore_n 2, 1) := by decide +kernel
theorem dX6_join_2 : decode cX6_join 2 = .ok (.iload_n 2, 1) := by decide +kernel
theorem dX6_join_3 : decode cX6_join 3 = .ok (.aload_n 0, 1) := by decide +kernel
theorem dX6_join_4 : decode cX6_join 4 = .ok (.getfield 46, 3) := by decide +kernel
theorem dX6_join_7 : decode cX6_join 7 = .ok (.if_icmp .ge 30, 3) := by decide +kernel
theorem dX6_join_10 : decode cX6_join 10 = .ok (.aload_n 0, 1) := by decide +kernel
theorem dX6_join_11 : decode cX6_join 11 = .ok (.getfield 26, 3) := by decide +kernel
theorem dX6_join_14 : decode cX6_join 14 = .ok (.iload_n 2, 1) := by decide +kernel
theorem dX6_join_15 : decode cX6_join 15 = .ok (.aload_n 0, 1) := by decide +kernel
theorem dX6_join_16 : decode cX6_join 16 = .ok (.getfield 26, 3) := by decide +kernel
theorem dX6_join_19 : decode cX6_join 19 = .ok (.iload_n 2, 1) := by decide +kernel
theorem dX6_join_20 : decode cX6_join 20 = .ok (.invokevirtual 80, 3) := by decide +kernel
theorem dX6_join_23 : decode cX6_join 23 = .ok (.aload_n 0, 1) := by decide +kernel
theorem dX6_join_24 : decode cX6_join 24 = .ok (.getfield 9, 3) := by decide +kernel
theorem dX6_join_27 : decode cX6_join 27 = .ok (.imul, 1) := by decide +kernel
theorem dX6_join_28 : decode cX6_join 28 = .ok (.invokevirtual 42, 3) := by decide +kernel
theorem dX6_join_31 : decode cX6_join 31 = .ok (.iinc 2 1, 3) := by decide +kernel
theorem dX6_join_34 : decode cX6_join 34 = .ok (.goto (-32), 3) := by decide +kernel
theorem dX6_join_37 : decode cX6_join 37 = .ok (.aload_n 0, 1) := by decide +kernel
theorem dX6_join_38 : decode cX6_join 38 = .ok (.getfield 26, 3) := by decide +kernel
theorem dX6_join_41 : decode cX6_join 41 = .ok (.aload_n 0, 1) := by decide +kernel
theorem dX6_join_42 : decode cX6_join 42 = .ok (.getfield 46, 3) := by decide +kernel
theorem dX6_join_45 : decode cX6_join 45 = .ok (.iconst 1, 1) := by decide +kernel
theorem dX6_join_46 : decode cX6_join 46 = .ok (.invokevirtual 42, 3) := by decide +kernel
theorem dX6_join_49 : decode cX6_join 49 = .ok (.aload_n 0, 1) := by decide +kernel
theorem dX6_join_50 : decode cX6_join 50 = .ok (.getfield 30, 3) := by decide +kernel
theorem dX6_join_53 : decode cX6_join 53 = .ok (.aload_n 0, 1) := by decide +kernel
theorem dX6_join_54 : decode cX6_join 54 = .ok (.getfield 46, 3) := by decide +kernel
theorem dX6_join_57 : decode cX6_join 57 = .ok (.iconst 0, 1) := by decide +kernel
theorem dX6_join_58 : decode cX6_join 58 = .ok (.invokevirtual 42, 3) := by decide +kernel
theorem dX6_join_61 : decode cX6_join 61 = .ok (.aload_n 0, 1) := by decide +kernel
theorem dX6_join_62 : decode cX6_join 62 = .ok (.dup, 1) := by decide +kernel
theorem dX6_join_63 : decode cX6_join 63 = .ok (.getfield 46, 3) := by decide +kernel
theorem dX6_join_66 : decode cX6_join 66 = .ok (.iconst 1, 1) := by decide +kernel
theorem dX6_join_67 : decode cX6_join 67 = .ok (.iadd, 1) := by decide +kernel
theorem dX6_join_68 : decode cX6_join 68 = .ok (.putfield 46, 3) := by decide +kernel
theorem dX6_join_71 : decode cX6_join 71 = .ok (.aload_n 0, 1) := by decide +kernel
theorem dX6_join_72 : decode cX6_join 72 = .ok (.dup, 1) := by decide +kernel
theorem dX6_join_73 : decode cX6_join 73 = .ok (.getfield 15, 3) := by decide +kernel
theorem dX6_join_76 : decode cX6_join 76 = .ok (.aload_n 0, 1) := by decide +kernel
theorem dX6_join_77 : decode cX6_join 77 = .ok (.getfield 9, 3) := by decide +kernel
theorem dX6_join_80 : decode cX6_join 80 = .ok (.imul, 1) := by decide +kernel
theorem dX6_join_81 : decode cX6_join 81 = .ok (.putfield 15, 3) := by decide +kernel
theorem dX6_join_84 : decode cX6_join 84 = .ok (.aload_n 0, 1) := by decide +kernel
theorem dX6_join_85 : decode cX6_join 85 = .ok (.aload_n 0, 1) := by decide +kernel
theorem dX6_join_86 : decode cX6_join 86 = .ok (.getfield 49, 3) := by decide +kernel
theorem dX6_join_89 : decode cX6_join 89 = .ok (.aload_n 0, 1) := by decide +kernel
theorem dX6_join_90 : decode cX6_join 90 = .ok (.getfield 9, 3) := by decide +kernel
theorem dX6_join_93 : decode cX6_join 93 = .ok (.imul, 1) := by decide +kernel
theorem dX6_join_94 : decode cX6_join 94 = .ok (.iload_n 1, 1) := by decide +kernel
theorem dX6_join_95 : decode cX6_join 95 = .ok (.iadd, 1) := by decide +kernel
theorem dX6_join_96 : decode cX6_join 96 = .ok (.putfield 49, 3) := by decide +kernel
theorem dX6_join_99 : decode cX6_join 99 = .ok (.aload_n 0, 1) := by decide +kernel
theorem dX6_join_100 : decode cX6_join 100 = .ok (.getfield 33, 3) := by decide +kernel
theorem dX6_join_103 : decode cX6_join 103 = .ok (.aload_n 0, 1) := by decide +kernel
theorem dX6_join_104 : decode cX6_join 104 = .ok (.getfield 15, 3) := by decide +kernel
theorem dX6_join_107 : decode cX6_join 107 = .ok (.invokevirtual 92, 3) := by decide +kernel
theorem dX6_join_110 : decode cX6_join 110 = .ok (.aload_n 0, 1) := by decide +kernel
theorem dX6_join_111 : decode cX6_join 111 = .ok (.getfield 33, 3) := by decide +kernel
theorem dX6_join_114 : decode cX6_join 114 = .ok (.iconst 1, 1) := by decide +kernel
theorem dX6_join_115 : decode cX6_join 115 = .ok (.aload_n 0, 1) := by decide +kernel
theorem dX6_join_116 : decode cX6_join 116 = .ok (.getfield 15, 3) := by decide +kernel
theorem dX6_join_119 : decode cX6_join 119 = .ok (.invokevirtual 95, 3) := by decide +kernel
theorem dX6_join_122 : decode cX6_join 122 = .ok (.aload_n 0, 1) := by decide +kernel
theorem dX6_join_123 : decode cX6_join 123 = .ok (.getfield 36, 3) := by decide +kernel
theorem dX6_join_126 : decode cX6_join 126 = .ok (.aload_n 0, 1) := by decide +kernel
theorem dX6_join_127 : decode cX6_join 127 = .ok (.getfield 46, 3) := by decide +kernel
theorem dX6_join_130 : decode cX6_join 130 = .ok (.aload_n 0, 1) := by decide +kernel
theorem dX6_join_131 : decode cX6_join 131 = .ok (.getfield 15, 3) := by decide +kernel
theorem dX6_join_134 : decode cX6_join 134 = .ok (.imul, 1) := by decide +kernel
theorem dX6_join_135 : decode cX6_join 135 = .ok (.invokevirtual 92, 3) := by decide +kernel
theorem dX6_join_138 : decode cX6_join 138 = .ok (.aload_n 0, 1) := by decide +kernel
theorem dX6_join_139 : decode cX6_join 139 = .ok (.getfield 36, 3) := by decide +kernel
theorem dX6_join_142 : decode cX6_join 142 = .ok (.iconst 0, 1) := by decide +kernel
theorem dX6_join_143 : decode cX6_join 143 = .ok (.aload_n 0, 1) := by decide +kernel
theorem dX6_join_144 : decode cX6_join 144 = .ok (.getfield 46, 3) := by decide +kernel
theorem dX6_join_147 : decode cX6_join 147 = .ok (.aload_n 0, 1) := by decide +kernel
theorem dX6_join_148 : decode cX6_join 148 = .ok (.getfield 15, 3) := by decide +kernel
theorem dX6_join_151 : decode cX6_join 151 = .ok (.imul, 1) := by decide +kernel
theorem dX6_join_152 : decode cX6_join 152 = .ok (.invokevirtual 95, 3) := by decide +kernel
theorem dX6_join_155 : decode cX6_join 155 = .ok (.return_, 1) := by decide +kernel
theorem dX6_draw_0 : decode cX6_draw 0 = .ok (.aload_n 0, 1) := by decide +kernel
theorem dX6_draw_1 : decode cX6_draw 1 = .ok (.ldc 98, 2) := by decide +kernel
theorem dX6_draw_3 : decode cX6_draw 3 = .ok (.aload_n 0, 1) := by decide +kernel
theorem dX6_draw_4 : decode cX6_draw 4 = .ok (.getfield 18, 3) := by decide +kernel
theorem dX6_draw_7 : decode cX6_draw 7 = .ok (.imul, 1) := by decide +kernel
theorem dX6_draw_8 : decode cX6_draw 8 = .ok (.sipush 12345, 3) := by decide +kernel
theorem dX6_draw_11 : decode cX6_draw 11 = .ok (.iadd, 1) := by decide +kernel
theorem dX6_draw_12 : decode cX6_draw 12 = .ok (.putfield 18, 3) := by decide +kernel
theorem dX6_draw_15 : decode cX6_draw 15 = .ok (.aload_n 0, 1) := by decide +kernel
theorem dX6_draw_16 : decode cX6_draw 16 = .ok (.getfield 18, 3) := by decide +kernel
theorem dX6_draw_19 : decode cX6_draw 19 = .ok (.bipush 16, 2) := by decide +kernel
theorem dX6_draw_21 : decode cX6_draw 21 = .ok (.iushr, 1) := by decide +kernel
theorem dX6_draw_22 : decode cX6_draw 22 = .ok (.sipush 32767, 3) := by decide +kernel
theorem dX6_draw_25 : decode cX6_draw 25 = .ok (.iand, 1) := by decide +kernel
theorem dX6_draw_26 : decode cX6_draw 26 = .ok (.ireturn, 1) := by decide +kernel
theorem dX6_note_0 : decode cX6_note 0 = .ok (.aload_n 0, 1) := by decide +kernel
theorem dX6_note_1 : decode cX6_note 1 = .ok (.getfield 39, 3) := by decide +kernel
theorem dX6_note_4 : decode cX6_note 4 = .ok (.sipush 300, 3) := by decide +kernel
theorem dX6_note_7 : decode cX6_note 7 = .ok (.invokevirtual 92, 3) := by decide +kernel
theorem dX6_note_10 : decode cX6_note 10 = .ok (.aload_n 0, 1) := by decide +kernel
theorem dX6_note_11 : decode cX6_note 11 = .ok (.getfield 69, 3) := by decide +kernel
theorem dX6_note_14 : decode cX6_note 14 = .ok (.iconst 5, 1) := by decide +kernel
theorem dX6_note_15 : decode cX6_note 15 = .ok (.imul, 1) := by decide +kernel
theorem dX6_note_16 : decode cX6_note 16 = .ok (.istore 6, 2) := by decide +kernel
theorem dX6_note_18 : decode cX6_note 18 = .ok (.aload_n 0, 1) := by decide +kernel
theorem dX6_note_19 : decode cX6_note 19 = .ok (.getfield 39, 3) := by decide +kernel
theorem dX6_note_22 : decode cX6_note 22 = .ok (.iload 6, 2) := by decide +kernel
theorem dX6_note_24 : decode cX6_note 24 = .ok (.iload_n 1, 1) := by decide +kernel
theorem dX6_note_25 : decode cX6_note 25 = .ok (.invokevirtual 42, 3) := by decide +kernel
theorem dX6_note_28 : decode cX6_note 28 = .ok (.aload_n 0, 1) := by decide +kernel
theorem dX6_note_29 : decode cX6_note 29 = .ok (.getfield 39, 3) := by decide +kernel
theorem dX6_note_32 : decode cX6_note 32 = .ok (.iload 6, 2) := by decide +kernel
theorem dX6_note_34 : decode cX6_note 34 = .ok (.iconst 1, 1) := by decide +kernel
theorem dX6_note_35 : decode cX6_note 35 = .ok (.iadd, 1) := by decide +kernel
theorem dX6_note_36 : decode cX6_note 36 = .ok (.iload_n 2, 1) := by decide +kernel
theorem dX6_note_37 : decode cX6_note 37 = .ok (.invokevirtual 42, 3) := by decide +kernel
theorem dX6_note_40 : decode cX6_note 40 = .ok (.aload_n 0, 1) := by decide +kernel
theorem dX6_note_41 : decode cX6_note 41 = .ok (.getfield 39, 3) := by decide +kernel
theorem dX6_note_44 : decode cX6_note 44 = .ok (.iload 6, 2) := by decide +kernel
theorem dX6_note_46 : decode cX6_note 46 = .ok (.iconst 2, 1) := by decide +kernel
theorem dX6_note_47 : decode cX6_note 47 = .ok (.iadd, 1) := by decide +kernel
theorem dX6_note_48 : decode cX6_note 48 = .ok (.iload_n 3, 1) := by decide +kernel
theorem dX6_note_49 : decode cX6_note 49 = .ok (.invokevirtual 42, 3) := by decide +kernel
theorem dX6_note_52 : decode cX6_note 52 = .ok (.aload_n 0, 1) := by decide +kernel
theorem dX6_note_53 : decode cX6_note 53 = .ok (.getfield 39, 3) := by decide +kernel
theorem dX6_note_56 : decode cX6_note 56 = .ok (.iload 6, 2) := by decide +kernel
theorem dX6_note_58 : decode cX6_note 58 = .ok (.iconst 3, 1) := by decide +kernel
theorem dX6_note_59 : decode cX6_note 59 = .ok (.iadd, 1) := by decide +kernel
theorem dX6_note_60 : decode cX6_note 60 = .ok (.iload 4, 2) := by decide +kernel
theorem dX6_note_62 : decode cX6_note 62 = .ok (.invokevirtual 42, 3) := by decide +kernel
theorem dX6_note_65 : decode cX6_note 65 = .ok (.aload_n 0, 1) := by decide +kernel
theorem dX6_note_66 : decode cX6_note 66 = .ok (.getfield 39, 3) := by decide +kernel
theorem dX6_note_69 : decode cX6_note 69 = .ok (.iload 6, 2) := by decide +kernel
theorem dX6_note_71 : decode cX6_note 71 = .ok (.iconst 4, 1) := by decide +kernel
theorem dX6_note_72 : decode cX6_note 72 = .ok (.iadd, 1) := by decide +kernel
theorem dX6_note_73 : decode cX6_note 73 = .ok (.iload 5, 2) := by decide +kernel
theorem dX6_note_75 : decode cX6_note 75 = .ok (.invokevirtual 42, 3) := by decide +kernel
theorem dX6_note_78 : decode cX6_note 78 = .ok (.aload_n 0, 1) := by decide +kernel
theorem dX6_note_79 : decode cX6_note 79 = .ok (.aload_n 0, 1) := by decide +kernel
theorem dX6_note_80 : decode cX6_note 80 = .ok (.getfield 69, 3) := by decide +kernel
theorem dX6_note_83 : decode cX6_note 83 = .ok (.iconst 1, 1) := by decide +kernel
theorem dX6_note_84 : decode cX6_note 84 = .ok (.iadd, 1) := by decide +kernel
theorem dX6_note_85 : decode cX6_note 85 = .ok (.bipush 60, 2) := by decide +kernel
theorem dX6_note_87 : decode cX6_note 87 = .ok (.if_icmp .ge 12, 3) := by decide +kernel
theorem dX6_note_90 : decode cX6_note 90 = .ok (.aload_n 0, 1) := by decide +kernel
theorem dX6_note_91 : decode cX6_note 91 = .ok (.getfield 69, 3) := by decide +kernel
theorem dX6_note_94 : decode cX6_note 94 = .ok (.iconst 1, 1) := by decide +kernel
theorem dX6_note_95 : decode cX6_note 95 = .ok (.iadd, 1) := by decide +kernel
theorem dX6_note_96 : decode cX6_note 96 = .ok (.goto 4, 3) := by decide +kernel
theorem dX6_note_99 : decode cX6_note 99 = .ok (.iconst 0, 1) := by decide +kernel
theorem dX6_note_100 : decode cX6_note 100 = .ok (.putfield 69, 3) := by decide +kernel
theorem dX6_note_103 : decode cX6_note 103 = .ok (.aload_n 0, 1) := by decide +kernel
theorem dX6_note_104 : decode cX6_note 104 = .ok (.aload_n 0, 1) := by decide +kernel
theorem dX6_note_105 : decode cX6_note 105 = .ok (.getfield 66, 3) := by decide +kernel
theorem dX6_note_108 : decode cX6_note 108 = .ok (.iconst 1, 1) := by decide +kernel
theorem dX6_note_109 : decode cX6_note 109 = .ok (.iadd, 1) := by decide +kernel
theorem dX6_note_110 : decode cX6_note 110 = .ok (.bipush 60, 2) := by decide +kernel
theorem dX6_note_112 : decode cX6_note 112 = .ok (.invokestatic 99, 3) := by decide +kernel
theorem dX6_note_115 : decode cX6_note 115 = .ok (.putfield 66, 3) := by decide +kernel
theorem dX6_note_118 : decode cX6_note 118 = .ok (.return_, 1) := by decide +kernel
theorem dX6_noted_0 : decode cX6_noted 0 = .ok (.iload_n 1, 1) := by decide +kernel
theorem dX6_noted_1 : decode cX6_noted 1 = .ok (.ifCond .lt 11, 3) := by decide +kernel
theorem dX6_noted_4 : decode cX6_noted 4 = .ok (.iload_n 1, 1) := by decide +kernel
theorem dX6_noted_5 : decode cX6_noted 5 = .ok (.aload_n 0, 1) := by decide +kernel
theorem dX6_noted_6 : decode cX6_noted 6 = .ok (.getfield 66, 3) := by decide +kernel
theorem dX6_noted_9 : decode cX6_noted 9 = .ok (.if_icmp .lt 5, 3) := by decide +kernel
theorem dX6_noted_12 : decode cX6_noted 12 = .ok (.iconst (-1), 1) := by decide +kernel
theorem dX6_noted_13 : decode cX6_noted 13 = .ok (.ireturn, 1) := by decide +kernel
theorem dX6_noted_14 : decode cX6_noted 14 = .ok (.aload_n 0, 1) := by decide +kernel
theorem dX6_noted_15 : decode cX6_noted 15 = .ok (.getfield 69, 3) := by decide +kernel
theorem dX6_noted_18 : decode cX6_noted 18 = .ok (.iconst 1, 1) := by decide +kernel
theorem dX6_noted_19 : decode cX6_noted 19 = .ok (.isub, 1) := by decide +kernel
theorem dX6_noted_20 : decode cX6_noted 20 = .ok (.iload_n 1, 1) := by decide +kernel
theorem dX6_noted_21 : decode cX6_noted 21 = .ok (.isub, 1) := by decide +kernel
theorem dX6_noted_22 : decode cX6_noted 22 = .ok (.istore_n 3, 1) := by decide +kernel
theorem dX6_noted_23 : decode cX6_noted 23 = .ok (.aload_n 0, 1) := by decide +kernel
theorem dX6_noted_24 : decode cX6_noted 24 = .ok (.getfield 39, 3) := by decide +kernel
theorem dX6_noted_27 : decode cX6_noted 27 = .ok (.iload_n 3, 1) := by decide +kernel
theorem dX6_noted_28 : decode cX6_noted 28 = .ok (.ifCond .ge 10, 3) := by decide +kernel
theorem dX6_noted_31 : decode cX6_noted 31 = .ok (.iload_n 3, 1) := by decide +kernel
theorem dX6_noted_32 : decode cX6_noted 32 = .ok (.bipush 60, 2) := by decide +kernel
theorem dX6_noted_34 : decode cX6_noted 34 = .ok (.iadd, 1) := by decide +kernel
theorem dX6_noted_35 : decode cX6_noted 35 = .ok (.goto 4, 3) := by decide +kernel
theorem dX6_noted_38 : decode cX6_noted 38 = .ok (.iload_n 3, 1) := by decide +kernel
theorem dX6_noted_39 : decode cX6_noted 39 = .ok (.iconst 5, 1) := by decide +kernel
theorem dX6_noted_40 : decode cX6_noted 40 = .ok (.imul, 1) := by decide +kernel
theorem dX6_noted_41 : decode cX6_noted 41 = .ok (.iload_n 2, 1) := by decide +kernel
theorem dX6_noted_42 : decode cX6_noted 42 = .ok (.iadd, 1) := by decide +kernel
theorem dX6_noted_43 : decode cX6_noted 43 = .ok (.invokevirtual 80, 3) := by decide +kernel
theorem dX6_noted_46 : decode cX6_noted 46 = .ok (.ireturn, 1) := by decide +kernel
theorem dX7_size_0 : decode cX7_size 0 = .ok (.aload_n 0, 1) := by decide +kernel
theorem dX7_size_1 : decode cX7_size 1 = .ok (.getfield 18, 3) := by decide +kernel
theorem dX7_size_4 : decode cX7_size 4 = .ok (.ireturn, 1) := by decide +kernel
theorem dX7_hasRoomFor_0 : decode cX7_hasRoomFor 0 = .ok (.aload_n 0, 1) := by decide +kernel
theorem dX7_hasRoomFor_1 : decode cX7_hasRoomFor 1 = .ok (.getfield 18, 3) := by decide +kernel
theorem dX7_hasRoomFor_4 : decode cX7_hasRoomFor 4 = .ok (.iload_n 1, 1) := by decide +kernel
theorem dX7_hasRoomFor_5 : decode cX7_hasRoomFor 5 = .ok (.iadd, 1) := by decide +kernel
theorem dX7_hasRoomFor_6 : decode cX7_hasRoomFor 6 = .ok (.sipush 400, 3) := by decide +kernel
theorem dX7_hasRoomFor_9 : decode cX7_hasRoomFor 9 = .ok (.if_icmp .gt 7, 3) := by decide +kernel
theorem dX7_hasRoomFor_12 : decode cX7_hasRoomFor 12 = .ok (.iconst 1, 1) := by decide +kernel
theorem dX7_hasRoomFor_13 : decode cX7_hasRoomFor 13 = .ok (.goto 4, 3) := by decide +kernel
theorem dX7_hasRoomFor_16 : decode cX7_hasRoomFor 16 = .ok (.iconst 0, 1) := by decide +kernel
theorem dX7_hasRoomFor_17 : decode cX7_hasRoomFor 17 = .ok (.ireturn, 1) := by decide +kernel
theorem dX7_put_0 : decode cX7_put 0 = .ok (.bipush 24, 2) := by decide +kernel
theorem dX7_put_2 : decode cX7_put 2 = .ok (.istore_n 2, 1) := by decide +kernel
theorem dX7_put_3 : decode cX7_put 3 = .ok (.iload_n 2, 1) := by decide +kernel
theorem dX7_put_4 : decode cX7_put 4 = .ok (.ifCond .lt 47, 3) := by decide +kernel
theorem dX7_put_7 : decode cX7_put 7 = .ok (.aload_n 0, 1) := by decide +kernel
theorem dX7_put_8 : decode cX7_put 8 = .ok (.getfield 18, 3) := by decide +kernel
theorem dX7_put_11 : decode cX7_put 11 = .ok (.sipush 400, 3) := by decide +kernel
theorem dX7_put_14 : decode cX7_put 14 = .ok (.if_icmp .ge 31, 3) := by decide +kernel
theorem dX7_put_17 : decode cX7_put 17 = .ok (.aload_n 0, 1) := by decide +kernel
theorem dX7_put_18 : decode cX7_put 18 = .ok (.getfield 14, 3) := by decide +kernel
theorem dX7_put_21 : decode cX7_put 21 = .ok (.aload_n 0, 1) := by decide +kernel
theorem dX7_put_22 : decode cX7_put 22 = .ok (.getfield 18, 3) := by decide +kernel
theorem dX7_put_25 : decode cX7_put 25 = .ok (.iload_n 1, 1) := by decide +kernel
theorem dX7_put_26 : decode cX7_put 26 = .ok (.iload_n 2, 1) := by decide +kernel
theorem dX7_put_27 : decode cX7_put 27 = .ok (.iushr, 1) := by decide +kernel
theorem dX7_put_28 : decode cX7_put 28 = .ok (.sipush 255, 3) := by decide +kernel
theorem dX7_put_31 : decode cX7_put 31 = .ok (.iand, 1) := by decide +kernel
theorem dX7_put_32 : decode cX7_put 32 = .ok (.invokevirtual 22, 3) := by decide +kernel
theorem dX7_put_35 : decode cX7_put 35 = .ok (.aload_n 0, 1) := by decide +kernel
theorem dX7_put_36 : decode cX7_put 36 = .ok (.dup, 1) := by decide +kernel
theorem dX7_put_37 : decode cX7_put 37 = .ok (.getfield 18, 3) := by decide +kernel
theorem dX7_put_40 : decode cX7_put 40 = .ok (.iconst 1, 1) := by decide +kernel
theorem dX7_put_41 : decode cX7_put 41 = .ok (.iadd, 1) := by decide +kernel
theorem dX7_put_42 : decode cX7_put 42 = .ok (.putfield 18, 3) := by decide +kernel
theorem dX7_put_45 : decode cX7_put 45 = .ok (.iinc 2 (-8), 3) := by decide +kernel
theorem dX7_put_48 : decode cX7_put 48 = .ok (.goto (-45), 3) := by decide +kernel
theorem dX7_put_51 : decode cX7_put 51 = .ok (.return_, 1) := by decide +kernel
theorem dX7_cut_0 : decode cX7_cut 0 = .ok (.iload_n 1, 1) := by decide +kernel
theorem dX7_cut_1 : decode cX7_cut 1 = .ok (.ifCond .lt 11, 3) := by decide +kernel
theorem dX7_cut_4 : decode cX7_cut 4 = .ok (.iload_n 1, 1) := by decide +kernel
theorem dX7_cut_5 : decode cX7_cut 5 = .ok (.aload_n 0, 1) := by decide +kernel
theorem dX7_cut_6 : decode cX7_cut 6 = .ok (.getfield 18, 3) := by decide +kernel
theorem dX7_cut_9 : decode cX7_cut 9 = .ok (.if_icmp .le 5, 3) := by decide +kernel
theorem dX7_cut_12 : decode cX7_cut 12 = .ok (.iconst 0, 1) := by decide +kernel
theorem dX7_cut_13 : decode cX7_cut 13 = .ok (.ireturn, 1) := by decide +kernel
theorem dX7_cut_14 : decode cX7_cut 14 = .ok (.aload_n 0, 1) := by decide +kernel
theorem dX7_cut_15 : decode cX7_cut 15 = .ok (.iload_n 1, 1) := by decide +kernel
theorem dX7_cut_16 : decode cX7_cut 16 = .ok (.putfield 18, 3) := by decide +kernel
theorem dX7_cut_19 : decode cX7_cut 19 = .ok (.iconst 1, 1) := by decide +kernel
theorem dX7_cut_20 : decode cX7_cut 20 = .ok (.ireturn, 1) := by decide +kernel
theorem dX7_use_0 : decode cX7_use 0 = .ok (.aload_n 0, 1) := by decide +kernel
theorem dX7_use_1 : decode cX7_use 1 = .ok (.getfield 18, 3) := by decide +kernel
theorem dX7_use_4 : decode cX7_use 4 = .ok (.istore_n 1, 1) := by decide +kernel
theorem dX7_use_5 : decode cX7_use 5 = .ok (.aload_n 0, 1) := by decide +kernel
theorem dX7_use_6 : decode cX7_use 6 = .ok (.iconst 0, 1) := by decide +kernel
theorem dX7_use_7 : decode cX7_use 7 = .ok (.putfield 18, 3) := by decide +kernel
theorem dX7_use_10 : decode cX7_use 10 = .ok (.iload_n 1, 1) := by decide +kernel
theorem dX7_use_11 : decode cX7_use 11 = .ok (.ireturn, 1) := by decide +kernel
theorem dX7_byteAt_0 : decode cX7_byteAt 0 = .ok (.aload_n 0, 1) := by decide +kernel
theorem dX7_byteAt_1 : decode cX7_byteAt 1 = .ok (.getfield 14, 3) := by decide +kernel
theorem dX7_byteAt_4 : decode cX7_byteAt 4 = .ok (.iload_n 1, 1) := by decide +kernel
theorem dX7_byteAt_5 : decode cX7_byteAt 5 = .ok (.invokevirtual 26, 3) := by decide +kernel
theorem dX7_byteAt_8 : decode cX7_byteAt 8 = .ok (.ireturn, 1) := by decide +kernel
theorem dX4_possibleBits_0 : decode cX4_possibleBits 0 = .ok (.aload_n 1, 1) := by decide +kernel
theorem dX4_possibleBits_1 : decode cX4_possibleBits 1 = .ok (.iload_n 3, 1) := by decide +kernel
theorem dX4_possibleBits_2 : decode cX4_possibleBits 2 = .ok (.iload 5, 2) := by decide +kernel
theorem dX4_possibleBits_4 : decode cX4_possibleBits 4 = .ok (.invokevirtual 48, 3) := by decide +kernel
theorem dX4_possibleBits_7 : decode cX4_possibleBits 7 = .ok (.istore 6, 2) := by decide +kernel
theorem dX4_possibleBits_9 : decode cX4_possibleBits 9 = .ok (.iconst 0, 1) := by decide +kernel
theorem dX4_possibleBits_10 : decode cX4_possibleBits 10 = .ok (.istore 7, 2) := by decide +kernel
theorem dX4_possibleBits_12 : decode cX4_possibleBits 12 = .ok (.iconst 0, 1) := by decide +kernel
theorem dX4_possibleBits_13 : decode cX4_possibleBits 13 = .ok (.istore 8, 2) := by decide +kernel
theorem dX4_possibleBits_15 : decode cX4_possibleBits 15 = .ok (.iload 8, 2) := by decide +kernel
theorem dX4_possibleBits_17 : decode cX4_possibleBits 17 = .ok (.aload_n 1, 1) := by decide +kernel
theorem dX4_possibleBits_18 : decode cX4_possibleBits 18 = .ok (.getfield 52, 3) := by decide +kernel
theorem dX4_possibleBits_21 : decode cX4_possibleBits 21 = .ok (.if_icmp .ge 46, 3) := by decide +kernel
theorem dX4_possibleBits_24 : decode cX4_possibleBits 24 = .ok (.aload_n 2, 1) := by decide +kernel
theorem dX4_possibleBits_25 : decode cX4_possibleBits 25 = .ok (.iload 8, 2) := by decide +kernel
theorem dX4_possibleBits_27 : decode cX4_possibleBits 27 = .ok (.invokevirtual 56, 3) := by decide +kernel
theorem dX4_possibleBits_30 : decode cX4_possibleBits 30 = .ok (.iconst 1, 1) := by decide +kernel
theorem dX4_possibleBits_31 : decode cX4_possibleBits 31 = .ok (.if_icmp .ne 30, 3) := by decide +kernel
theorem dX4_possibleBits_34 : decode cX4_possibleBits 34 = .ok (.aload_n 1, 1) := by decide +kernel
theorem dX4_possibleBits_35 : decode cX4_possibleBits 35 = .ok (.iload_n 3, 1) := by decide +kernel
theorem dX4_possibleBits_36 : decode cX4_possibleBits 36 = .ok (.iload 8, 2) := by decide +kernel
theorem dX4_possibleBits_38 : decode cX4_possibleBits 38 = .ok (.invokevirtual 48, 3) := by decide +kernel
theorem dX4_possibleBits_41 : decode cX4_possibleBits 41 = .ok (.iload 6, 2) := by decide +kernel
theorem dX4_possibleBits_43 : decode cX4_possibleBits 43 = .ok (.if_icmp .ne 18, 3) := by decide +kernel
theorem dX4_possibleBits_46 : decode cX4_possibleBits 46 = .ok (.iload 7, 2) := by decide +kernel
theorem dX4_possibleBits_48 : decode cX4_possibleBits 48 = .ok (.iconst 1, 1) := by decide +kernel
theorem dX4_possibleBits_49 : decode cX4_possibleBits 49 = .ok (.aload_n 1, 1) := by decide +kernel
theorem dX4_possibleBits_50 : decode cX4_possibleBits 50 = .ok (.iload 8, 2) := by decide +kernel
theorem dX4_possibleBits_52 : decode cX4_possibleBits 52 = .ok (.iload 4, 2) := by decide +kernel
theorem dX4_possibleBits_54 : decode cX4_possibleBits 54 = .ok (.invokevirtual 60, 3) := by decide +kernel
theorem dX4_possibleBits_57 : decode cX4_possibleBits 57 = .ok (.ishl, 1) := by decide +kernel
theorem dX4_possibleBits_58 : decode cX4_possibleBits 58 = .ok (.ior, 1) := by decide +kernel
theorem dX4_possibleBits_59 : decode cX4_possibleBits 59 = .ok (.istore 7, 2) := by decide +kernel
theorem dX4_possibleBits_61 : decode cX4_possibleBits 61 = .ok (.iinc 8 1, 3) := by decide +kernel
theorem dX4_possibleBits_64 : decode cX4_possibleBits 64 = .ok (.goto (-49), 3) := by decide +kernel
theorem dX4_possibleBits_67 : decode cX4_possibleBits 67 = .ok (.iload 7, 2) := by decide +kernel
theorem dX4_possibleBits_69 : decode cX4_possibleBits 69 = .ok (.ireturn, 1) := by decide +kernel
theorem dX4_onlyOne_0 : decode cX4_onlyOne 0 = .ok (.iload_n 1, 1) := by decide +kernel
theorem dX4_onlyOne_1 : decode cX4_onlyOne 1 = .ok (.invokestatic 63, 3) := by decide +kernel
theorem dX4_onlyOne_4 : decode cX4_onlyOne 4 = .ok (.iconst 1, 1) := by decide +kernel
theorem dX4_onlyOne_5 : decode cX4_onlyOne 5 = .ok (.if_icmp .ne 10, 3) := by decide +kernel
theorem dX4_onlyOne_8 : decode cX4_onlyOne 8 = .ok (.iload_n 1, 1) := by decide +kernel
theorem dX4_onlyOne_9 : decode cX4_onlyOne 9 = .ok (.invokestatic 68, 3) := by decide +kernel
theorem dX4_onlyOne_12 : decode cX4_onlyOne 12 = .ok (.goto 4, 3) := by decide +kernel
theorem dX4_onlyOne_15 : decode cX4_onlyOne 15 = .ok (.iconst (-1), 1) := by decide +kernel
theorem dX4_onlyOne_16 : decode cX4_onlyOne 16 = .ok (.ireturn, 1) := by decide +kernel
theorem dX4_isSure_0 : decode cX4_isSure 0 = .ok (.aload_n 0, 1) := by decide +kernel
theorem dX4_isSure_1 : decode cX4_isSure 1 = .ok (.aload_n 0, 1) := by decide +kernel
theorem dX4_isSure_2 : decode cX4_isSure 2 = .ok (.aload_n 1, 1) := by decide +kernel
theorem dX4_isSure_3 : decode cX4_isSure 3 = .ok (.aload_n 2, 1) := by decide +kernel
theorem dX4_isSure_4 : decode cX4_isSure 4 = .ok (.iload_n 3, 1) := by decide +kernel
theorem dX4_isSure_5 : decode cX4_isSure 5 = .ok (.iload_n 3, 1) := by decide +kernel
theorem dX4_isSure_6 : decode cX4_isSure 6 = .ok (.iload 4, 2) := by decide +kernel
theorem dX4_isSure_8 : decode cX4_isSure 8 = .ok (.invokevirtual 71, 3) := by decide +kernel
theorem dX4_isSure_11 : decode cX4_isSure 11 = .ok (.invokevirtual 75, 3) := by decide +kernel
theorem dX4_isSure_14 : decode cX4_isSure 14 = .ok (.iconst (-1), 1) := by decide +kernel
theorem dX4_isSure_15 : decode cX4_isSure 15 = .ok (.if_icmp .eq 7, 3) := by decide +kernel
theorem dX4_isSure_18 : decode cX4_isSure 18 = .ok (.iconst 1, 1) := by decide +kernel
theorem dX4_isSure_19 : decode cX4_isSure 19 = .ok (.goto 4, 3) := by decide +kernel
theorem dX4_isSure_22 : decode cX4_isSure 22 = .ok (.iconst 0, 1) := by decide +kernel
theorem dX4_isSure_23 : decode cX4_isSure 23 = .ok (.ireturn, 1) := by decide +kernel
theorem dX4_sureBits_0 : decode cX4_sureBits 0 = .ok (.iconst 0, 1) := by decide +kernel
theorem dX4_sureBits_1 : decode cX4_sureBits 1 = .ok (.istore_n 3, 1) := by decide +kernel
theorem dX4_sureBits_2 : decode cX4_sureBits 2 = .ok (.iconst 0, 1) := by decide +kernel
theorem dX4_sureBits_3 : decode cX4_sureBits 3 = .ok (.istore 4, 2) := by decide +kernel
theorem dX4_sureBits_5 : decode cX4_sureBits 5 = .ok (.iload 4, 2) := by decide +kernel
theorem dX4_sureBits_7 : decode cX4_sureBits 7 = .ok (.aload_n 1, 1) := by decide +kernel
theorem dX4_sureBits_8 : decode cX4_sureBits 8 = .ok (.getfield 78, 3) := by decide +kernel
theorem dX4_sureBits_11 : decode cX4_sureBits 11 = .ok (.if_icmp .ge 38, 3) := by decide +kernel
theorem dX4_sureBits_14 : decode cX4_sureBits 14 = .ok (.aload_n 0, 1) := by decide +kernel
theorem dX4_sureBits_15 : decode cX4_sureBits 15 = .ok (.aload_n 0, 1) := by decide +kernel
theorem dX4_sureBits_16 : decode cX4_sureBits 16 = .ok (.aload_n 1, 1) := by decide +kernel
theorem dX4_sureBits_17 : decode cX4_sureBits 17 = .ok (.aload_n 2, 1) := by decide +kernel
theorem dX4_sureBits_18 : decode cX4_sureBits 18 = .ok (.iload 4, 2) := by decide +kernel
theorem dX4_sureBits_20 : decode cX4_sureBits 20 = .ok (.iload 4, 2) := by decide +kernel
theorem dX4_sureBits_22 : decode cX4_sureBits 22 = .ok (.aload_n 1, 1) := by decide +kernel
theorem dX4_sureBits_23 : decode cX4_sureBits 23 = .ok (.getfield 81, 3) := by decide +kernel
theorem dX4_sureBits_26 : decode cX4_sureBits 26 = .ok (.invokevirtual 71, 3) := by decide +kernel
theorem dX4_sureBits_29 : decode cX4_sureBits 29 = .ok (.invokevirtual 75, 3) := by decide +kernel
theorem dX4_sureBits_32 : decode cX4_sureBits 32 = .ok (.iconst (-1), 1) := by decide +kernel
theorem dX4_sureBits_33 : decode cX4_sureBits 33 = .ok (.if_icmp .eq 10, 3) := by decide +kernel
theorem dX4_sureBits_36 : decode cX4_sureBits 36 = .ok (.iload_n 3, 1) := by decide +kernel
theorem dX4_sureBits_37 : decode cX4_sureBits 37 = .ok (.iconst 1, 1) := by decide +kernel
theorem dX4_sureBits_38 : decode cX4_sureBits 38 = .ok (.iload 4, 2) := by decide +kernel
theorem dX4_sureBits_40 : decode cX4_sureBits 40 = .ok (.ishl, 1) := by decide +kernel
theorem dX4_sureBits_41 : decode cX4_sureBits 41 = .ok (.ior, 1) := by decide +kernel
theorem dX4_sureBits_42 : decode cX4_sureBits 42 = .ok (.istore_n 3, 1) := by decide +kernel
theorem dX4_sureBits_43 : decode cX4_sureBits 43 = .ok (.iinc 4 1, 3) := by decide +kernel
theorem dX4_sureBits_46 : decode cX4_sureBits 46 = .ok (.goto (-41), 3) := by decide +kernel
theorem dX4_sureBits_49 : decode cX4_sureBits 49 = .ok (.iload_n 3, 1) := by decide +kernel
theorem dX4_sureBits_50 : decode cX4_sureBits 50 = .ok (.ireturn, 1) := by decide +kernel
theorem dX4_knownBits_0 : decode cX4_knownBits 0 = .ok (.iconst 0, 1) := by decide +kernel
theorem dX4_knownBits_1 : decode cX4_knownBits 1 = .ok (.istore_n 3, 1) := by decide +kernel
theorem dX4_knownBits_2 : decode cX4_knownBits 2 = .ok (.iconst 0, 1) := by decide +kernel
theorem dX4_knownBits_3 : decode cX4_knownBits 3 = .ok (.istore 4, 2) := by decide +kernel
theorem dX4_knownBits_5 : decode cX4_knownBits 5 = .ok (.iload 4, 2) := by decide +kernel
theorem dX4_knownBits_7 : decode cX4_knownBits 7 = .ok (.aload_n 1, 1) := by decide +kernel
theorem dX4_knownBits_8 : decode cX4_knownBits 8 = .ok (.getfield 78, 3) := by decide +kernel
theorem dX4_knownBits_11 : decode cX4_knownBits 11 = .ok (.if_icmp .ge 40, 3) := by decide +kernel
theorem dX4_knownBits_14 : decode cX4_knownBits 14 = .ok (.aload_n 0, 1) := by decide +kernel
theorem dX4_knownBits_15 : decode cX4_knownBits 15 = .ok (.aload_n 0, 1) := by decide +kernel
theorem dX4_knownBits_16 : decode cX4_knownBits 16 = .ok (.aload_n 1, 1) := by decide +kernel
theorem dX4_knownBits_17 : decode cX4_knownBits 17 = .ok (.aload_n 1, 1) := by decide +kernel
theorem dX4_knownBits_18 : decode cX4_knownBits 18 = .ok (.getfield 84, 3) := by decide +kernel
theorem dX4_knownBits_21 : decode cX4_knownBits 21 = .ok (.iload_n 2, 1) := by decide +kernel
theorem dX4_knownBits_22 : decode cX4_knownBits 22 = .ok (.iload 4, 2) := by decide +kernel
theorem dX4_knownBits_24 : decode cX4_knownBits 24 = .ok (.aload_n 1, 1) := by decide +kernel
theorem dX4_knownBits_25 : decode cX4_knownBits 25 = .ok (.getfield 81, 3) := by decide +kernel
theorem dX4_knownBits_28 : decode cX4_knownBits 28 = .ok (.invokevirtual 71, 3) := by decide +kernel
theorem dX4_knownBits_31 : decode cX4_knownBits 31 = .ok (.invokevirtual 75, 3) := by decide +kernel
theorem dX4_knownBits_34 : decode cX4_knownBits 34 = .ok (.iconst (-1), 1) := by decide +kernel
theorem dX4_knownBits_35 : decode cX4_knownBits 35 = .ok (.if_icmp .eq 10, 3) := by decide +kernel
theorem dX4_knownBits_38 : decode cX4_knownBits 38 = .ok (.iload_n 3, 1) := by decide +kernel
theorem dX4_knownBits_39 : decode cX4_knownBits 39 = .ok (.iconst 1, 1) := by decide +kernel
theorem dX4_knownBits_40 : decode cX4_knownBits 40 = .ok (.iload 4, 2) := by decide +kernel
theorem dX4_knownBits_42 : decode cX4_knownBits 42 = .ok (.ishl, 1) := by decide +kernel
theorem dX4_knownBits_43 : decode cX4_knownBits 43 = .ok (.ior, 1) := by decide +kernel
theorem dX4_knownBits_44 : decode cX4_knownBits 44 = .ok (.istore_n 3, 1) := by decide +kernel
theorem dX4_knownBits_45 : decode cX4_knownBits 45 = .ok (.iinc 4 1, 3) := by decide +kernel
theorem dX4_knownBits_48 : decode cX4_knownBits 48 = .ok (.goto (-43), 3) := by decide +kernel
theorem dX4_knownBits_51 : decode cX4_knownBits 51 = .ok (.iload_n 3, 1) := by decide +kernel
theorem dX4_knownBits_52 : decode cX4_knownBits 52 = .ok (.ireturn, 1) := by decide +kernel
theorem dX4_manyPossible_0 : decode cX4_manyPossible 0 = .ok (.iconst 0, 1) := by decide +kernel
theorem dX4_manyPossible_1 : decode cX4_manyPossible 1 = .ok (.istore_n 3, 1) := by decide +kernel
theorem dX4_manyPossible_2 : decode cX4_manyPossible 2 = .ok (.iconst 0, 1) := by decide +kernel
theorem dX4_manyPossible_3 : decode cX4_manyPossible 3 = .ok (.istore 4, 2) := by decide +kernel
theorem dX4_manyPossible_5 : decode cX4_manyPossible 5 = .ok (.iload 4, 2) := by decide +kernel
theorem dX4_manyPossible_7 : decode cX4_manyPossible 7 = .ok (.aload_n 1, 1) := by decide +kernel
theorem dX4_manyPossible_8 : decode cX4_manyPossible 8 = .ok (.getfield 78, 3) := by decide +kernel
theorem dX4_manyPossible_11 : decode cX4_manyPossible 11 = .ok (.if_icmp .ge 31, 3) := by decide +kernel
theorem dX4_manyPossible_14 : decode cX4_manyPossible 14 = .ok (.iload_n 3, 1) := by decide +kernel
theorem dX4_manyPossible_15 : decode cX4_manyPossible 15 = .ok (.aload_n 0, 1) := by decide +kernel
theorem dX4_manyPossible_16 : decode cX4_manyPossible 16 = .ok (.aload_n 1, 1) := by decide +kernel
theorem dX4_manyPossible_17 : decode cX4_manyPossible 17 = .ok (.aload_n 1, 1) := by decide +kernel
theorem dX4_manyPossible_18 : decode cX4_manyPossible 18 = .ok (.getfield 84, 3) := by decide +kernel
theorem dX4_manyPossible_21 : decode cX4_manyPossible 21 = .ok (.iload_n 2, 1) := by decide +kernel
theorem dX4_manyPossible_22 : decode cX4_manyPossible 22 = .ok (.iload 4, 2) := by decide +kernel
theorem dX4_manyPossible_24 : decode cX4_manyPossible 24 = .ok (.aload_n 1, 1) := by decide +kernel
theorem dX4_manyPossible_25 : decode cX4_manyPossible 25 = .ok (.getfield 81, 3) := by decide +kernel
theorem dX4_manyPossible_28 : decode cX4_manyPossible 28 = .ok (.invokevirtual 71, 3) := by decide +kernel
theorem dX4_manyPossible_31 : decode cX4_manyPossible 31 = .ok (.invokestatic 63, 3) := by decide +kernel
theorem dX4_manyPossible_34 : decode cX4_manyPossible 34 = .ok (.iadd, 1) := by decide +kernel
theorem dX4_manyPossible_35 : decode cX4_manyPossible 35 = .ok (.istore_n 3, 1) := by decide +kernel
theorem dX4_manyPossible_36 : decode cX4_manyPossible 36 = .ok (.iinc 4 1, 3) := by decide +kernel
theorem dX4_manyPossible_39 : decode cX4_manyPossible 39 = .ok (.goto (-34), 3) := by decide +kernel
theorem dX4_manyPossible_42 : decode cX4_manyPossible 42 = .ok (.iload_n 3, 1) := by decide +kernel
theorem dX4_manyPossible_43 : decode cX4_manyPossible 43 = .ok (.ireturn, 1) := by decide +kernel
theorem dX4_manyLeft_0 : decode cX4_manyLeft 0 = .ok (.iconst 0, 1) := by decide +kernel
theorem dX4_manyLeft_1 : decode cX4_manyLeft 1 = .ok (.istore_n 2, 1) := by decide +kernel
theorem dX4_manyLeft_2 : decode cX4_manyLeft 2 = .ok (.iconst 0, 1) := by decide +kernel
theorem dX4_manyLeft_3 : decode cX4_manyLeft 3 = .ok (.istore_n 3, 1) := by decide +kernel
theorem dX4_manyLeft_4 : decode cX4_manyLeft 4 = .ok (.iload_n 3, 1) := by decide +kernel
theorem dX4_manyLeft_5 : decode cX4_manyLeft 5 = .ok (.aload_n 1, 1) := by decide +kernel
theorem dX4_manyLeft_6 : decode cX4_manyLeft 6 = .ok (.getfield 52, 3) := by decide +kernel
theorem dX4_manyLeft_9 : decode cX4_manyLeft 9 = .ok (.if_icmp .ge 25, 3) := by decide +kernel
theorem dX4_manyLeft_12 : decode cX4_manyLeft 12 = .ok (.iload_n 2, 1) := by decide +kernel
theorem dX4_manyLeft_13 : decode cX4_manyLeft 13 = .ok (.aload_n 1, 1) := by decide +kernel
theorem dX4_manyLeft_14 : decode cX4_manyLeft 14 = .ok (.iload_n 3, 1) := by decide +kernel
theorem dX4_manyLeft_15 : decode cX4_manyLeft 15 = .ok (.invokevirtual 87, 3) := by decide +kernel
theorem dX4_manyLeft_18 : decode cX4_manyLeft 18 = .ok (.ifCond .eq 7, 3) := by decide +kernel
theorem dX4_manyLeft_21 : decode cX4_manyLeft 21 = .ok (.iconst 1, 1) := by decide +kernel
theorem dX4_manyLeft_22 : decode cX4_manyLeft 22 = .ok (.goto 4, 3) := by decide +kernel
theorem dX4_manyLeft_25 : decode cX4_manyLeft 25 = .ok (.iconst 0, 1) := by decide +kernel
theorem dX4_manyLeft_26 : decode cX4_manyLeft 26 = .ok (.iadd, 1) := by decide +kernel
theorem dX4_manyLeft_27 : decode cX4_manyLeft 27 = .ok (.istore_n 2, 1) := by decide +kernel
theorem dX4_manyLeft_28 : decode cX4_manyLeft 28 = .ok (.iinc 3 1, 3) := by decide +kernel
theorem dX4_manyLeft_31 : decode cX4_manyLeft 31 = .ok (.goto (-27), 3) := by decide +kernel
theorem dX4_manyLeft_34 : decode cX4_manyLeft 34 = .ok (.iload_n 2, 1) := by decide +kernel
theorem dX4_manyLeft_35 : decode cX4_manyLeft 35 = .ok (.ireturn, 1) := by decide +kernel
theorem dX4_holdsWorld_0 : decode cX4_holdsWorld 0 = .ok (.aload_n 1, 1) := by decide +kernel
theorem dX4_holdsWorld_1 : decode cX4_holdsWorld 1 = .ok (.iload_n 3, 1) := by decide +kernel
theorem dX4_holdsWorld_2 : decode cX4_holdsWorld 2 = .ok (.invokevirtual 87, 3) := by decide +kernel
theorem dX4_holdsWorld_5 : decode cX4_holdsWorld 5 = .ok (.ifCond .eq 25, 3) := by decide +kernel
theorem dX4_holdsWorld_8 : decode cX4_holdsWorld 8 = .ok (.aload_n 1, 1) := by decide +kernel
theorem dX4_holdsWorld_9 : decode cX4_holdsWorld 9 = .ok (.iload_n 2, 1) := by decide +kernel
theorem dX4_holdsWorld_10 : decode cX4_holdsWorld 10 = .ok (.iload_n 3, 1) := by decide +kernel
theorem dX4_holdsWorld_11 : decode cX4_holdsWorld 11 = .ok (.invokevirtual 48, 3) := by decide +kernel
theorem dX4_holdsWorld_14 : decode cX4_holdsWorld 14 = .ok (.aload_n 1, 1) := by decide +kernel
theorem dX4_holdsWorld_15 : decode cX4_holdsWorld 15 = .ok (.iload_n 2, 1) := by decide +kernel
theorem dX4_holdsWorld_16 : decode cX4_holdsWorld 16 = .ok (.aload_n 1, 1) := by decide +kernel
theorem dX4_holdsWorld_17 : decode cX4_holdsWorld 17 = .ok (.getfield 81, 3) := by decide +kernel
theorem dX4_holdsWorld_20 : decode cX4_holdsWorld 20 = .ok (.invokevirtual 48, 3) := by decide +kernel
theorem dX4_holdsWorld_23 : decode cX4_holdsWorld 23 = .ok (.if_icmp .ne 7, 3) := by decide +kernel
theorem dX4_holdsWorld_26 : decode cX4_holdsWorld 26 = .ok (.iconst 1, 1) := by decide +kernel
theorem dX4_holdsWorld_27 : decode cX4_holdsWorld 27 = .ok (.goto 4, 3) := by decide +kernel
theorem dX4_holdsWorld_30 : decode cX4_holdsWorld 30 = .ok (.iconst 0, 1) := by decide +kernel
theorem dX4_holdsWorld_31 : decode cX4_holdsWorld 31 = .ok (.ireturn, 1) := by decide +kernel
theorem dX4_holds_0 : decode cX4_holds 0 = .ok (.iconst 0, 1) := by decide +kernel
theorem dX4_holds_1 : decode cX4_holds 1 = .ok (.istore_n 3, 1) := by decide +kernel
theorem dX4_holds_2 : decode cX4_holds 2 = .ok (.iconst 0, 1) := by decide +kernel
theorem dX4_holds_3 : decode cX4_holds 3 = .ok (.istore 4, 2) := by decide +kernel
theorem dX4_holds_5 : decode cX4_holds 5 = .ok (.iload 4, 2) := by decide +kernel
theorem dX4_holds_7 : decode cX4_holds 7 = .ok (.aload_n 1, 1) := by decide +kernel
theorem dX4_holds_8 : decode cX4_holds 8 = .ok (.getfield 52, 3) := by decide +kernel
theorem dX4_holds_11 : decode cX4_holds 11 = .ok (.if_icmp .ge 28, 3) := by decide +kernel
theorem dX4_holds_14 : decode cX4_holds 14 = .ok (.iload_n 3, 1) := by decide +kernel
theorem dX4_holds_15 : decode cX4_holds 15 = .ok (.aload_n 0, 1) := by decide +kernel
theorem dX4_holds_16 : decode cX4_holds 16 = .ok (.aload_n 1, 1) := by decide +kernel
theorem dX4_holds_17 : decode cX4_holds 17 = .ok (.iload_n 2, 1) := by decide +kernel
theorem dX4_holds_18 : decode cX4_holds 18 = .ok (.iload 4, 2) := by decide +kernel
theorem dX4_holds_20 : decode cX4_holds 20 = .ok (.invokevirtual 91, 3) := by decide +kernel
theorem dX4_holds_23 : decode cX4_holds 23 = .ok (.ifCond .eq 7, 3) := by decide +kernel
theorem dX4_holds_26 : decode cX4_holds 26 = .ok (.iconst 1, 1) := by decide +kernel
theorem dX4_holds_27 : decode cX4_holds 27 = .ok (.goto 4, 3) := by decide +kernel
theorem dX4_holds_30 : decode cX4_holds 30 = .ok (.iconst 0, 1) := by decide +kernel
theorem dX4_holds_31 : decode cX4_holds 31 = .ok (.iadd, 1) := by decide +kernel
theorem dX4_holds_32 : decode cX4_holds 32 = .ok (.istore_n 3, 1) := by decide +kernel
theorem dX4_holds_33 : decode cX4_holds 33 = .ok (.iinc 4 1, 3) := by decide +kernel
theorem dX4_holds_36 : decode cX4_holds 36 = .ok (.goto (-31), 3) := by decide +kernel
theorem dX4_holds_39 : decode cX4_holds 39 = .ok (.iload_n 3, 1) := by decide +kernel
theorem dX4_holds_40 : decode cX4_holds 40 = .ok (.ireturn, 1) := by decide +kernel
theorem dX4_heldAt_0 : decode cX4_heldAt 0 = .ok (.iconst 0, 1) := by decide +kernel
theorem dX4_heldAt_1 : decode cX4_heldAt 1 = .ok (.istore 4, 2) := by decide +kernel
theorem dX4_heldAt_3 : decode cX4_heldAt 3 = .ok (.iconst 0, 1) := by decide +kernel
theorem dX4_heldAt_4 : decode cX4_heldAt 4 = .ok (.istore 5, 2) := by decide +kernel
theorem dX4_heldAt_6 : decode cX4_heldAt 6 = .ok (.iload 5, 2) := by decide +kernel
theorem dX4_heldAt_8 : decode cX4_heldAt 8 = .ok (.aload_n 1, 1) := by decide +kernel
theorem dX4_heldAt_9 : decode cX4_heldAt 9 = .ok (.getfield 52, 3) := by decide +kernel
theorem dX4_heldAt_12 : decode cX4_heldAt 12 = .ok (.if_icmp .ge 49, 3) := by decide +kernel
theorem dX4_heldAt_15 : decode cX4_heldAt 15 = .ok (.iload_n 2, 1) := by decide +kernel
theorem dX4_heldAt_16 : decode cX4_heldAt 16 = .ok (.iconst (-1), 1) := by decide +kernel
theorem dX4_heldAt_17 : decode cX4_heldAt 17 = .ok (.if_icmp .ne 15, 3) := by decide +kernel
theorem dX4_heldAt_20 : decode cX4_heldAt 20 = .ok (.aload_n 1, 1) := by decide +kernel
theorem dX4_heldAt_21 : decode cX4_heldAt 21 = .ok (.iload 5, 2) := by decide +kernel
theorem dX4_heldAt_23 : decode cX4_heldAt 23 = .ok (.invokevirtual 87, 3) := by decide +kernel
theorem dX4_heldAt_26 : decode cX4_heldAt 26 = .ok (.ifCond .eq 29, 3) := by decide +kernel
theorem dX4_heldAt_29 : decode cX4_heldAt 29 = .ok (.goto 14, 3) := by decide +kernel
theorem dX4_heldAt_32 : decode cX4_heldAt 32 = .ok (.aload_n 0, 1) := by decide +kernel
theorem dX4_heldAt_33 : decode cX4_heldAt 33 = .ok (.aload_n 1, 1) := by decide +kernel
theorem dX4_heldAt_34 : decode cX4_heldAt 34 = .ok (.iload_n 2, 1) := by decide +kernel
theorem dX4_heldAt_35 : decode cX4_heldAt 35 = .ok (.iload 5, 2) := by decide +kernel
theorem dX4_heldAt_37 : decode cX4_heldAt 37 = .ok (.invokevirtual 91, 3) := by decide +kernel
theorem dX4_heldAt_40 : decode cX4_heldAt 40 = .ok (.ifCond .eq 15, 3) := by decide +kernel
theorem dX4_heldAt_43 : decode cX4_heldAt 43 = .ok (.iload 4, 2) := by decide +kernel
theorem dX4_heldAt_45 : decode cX4_heldAt 45 = .ok (.iload_n 3, 1) := by decide +kernel
theorem dX4_heldAt_46 : decode cX4_heldAt 46 = .ok (.if_icmp .ne 6, 3) := by decide +kernel
theorem dX4_heldAt_49 : decode cX4_heldAt 49 = .ok (.iload 5, 2) := by decide +kernel
theorem dX4_heldAt_51 : decode cX4_heldAt 51 = .ok (.ireturn, 1) := by decide +kernel
theorem dX4_heldAt_52 : decode cX4_heldAt 52 = .ok (.iinc 4 1, 3) := by decide +kernel
theorem dX4_heldAt_55 : decode cX4_heldAt 55 = .ok (.iinc 5 1, 3) := by decide +kernel
theorem dX4_heldAt_58 : decode cX4_heldAt 58 = .ok (.goto (-52), 3) := by decide +kernel
theorem dX4_heldAt_61 : decode cX4_heldAt 61 = .ok (.iconst (-1), 1) := by decide +kernel
theorem dX4_heldAt_62 : decode cX4_heldAt 62 = .ok (.ireturn, 1) := by decide +kernel
theorem dX4_spot_0 : decode cX4_spot 0 = .ok (.aload_n 0, 1) := by decide +kernel
theorem dX4_spot_1 : decode cX4_spot 1 = .ok (.getfield 22, 3) := by decide +kernel
theorem dX4_spot_4 : decode cX4_spot 4 = .ok (.iconst 0, 1) := by decide +kernel
theorem dX4_spot_5 : decode cX4_spot 5 = .ok (.aload_n 1, 1) := by decide +kernel
theorem dX4_spot_6 : decode cX4_spot 6 = .ok (.getfield 52, 3) := by decide +kernel
theorem dX4_spot_9 : decode cX4_spot 9 = .ok (.invokevirtual 103, 3) := by decide +kernel
theorem dX4_spot_12 : decode cX4_spot 12 = .ok (.iconst 0, 1) := by decide +kernel
theorem dX4_spot_13 : decode cX4_spot 13 = .ok (.istore 5, 2) := by decide +kernel
theorem dX4_spot_15 : decode cX4_spot 15 = .ok (.iload 5, 2) := by decide +kernel
theorem dX4_spot_17 : decode cX4_spot 17 = .ok (.aload_n 1, 1) := by decide +kernel
theorem dX4_spot_18 : decode cX4_spot 18 = .ok (.getfield 52, 3) := by decide +kernel
theorem dX4_spot_21 : decode cX4_spot 21 = .ok (.if_icmp .ge 43, 3) := by decide +kernel
theorem dX4_spot_24 : decode cX4_spot 24 = .ok (.aload_n 2, 1) := by decide +kernel
theorem dX4_spot_25 : decode cX4_spot 25 = .ok (.iload 5, 2) := by decide +kernel
theorem dX4_spot_27 : decode cX4_spot 27 = .ok (.invokevirtual 56, 3) := by decide +kernel
theorem dX4_spot_30 : decode cX4_spot 30 = .ok (.iconst 1, 1) := by decide +kernel
theorem dX4_spot_31 : decode cX4_spot 31 = .ok (.if_icmp .ne 27, 3) := by decide +kernel
theorem dX4_spot_34 : decode cX4_spot 34 = .ok (.aload_n 0, 1) := by decide +kernel
theorem dX4_spot_35 : decode cX4_spot 35 = .ok (.getfield 22, 3) := by decide +kernel
theorem dX4_spot_38 : decode cX4_spot 38 = .ok (.aload_n 1, 1) := by decide +kernel
theorem dX4_spot_39 : decode cX4_spot 39 = .ok (.iload_n 3, 1) := by decide +kernel
theorem dX4_spot_40 : decode cX4_spot 40 = .ok (.iload 5, 2) := by decide +kernel
theorem dX4_spot_42 : decode cX4_spot 42 = .ok (.invokevirtual 48, 3) := by decide +kernel
theorem dX4_spot_45 : decode cX4_spot 45 = .ok (.iconst 1, 1) := by decide +kernel
theorem dX4_spot_46 : decode cX4_spot 46 = .ok (.aload_n 1, 1) := by decide +kernel
theorem dX4_spot_47 : decode cX4_spot 47 = .ok (.iload 5, 2) := by decide +kernel
theorem dX4_spot_49 : decode cX4_spot 49 = .ok (.iload 4, 2) := by decide +kernel
theorem dX4_spot_51 : decode cX4_spot 51 = .ok (.invokevirtual 60, 3) := by decide +kernel
theorem dX4_spot_54 : decode cX4_spot 54 = .ok (.ishl, 1) := by decide +kernel
theorem dX4_spot_55 : decode cX4_spot 55 = .ok (.invokevirtual 107, 3) := by decide +kernel
theorem dX4_spot_58 : decode cX4_spot 58 = .ok (.iinc 5 1, 3) := by decide +kernel
theorem dX4_spot_61 : decode cX4_spot 61 = .ok (.goto (-46), 3) := by decide +kernel
theorem dX4_spot_64 : decode cX4_spot 64 = .ok (.return_, 1) := by decide +kernel
theorem dX4_spotted_0 : decode cX4_spotted 0 = .ok (.aload_n 0, 1) := by decide +kernel
theorem dX4_spotted_1 : decode cX4_spotted 1 = .ok (.getfield 22, 3) := by decide +kernel
theorem dX4_spotted_4 : decode cX4_spotted 4 = .ok (.aload_n 1, 1) := by decide +kernel
theorem dX4_spotted_5 : decode cX4_spotted 5 = .ok (.iload_n 2, 1) := by decide +kernel
theorem dX4_spotted_6 : decode cX4_spotted 6 = .ok (.iload_n 3, 1) := by decide +kernel
theorem dX4_spotted_7 : decode cX4_spotted 7 = .ok (.invokevirtual 48, 3) := by decide +kernel
theorem dX4_spotted_10 : decode cX4_spotted 10 = .ok (.invokevirtual 56, 3) := by decide +kernel
theorem dX4_spotted_13 : decode cX4_spotted 13 = .ok (.ireturn, 1) := by decide +kernel
theorem dX4_knowsThat_0 : decode cX4_knowsThat 0 = .ok (.aload_n 0, 1) := by decide +kernel
theorem dX4_knowsThat_1 : decode cX4_knowsThat 1 = .ok (.aload_n 1, 1) := by decide +kernel
theorem dX4_knowsThat_2 : decode cX4_knowsThat 2 = .ok (.aload_n 1, 1) := by decide +kernel
theorem dX4_knowsThat_3 : decode cX4_knowsThat 3 = .ok (.getfield 84, 3) := by decide +kernel
theorem dX4_knowsThat_6 : decode cX4_knowsThat 6 = .ok (.iload_n 3, 1) := by decide +kernel
theorem dX4_knowsThat_7 : decode cX4_knowsThat 7 = .ok (.iload 4, 2) := by decide +kernel
theorem dX4_knowsThat_9 : decode cX4_knowsThat 9 = .ok (.invokevirtual 95, 3) := by decide +kernel
theorem dX4_knowsThat_12 : decode cX4_knowsThat 12 = .ok (.iconst 0, 1) := by decide +kernel
theorem dX4_knowsThat_13 : decode cX4_knowsThat 13 = .ok (.istore 5, 2) := by decide +kernel
theorem dX4_knowsThat_15 : decode cX4_knowsThat 15 = .ok (.iload 5, 2) := by decide +kernel
theorem dX4_knowsThat_17 : decode cX4_knowsThat 17 = .ok (.aload_n 1, 1) := by decide +kernel
theorem dX4_knowsThat_18 : decode cX4_knowsThat 18 = .ok (.getfield 52, 3) := by decide +kernel
theorem dX4_knowsThat_21 : decode cX4_knowsThat 21 = .ok (.if_icmp .ge 38, 3) := by decide +kernel
theorem dX4_knowsThat_24 : decode cX4_knowsThat 24 = .ok (.aload_n 0, 1) := by decide +kernel
theorem dX4_knowsThat_25 : decode cX4_knowsThat 25 = .ok (.aload_n 1, 1) := by decide +kernel
theorem dX4_knowsThat_26 : decode cX4_knowsThat 26 = .ok (.iload_n 2, 1) := by decide +kernel
theorem dX4_knowsThat_27 : decode cX4_knowsThat 27 = .ok (.iload 5, 2) := by decide +kernel
theorem dX4_knowsThat_29 : decode cX4_knowsThat 29 = .ok (.invokevirtual 91, 3) := by decide +kernel
theorem dX4_knowsThat_32 : decode cX4_knowsThat 32 = .ok (.ifCond .eq 21, 3) := by decide +kernel
theorem dX4_knowsThat_35 : decode cX4_knowsThat 35 = .ok (.aload_n 0, 1) := by decide +kernel
theorem dX4_knowsThat_36 : decode cX4_knowsThat 36 = .ok (.aload_n 0, 1) := by decide +kernel
theorem dX4_knowsThat_37 : decode cX4_knowsThat 37 = .ok (.aload_n 1, 1) := by decide +kernel
theorem dX4_knowsThat_38 : decode cX4_knowsThat 38 = .ok (.iload_n 3, 1) := by decide +kernel
theorem dX4_knowsThat_39 : decode cX4_knowsThat 39 = .ok (.iload 5, 2) := by decide +kernel
theorem dX4_knowsThat_41 : decode cX4_knowsThat 41 = .ok (.invokevirtual 99, 3) := by decide +kernel
theorem dX4_knowsThat_44 : decode cX4_knowsThat 44 = .ok (.invokevirtual 75, 3) := by decide +kernel
theorem dX4_knowsThat_47 : decode cX4_knowsThat 47 = .ok (.iconst (-1), 1) := by decide +kernel
theorem dX4_knowsThat_48 : decode cX4_knowsThat 48 = .ok (.if_icmp .ne 5, 3) := by decide +kernel
theorem dX4_knowsThat_51 : decode cX4_knowsThat 51 = .ok (.iconst 0, 1) := by decide +kernel
theorem dX4_knowsThat_52 : decode cX4_knowsThat 52 = .ok (.ireturn, 1) := by decide +kernel
theorem dX4_knowsThat_53 : decode cX4_knowsThat 53 = .ok (.iinc 5 1, 3) := by decide +kernel
theorem dX4_knowsThat_56 : decode cX4_knowsThat 56 = .ok (.goto (-41), 3) := by decide +kernel
theorem dX4_knowsThat_59 : decode cX4_knowsThat 59 = .ok (.iconst 1, 1) := by decide +kernel
theorem dX4_knowsThat_60 : decode cX4_knowsThat 60 = .ok (.ireturn, 1) := by decide +kernel
theorem dX4_spread_0 : decode cX4_spread 0 = .ok (.aload_n 0, 1) := by decide +kernel
theorem dX4_spread_1 : decode cX4_spread 1 = .ok (.getfield 22, 3) := by decide +kernel
theorem dX4_spread_4 : decode cX4_spread 4 = .ok (.iconst 0, 1) := by decide +kernel
theorem dX4_spread_5 : decode cX4_spread 5 = .ok (.aload_n 1, 1) := by decide +kernel
theorem dX4_spread_6 : decode cX4_spread 6 = .ok (.getfield 52, 3) := by decide +kernel
theorem dX4_spread_9 : decode cX4_spread 9 = .ok (.invokevirtual 103, 3) := by decide +kernel
theorem dX4_spread_12 : decode cX4_spread 12 = .ok (.iconst 0, 1) := by decide +kernel
theorem dX4_spread_13 : decode cX4_spread 13 = .ok (.istore_n 3, 1) := by decide +kernel
theorem dX4_spread_14 : decode cX4_spread 14 = .ok (.iload_n 3, 1) := by decide +kernel
theorem dX4_spread_15 : decode cX4_spread 15 = .ok (.aload_n 1, 1) := by decide +kernel
theorem dX4_spread_16 : decode cX4_spread 16 = .ok (.getfield 52, 3) := by decide +kernel
theorem dX4_spread_19 : decode cX4_spread 19 = .ok (.if_icmp .ge 35, 3) := by decide +kernel
theorem dX4_spread_22 : decode cX4_spread 22 = .ok (.aload_n 0, 1) := by decide +kernel
theorem dX4_spread_23 : decode cX4_spread 23 = .ok (.getfield 31, 3) := by decide +kernel
theorem dX4_spread_26 : decode cX4_spread 26 = .ok (.iload_n 3, 1) := by decide +kernel
theorem dX4_spread_27 : decode cX4_spread 27 = .ok (.invokevirtual 56, 3) := by decide +kernel
theorem dX4_spread_30 : decode cX4_spread 30 = .ok (.iconst 1, 1) := by decide +kernel
theorem dX4_spread_31 : decode cX4_spread 31 = .ok (.if_icmp .ne 17, 3) := by decide +kernel
theorem dX4_spread_34 : decode cX4_spread 34 = .ok (.aload_n 0, 1) := by decide +kernel
theorem dX4_spread_35 : decode cX4_spread 35 = .ok (.getfield 22, 3) := by decide +kernel
theorem dX4_spread_38 : decode cX4_spread 38 = .ok (.aload_n 1, 1) := by decide +kernel
theorem dX4_spread_39 : decode cX4_spread 39 = .ok (.iload_n 2, 1) := by decide +kernel
theorem dX4_spread_40 : decode cX4_spread 40 = .ok (.iload_n 3, 1) := by decide +kernel
theorem dX4_spread_41 : decode cX4_spread 41 = .ok (.invokevirtual 48, 3) := by decide +kernel
theorem dX4_spread_44 : decode cX4_spread 44 = .ok (.iconst 1, 1) := by decide +kernel
theorem dX4_spread_45 : decode cX4_spread 45 = .ok (.invokevirtual 110, 3) := by decide +kernel
theorem dX4_spread_48 : decode cX4_spread 48 = .ok (.iinc 3 1, 3) := by decide +kernel
theorem dX4_spread_51 : decode cX4_spread 51 = .ok (.goto (-37), 3) := by decide +kernel
theorem dX4_spread_54 : decode cX4_spread 54 = .ok (.iconst 0, 1) := by decide +kernel
theorem dX4_spread_55 : decode cX4_spread 55 = .ok (.istore_n 3, 1) := by decide +kernel
theorem dX4_spread_56 : decode cX4_spread 56 = .ok (.iconst 0, 1) := by decide +kernel
theorem dX4_spread_57 : decode cX4_spread 57 = .ok (.istore 4, 2) := by decide +kernel
theorem dX4_spread_59 : decode cX4_spread 59 = .ok (.iload 4, 2) := by decide +kernel
theorem dX4_spread_61 : decode cX4_spread 61 = .ok (.aload_n 1, 1) := by decide +kernel
theorem dX4_spread_62 : decode cX4_spread 62 = .ok (.getfield 52, 3) := by decide +kernel
theorem dX4_spread_65 : decode cX4_spread 65 = .ok (.if_icmp .ge 54, 3) := by decide +kernel
theorem dX4_spread_68 : decode cX4_spread 68 = .ok (.aload_n 1, 1) := by decide +kernel
theorem dX4_spread_69 : decode cX4_spread 69 = .ok (.iload 4, 2) := by decide +kernel
theorem dX4_spread_71 : decode cX4_spread 71 = .ok (.invokevirtual 87, 3) := by decide +kernel
theorem dX4_spread_74 : decode cX4_spread 74 = .ok (.ifCond .eq 39, 3) := by decide +kernel
theorem dX4_spread_77 : decode cX4_spread 77 = .ok (.aload_n 0, 1) := by decide +kernel
theorem dX4_spread_78 : decode cX4_spread 78 = .ok (.getfield 31, 3) := by decide +kernel
theorem dX4_spread_81 : decode cX4_spread 81 = .ok (.iload 4, 2) := by decide +kernel
theorem dX4_spread_83 : decode cX4_spread 83 = .ok (.invokevirtual 56, 3) := by decide +kernel
theorem dX4_spread_86 : decode cX4_spread 86 = .ok (.ifCond .ne 27, 3) := by decide +kernel
theorem dX4_spread_89 : decode cX4_spread 89 = .ok (.aload_n 0, 1) := by decide +kernel
theorem dX4_spread_90 : decode cX4_spread 90 = .ok (.aload_n 1, 1) := by decide +kernel
theorem dX4_spread_91 : decode cX4_spread 91 = .ok (.iload_n 2, 1) := by decide +kernel
theorem dX4_spread_92 : decode cX4_spread 92 = .ok (.iload 4, 2) := by decide +kernel
theorem dX4_spread_94 : decode cX4_spread 94 = .ok (.invokevirtual 99, 3) := by decide +kernel
theorem dX4_spread_97 : decode cX4_spread 97 = .ok (.iconst 1, 1) := by decide +kernel
theorem dX4_spread_98 : decode cX4_spread 98 = .ok (.if_icmp .ne 15, 3) := by decide +kernel
theorem dX4_spread_101 : decode cX4_spread 101 = .ok (.aload_n 0, 1) := by decide +kernel
theorem dX4_spread_102 : decode cX4_spread 102 = .ok (.getfield 31, 3) := by decide +kernel
theorem dX4_spread_105 : decode cX4_spread 105 = .ok (.iload 4, 2) := by decide +kernel
theorem dX4_spread_107 : decode cX4_spread 107 = .ok (.iconst 1, 1) := by decide +kernel
theorem dX4_spread_108 : decode cX4_spread 108 = .ok (.invokevirtual 110, 3) := by decide +kernel
theorem dX4_spread_111 : decode cX4_spread 111 = .ok (.iconst 1, 1) := by decide +kernel
theorem dX4_spread_112 : decode cX4_spread 112 = .ok (.istore_n 3, 1) := by decide +kernel
theorem dX4_spread_113 : decode cX4_spread 113 = .ok (.iinc 4 1, 3) := by decide +kernel
theorem dX4_spread_116 : decode cX4_spread 116 = .ok (.goto (-57), 3) := by decide +kernel
theorem dX4_spread_119 : decode cX4_spread 119 = .ok (.iload_n 3, 1) := by decide +kernel
theorem dX4_spread_120 : decode cX4_spread 120 = .ok (.ireturn, 1) := by decide +kernel
theorem dX4_knownByAll_0 : decode cX4_knownByAll 0 = .ok (.aload_n 0, 1) := by decide +kernel
theorem dX4_knownByAll_1 : decode cX4_knownByAll 1 = .ok (.getfield 31, 3) := by decide +kernel
theorem dX4_knownByAll_4 : decode cX4_knownByAll 4 = .ok (.iconst 0, 1) := by decide +kernel
theorem dX4_knownByAll_5 : decode cX4_knownByAll 5 = .ok (.aload_n 1, 1) := by decide +kernel
theorem dX4_knownByAll_6 : decode cX4_knownByAll 6 = .ok (.getfield 52, 3) := by decide +kernel
theorem dX4_knownByAll_9 : decode cX4_knownByAll 9 = .ok (.invokevirtual 103, 3) := by decide +kernel
theorem dX4_knownByAll_12 : decode cX4_knownByAll 12 = .ok (.aload_n 0, 1) := by decide +kernel
theorem dX4_knownByAll_13 : decode cX4_knownByAll 13 = .ok (.getfield 31, 3) := by decide +kernel
theorem dX4_knownByAll_16 : decode cX4_knownByAll 16 = .ok (.aload_n 1, 1) := by decide +kernel
theorem dX4_knownByAll_17 : decode cX4_knownByAll 17 = .ok (.getfield 81, 3) := by decide +kernel
theorem dX4_knownByAll_20 : decode cX4_knownByAll 20 = .ok (.iconst 1, 1) := by decide +kernel
theorem dX4_knownByAll_21 : decode cX4_knownByAll 21 = .ok (.invokevirtual 110, 3) := by decide +kernel
theorem dX4_knownByAll_24 : decode cX4_knownByAll 24 = .ok (.iconst 1, 1) := by decide +kernel
theorem dX4_knownByAll_25 : decode cX4_knownByAll 25 = .ok (.istore_n 3, 1) := by decide +kernel
theorem dX4_knownByAll_26 : decode cX4_knownByAll 26 = .ok (.iconst 0, 1) := by decide +kernel
theorem dX4_knownByAll_27 : decode cX4_knownByAll 27 = .ok (.istore 4, 2) := by decide +kernel
theorem dX4_knownByAll_29 : decode cX4_knownByAll 29 = .ok (.iload 4, 2) := by decide +kernel
theorem dX4_knownByAll_31 : decode cX4_knownByAll 31 = .ok (.aload_n 1, 1) := by decide +kernel
theorem dX4_knownByAll_32 : decode cX4_knownByAll 32 = .ok (.getfield 52, 3) := by decide +kernel
theorem dX4_knownByAll_35 : decode cX4_knownByAll 35 = .ok (.if_icmp .ge 43, 3) := by decide +kernel
theorem dX4_knownByAll_38 : decode cX4_knownByAll 38 = .ok (.iload_n 3, 1) := by decide +kernel
theorem dX4_knownByAll_39 : decode cX4_knownByAll 39 = .ok (.ifCond .eq 39, 3) := by decide +kernel
theorem dX4_knownByAll_42 : decode cX4_knownByAll 42 = .ok (.iconst 0, 1) := by decide +kernel
theorem dX4_knownByAll_43 : decode cX4_knownByAll 43 = .ok (.istore_n 3, 1) := by decide +kernel
theorem dX4_knownByAll_44 : decode cX4_knownByAll 44 = .ok (.iconst 0, 1) := by decide +kernel
theorem dX4_knownByAll_45 : decode cX4_knownByAll 45 = .ok (.istore 5, 2) := by decide +kernel
theorem dX4_knownByAll_47 : decode cX4_knownByAll 47 = .ok (.iload 5, 2) := by decide +kernel
theorem dX4_knownByAll_49 : decode cX4_knownByAll 49 = .ok (.aload_n 1, 1) := by decide +kernel
theorem dX4_knownByAll_50 : decode cX4_knownByAll 50 = .ok (.getfield 78, 3) := by decide +kernel
theorem dX4_knownByAll_53 : decode cX4_knownByAll 53 = .ok (.if_icmp .ge 19, 3) := by decide +kernel
theorem dX4_knownByAll_56 : decode cX4_knownByAll 56 = .ok (.iload_n 3, 1) := by decide +kernel
theorem dX4_knownByAll_57 : decode cX4_knownByAll 57 = .ok (.aload_n 0, 1) := by decide +kernel
theorem dX4_knownByAll_58 : decode cX4_knownByAll 58 = .ok (.aload_n 1, 1) := by decide +kernel
theorem dX4_knownByAll_59 : decode cX4_knownByAll 59 = .ok (.iload 5, 2) := by decide +kernel
theorem dX4_knownByAll_61 : decode cX4_knownByAll 61 = .ok (.invokevirtual 113, 3) := by decide +kernel
theorem dX4_knownByAll_64 : decode cX4_knownByAll 64 = .ok (.ior, 1) := by decide +kernel
theorem dX4_knownByAll_65 : decode cX4_knownByAll 65 = .ok (.istore_n 3, 1) := by decide +kernel
theorem dX4_knownByAll_66 : decode cX4_knownByAll 66 = .ok (.iinc 5 1, 3) := by decide +kernel
theorem dX4_knownByAll_69 : decode cX4_knownByAll 69 = .ok (.goto (-22), 3) := by decide +kernel
theorem dX4_knownByAll_72 : decode cX4_knownByAll 72 = .ok (.iinc 4 1, 3) := by decide +kernel
theorem dX4_knownByAll_75 : decode cX4_knownByAll 75 = .ok (.goto (-46), 3) := by decide +kernel
theorem dX4_knownByAll_78 : decode cX4_knownByAll 78 = .ok (.iconst 0, 1) := by decide +kernel
theorem dX4_knownByAll_79 : decode cX4_knownByAll 79 = .ok (.istore 4, 2) := by decide +kernel
theorem dX4_knownByAll_81 : decode cX4_knownByAll 81 = .ok (.iconst 0, 1) := by decide +kernel
theorem dX4_knownByAll_82 : decode cX4_knownByAll 82 = .ok (.istore 5, 2) := by decide +kernel
theorem dX4_knownByAll_84 : decode cX4_knownByAll 84 = .ok (.iload 5, 2) := by decide +kernel
theorem dX4_knownByAll_86 : decode cX4_knownByAll 86 = .ok (.aload_n 1, 1) := by decide +kernel
theorem dX4_knownByAll_87 : decode cX4_knownByAll 87 = .ok (.getfield 52, 3) := by decide +kernel
theorem dX4_knownByAll_90 : decode cX4_knownByAll 90 = .ok (.if_icmp .ge 36, 3) := by decide +kernel
theorem dX4_knownByAll_93 : decode cX4_knownByAll 93 = .ok (.aload_n 0, 1) := by decide +kernel
theorem dX4_knownByAll_94 : decode cX4_knownByAll 94 = .ok (.getfield 31, 3) := by decide +kernel
theorem dX4_knownByAll_97 : decode cX4_knownByAll 97 = .ok (.iload 5, 2) := by decide +kernel
theorem dX4_knownByAll_99 : decode cX4_knownByAll 99 = .ok (.invokevirtual 56, 3) := by decide +kernel
theorem dX4_knownByAll_102 : decode cX4_knownByAll 102 = .ok (.iconst 1, 1) := by decide +kernel
theorem dX4_knownByAll_103 : decode cX4_knownByAll 103 = .ok (.if_icmp .ne 17, 3) := by decide +kernel
theorem dX4_knownByAll_106 : decode cX4_knownByAll 106 = .ok (.iload 4, 2) := by decide +kernel
theorem dX4_knownByAll_108 : decode cX4_knownByAll 108 = .ok (.iconst 1, 1) := by decide +kernel
theorem dX4_knownByAll_109 : decode cX4_knownByAll 109 = .ok (.aload_n 1, 1) := by decide +kernel
theorem dX4_knownByAll_110 : decode cX4_knownByAll 110 = .ok (.iload 5, 2) := by decide +kernel
theorem dX4_knownByAll_112 : decode cX4_knownByAll 112 = .ok (.iload_n 2, 1) := by decide +kernel
theorem dX4_knownByAll_113 : decode cX4_knownByAll 113 = .ok (.invokevirtual 60, 3) := by decide +kernel
theorem dX4_knownByAll_116 : decode cX4_knownByAll 116 = .ok (.ishl, 1) := by decide +kernel
theorem dX4_knownByAll_117 : decode cX4_knownByAll 117 = .ok (.ior, 1) := by decide +kernel
theorem dX4_knownByAll_118 : decode cX4_knownByAll 118 = .ok (.istore 4, 2) := by decide +kernel
theorem dX4_knownByAll_120 : decode cX4_knownByAll 120 = .ok (.iinc 5 1, 3) := by decide +kernel
theorem dX4_knownByAll_123 : decode cX4_knownByAll 123 = .ok (.goto (-39), 3) := by decide +kernel
theorem dX4_knownByAll_126 : decode cX4_knownByAll 126 = .ok (.aload_n 0, 1) := by decide +kernel
theorem dX4_knownByAll_127 : decode cX4_knownByAll 127 = .ok (.iload 4, 2) := by decide +kernel
theorem dX4_knownByAll_129 : decode cX4_knownByAll 129 = .ok (.invokevirtual 75, 3) := by decide +kernel
theorem dX4_knownByAll_132 : decode cX4_knownByAll 132 = .ok (.ireturn, 1) := by decide +kernel
theorem dX4_sayNotice_0 : decode cX4_sayNotice 0 = .ok (.iconst 0, 1) := by decide +kernel
theorem dX4_sayNotice_1 : decode cX4_sayNotice 1 = .ok (.istore_n 3, 1) := by decide +kernel
theorem dX4_sayNotice_2 : decode cX4_sayNotice 2 = .ok (.iload_n 3, 1) := by decide +kernel
theorem dX4_sayNotice_3 : decode cX4_sayNotice 3 = .ok (.aload_n 1, 1) := by decide +kernel
theorem dX4_sayNotice_4 : decode cX4_sayNotice 4 = .ok (.getfield 52, 3) := by decide +kernel
theorem dX4_sayNotice_7 : decode cX4_sayNotice 7 = .ok (.if_icmp .ge 23, 3) := by decide +kernel
theorem dX4_sayNotice_10 : decode cX4_sayNotice 10 = .ok (.aload_n 0, 1) := by decide +kernel
theorem dX4_sayNotice_11 : decode cX4_sayNotice 11 = .ok (.getfield 28, 3) := by decide +kernel
theorem dX4_sayNotice_14 : decode cX4_sayNotice 14 = .ok (.iload_n 3, 1) := by decide +kernel
theorem dX4_sayNotice_15 : decode cX4_sayNotice 15 = .ok (.aload_n 1, 1) := by decide +kernel
theorem dX4_sayNotice_16 : decode cX4_sayNotice 16 = .ok (.iload_n 3, 1) := by decide +kernel
theorem dX4_sayNotice_17 : decode cX4_sayNotice 17 = .ok (.iload_n 2, 1) := by decide +kernel
theorem dX4_sayNotice_18 : decode cX4_sayNotice 18 = .ok (.invokevirtual 60, 3) := by decide +kernel
theorem dX4_sayNotice_21 : decode cX4_sayNotice 21 = .ok (.invokevirtual 110, 3) := by decide +kernel
theorem dX4_sayNotice_24 : decode cX4_sayNotice 24 = .ok (.iinc 3 1, 3) := by decide +kernel
theorem dX4_sayNotice_27 : decode cX4_sayNotice 27 = .ok (.goto (-25), 3) := by decide +kernel
theorem dX4_sayNotice_30 : decode cX4_sayNotice 30 = .ok (.return_, 1) := by decide +kernel
theorem dX4_sayWhetherMany_0 : decode cX4_sayWhetherMany 0 = .ok (.iconst 0, 1) := by decide +kernel
theorem dX4_sayWhetherMany_1 : decode cX4_sayWhetherMany 1 = .ok (.istore 5, 2) := by decide +kernel
theorem dX4_sayWhetherMany_3 : decode cX4_sayWhetherMany 3 = .ok (.iload 5, 2) := by decide +kernel
theorem dX4_sayWhetherMany_5 : decode cX4_sayWhetherMany 5 = .ok (.aload_n 1, 1) := by decide +kernel
theorem dX4_sayWhetherMany_6 : decode cX4_sayWhetherMany 6 = .ok (.getfield 52, 3) := by decide +kernel
theorem dX4_sayWhetherMany_9 : decode cX4_sayWhetherMany 9 = .ok (.if_icmp .ge 52, 3) := by decide +kernel
theorem dX4_sayWhetherMany_12 : decode cX4_sayWhetherMany 12 = .ok (.aload_n 1, 1) := by decide +kernel
theorem dX4_sayWhetherMany_13 : decode cX4_sayWhetherMany 13 = .ok (.iload 5, 2) := by decide +kernel
theorem dX4_sayWhetherMany_15 : decode cX4_sayWhetherMany 15 = .ok (.iload_n 3, 1) := by decide +kernel
theorem dX4_sayWhetherMany_16 : decode cX4_sayWhetherMany 16 = .ok (.invokevirtual 117, 3) := by decide +kernel
theorem dX4_sayWhetherMany_19 : decode cX4_sayWhetherMany 19 = .ok (.istore 6, 2) := by decide +kernel
theorem dX4_sayWhetherMany_21 : decode cX4_sayWhetherMany 21 = .ok (.aload_n 0, 1) := by decide +kernel
theorem dX4_sayWhetherMany_22 : decode cX4_sayWhetherMany 22 = .ok (.getfield 28, 3) := by decide +kernel
theorem dX4_sayWhetherMany_25 : decode cX4_sayWhetherMany 25 = .ok (.iload 5, 2) := by decide +kernel
theorem dX4_sayWhetherMany_27 : decode cX4_sayWhetherMany 27 = .ok (.iload 4, 2) := by decide +kernel
theorem dX4_sayWhetherMany_29 : decode cX4_sayWhetherMany 29 = .ok (.ifCond .eq 12, 3) := by decide +kernel
theorem dX4_sayWhetherMany_32 : decode cX4_sayWhetherMany 32 = .ok (.iload 6, 2) := by decide +kernel
theorem dX4_sayWhetherMany_34 : decode cX4_sayWhetherMany 34 = .ok (.iload_n 2, 1) := by decide +kernel
theorem dX4_sayWhetherMany_35 : decode cX4_sayWhetherMany 35 = .ok (.if_icmp .lt 16, 3) := by decide +kernel
theorem dX4_sayWhetherMany_38 : decode cX4_sayWhetherMany 38 = .ok (.goto 9, 3) := by decide +kernel
theorem dX4_sayWhetherMany_41 : decode cX4_sayWhetherMany 41 = .ok (.iload 6, 2) := by decide +kernel
theorem dX4_sayWhetherMany_43 : decode cX4_sayWhetherMany 43 = .ok (.iload_n 2, 1) := by decide +kernel
theorem dX4_sayWhetherMany_44 : decode cX4_sayWhetherMany 44 = .ok (.if_icmp .gt 7, 3) := by decide +kernel
theorem dX4_sayWhetherMany_47 : decode cX4_sayWhetherMany 47 = .ok (.iconst 1, 1) := by decide +kernel
theorem dX4_sayWhetherMany_48 : decode cX4_sayWhetherMany 48 = .ok (.goto 4, 3) := by decide +kernel
theorem dX4_sayWhetherMany_51 : decode cX4_sayWhetherMany 51 = .ok (.iconst 0, 1) := by decide +kernel
theorem dX4_sayWhetherMany_52 : decode cX4_sayWhetherMany 52 = .ok (.invokevirtual 110, 3) := by decide +kernel
theorem dX4_sayWhetherMany_55 : decode cX4_sayWhetherMany 55 = .ok (.iinc 5 1, 3) := by decide +kernel
theorem dX4_sayWhetherMany_58 : decode cX4_sayWhetherMany 58 = .ok (.goto (-55), 3) := by decide +kernel
theorem dX4_sayWhetherMany_61 : decode cX4_sayWhetherMany 61 = .ok (.return_, 1) := by decide +kernel
theorem dX4_sayWhetherAlike_0 : decode cX4_sayWhetherAlike 0 = .ok (.iconst 0, 1) := by decide +kernel
theorem dX4_sayWhetherAlike_1 : decode cX4_sayWhetherAlike 1 = .ok (.istore 5, 2) := by decide +kernel
theorem dX4_sayWhetherAlike_3 : decode cX4_sayWhetherAlike 3 = .ok (.iload 5, 2) := by decide +kernel
theorem dX4_sayWhetherAlike_5 : decode cX4_sayWhetherAlike 5 = .ok (.aload_n 1, 1) := by decide +kernel
theorem dX4_sayWhetherAlike_6 : decode cX4_sayWhetherAlike 6 = .ok (.getfield 52, 3) := by decide +kernel
theorem dX4_sayWhetherAlike_9 : decode cX4_sayWhetherAlike 9 = .ok (.if_icmp .ge 50, 3) := by decide +kernel
theorem dX4_sayWhetherAlike_12 : decode cX4_sayWhetherAlike 12 = .ok (.aload_n 0, 1) := by decide +kernel
theorem dX4_sayWhetherAlike_13 : decode cX4_sayWhetherAlike 13 = .ok (.getfield 28, 3) := by decide +kernel
theorem dX4_sayWhetherAlike_16 : decode cX4_sayWhetherAlike 16 = .ok (.iload 5, 2) := by decide +kernel
theorem dX4_sayWhetherAlike_18 : decode cX4_sayWhetherAlike 18 = .ok (.aload_n 1, 1) := by decide +kernel
theorem dX4_sayWhetherAlike_19 : decode cX4_sayWhetherAlike 19 = .ok (.iload 5, 2) := by decide +kernel
theorem dX4_sayWhetherAlike_21 : decode cX4_sayWhetherAlike 21 = .ok (.iload_n 2, 1) := by decide +kernel
theorem dX4_sayWhetherAlike_22 : decode cX4_sayWhetherAlike 22 = .ok (.invokevirtual 60, 3) := by decide +kernel
theorem dX4_sayWhetherAlike_25 : decode cX4_sayWhetherAlike 25 = .ok (.aload_n 1, 1) := by decide +kernel
theorem dX4_sayWhetherAlike_26 : decode cX4_sayWhetherAlike 26 = .ok (.iload 5, 2) := by decide +kernel
theorem dX4_sayWhetherAlike_28 : decode cX4_sayWhetherAlike 28 = .ok (.iload_n 3, 1) := by decide +kernel
theorem dX4_sayWhetherAlike_29 : decode cX4_sayWhetherAlike 29 = .ok (.invokevirtual 60, 3) := by decide +kernel
theorem dX4_sayWhetherAlike_32 : decode cX4_sayWhetherAlike 32 = .ok (.if_icmp .ne 7, 3) := by decide +kernel
theorem dX4_sayWhetherAlike_35 : decode cX4_sayWhetherAlike 35 = .ok (.iconst 1, 1) := by decide +kernel
theorem dX4_sayWhetherAlike_36 : decode cX4_sayWhetherAlike 36 = .ok (.goto 4, 3) := by decide +kernel
theorem dX4_sayWhetherAlike_39 : decode cX4_sayWhetherAlike 39 = .ok (.iconst 0, 1) := by decide +kernel
theorem dX4_sayWhetherAlike_40 : decode cX4_sayWhetherAlike 40 = .ok (.iload 4, 2) := by decide +kernel
theorem dX4_sayWhetherAlike_42 : decode cX4_sayWhetherAlike 42 = .ok (.if_icmp .ne 7, 3) := by decide +kernel
theorem dX4_sayWhetherAlike_45 : decode cX4_sayWhetherAlike 45 = .ok (.iconst 1, 1) := by decide +kernel
theorem dX4_sayWhetherAlike_46 : decode cX4_sayWhetherAlike 46 = .ok (.goto 4, 3) := by decide +kernel
theorem dX4_sayWhetherAlike_49 : decode cX4_sayWhetherAlike 49 = .ok (.iconst 0, 1) := by decide +kernel
theorem dX4_sayWhetherAlike_50 : decode cX4_sayWhetherAlike 50 = .ok (.invokevirtual 110, 3) := by decide +kernel
theorem dX4_sayWhetherAlike_53 : decode cX4_sayWhetherAlike 53 = .ok (.iinc 5 1, 3) := by decide +kernel
theorem dX4_sayWhetherAlike_56 : decode cX4_sayWhetherAlike 56 = .ok (.goto (-53), 3) := by decide +kernel
theorem dX4_sayWhetherAlike_59 : decode cX4_sayWhetherAlike 59 = .ok (.return_, 1) := by decide +kernel
theorem dX4_sayWhetherSure_0 : decode cX4_sayWhetherSure 0 = .ok (.aload_n 0, 1) := by decide +kernel
theorem dX4_sayWhetherSure_1 : decode cX4_sayWhetherSure 1 = .ok (.aload_n 1, 1) := by decide +kernel
theorem dX4_sayWhetherSure_2 : decode cX4_sayWhetherSure 2 = .ok (.aload_n 1, 1) := by decide +kernel
theorem dX4_sayWhetherSure_3 : decode cX4_sayWhetherSure 3 = .ok (.getfield 84, 3) := by decide +kernel
theorem dX4_sayWhetherSure_6 : decode cX4_sayWhetherSure 6 = .ok (.iload_n 2, 1) := by decide +kernel
theorem dX4_sayWhetherSure_7 : decode cX4_sayWhetherSure 7 = .ok (.iload_n 2, 1) := by decide +kernel
theorem dX4_sayWhetherSure_8 : decode cX4_sayWhetherSure 8 = .ok (.invokevirtual 95, 3) := by decide +kernel
theorem dX4_sayWhetherSure_11 : decode cX4_sayWhetherSure 11 = .ok (.iconst 0, 1) := by decide +kernel
theorem dX4_sayWhetherSure_12 : decode cX4_sayWhetherSure 12 = .ok (.istore_n 3, 1) := by decide +kernel
theorem dX4_sayWhetherSure_13 : decode cX4_sayWhetherSure 13 = .ok (.iload_n 3, 1) := by decide +kernel
theorem dX4_sayWhetherSure_14 : decode cX4_sayWhetherSure 14 = .ok (.aload_n 1, 1) := by decide +kernel
theorem dX4_sayWhetherSure_15 : decode cX4_sayWhetherSure 15 = .ok (.getfield 52, 3) := by decide +kernel
theorem dX4_sayWhetherSure_18 : decode cX4_sayWhetherSure 18 = .ok (.if_icmp .ge 37, 3) := by decide +kernel
theorem dX4_sayWhetherSure_21 : decode cX4_sayWhetherSure 21 = .ok (.aload_n 0, 1) := by decide +kernel
theorem dX4_sayWhetherSure_22 : decode cX4_sayWhetherSure 22 = .ok (.getfield 28, 3) := by decide +kernel
theorem dX4_sayWhetherSure_25 : decode cX4_sayWhetherSure 25 = .ok (.iload_n 3, 1) := by decide +kernel
theorem dX4_sayWhetherSure_26 : decode cX4_sayWhetherSure 26 = .ok (.aload_n 0, 1) := by decide +kernel
theorem dX4_sayWhetherSure_27 : decode cX4_sayWhetherSure 27 = .ok (.aload_n 0, 1) := by decide +kernel
theorem dX4_sayWhetherSure_28 : decode cX4_sayWhetherSure 28 = .ok (.aload_n 1, 1) := by decide +kernel
theorem dX4_sayWhetherSure_29 : decode cX4_sayWhetherSure 29 = .ok (.iload_n 2, 1) := by decide +kernel
theorem dX4_sayWhetherSure_30 : decode cX4_sayWhetherSure 30 = .ok (.iload_n 3, 1) := by decide +kernel
theorem dX4_sayWhetherSure_31 : decode cX4_sayWhetherSure 31 = .ok (.invokevirtual 99, 3) := by decide +kernel
theorem dX4_sayWhetherSure_34 : decode cX4_sayWhetherSure 34 = .ok (.invokevirtual 75, 3) := by decide +kernel
theorem dX4_sayWhetherSure_37 : decode cX4_sayWhetherSure 37 = .ok (.iconst (-1), 1) := by decide +kernel
theorem dX4_sayWhetherSure_38 : decode cX4_sayWhetherSure 38 = .ok (.if_icmp .ne 7, 3) := by decide +kernel
theorem dX4_sayWhetherSure_41 : decode cX4_sayWhetherSure 41 = .ok (.iconst 0, 1) := by decide +kernel
theorem dX4_sayWhetherSure_42 : decode cX4_sayWhetherSure 42 = .ok (.goto 4, 3) := by decide +kernel
theorem dX4_sayWhetherSure_45 : decode cX4_sayWhetherSure 45 = .ok (.iconst 1, 1) := by decide +kernel
theorem dX4_sayWhetherSure_46 : decode cX4_sayWhetherSure 46 = .ok (.invokevirtual 110, 3) := by decide +kernel
theorem dX4_sayWhetherSure_49 : decode cX4_sayWhetherSure 49 = .ok (.iinc 3 1, 3) := by decide +kernel
theorem dX4_sayWhetherSure_52 : decode cX4_sayWhetherSure 52 = .ok (.goto (-39), 3) := by decide +kernel
theorem dX4_sayWhetherSure_55 : decode cX4_sayWhetherSure 55 = .ok (.return_, 1) := by decide +kernel
theorem dX4_sayWhoIsSure_0 : decode cX4_sayWhoIsSure 0 = .ok (.aload_n 0, 1) := by decide +kernel
theorem dX4_sayWhoIsSure_1 : decode cX4_sayWhoIsSure 1 = .ok (.getfield 28, 3) := by decide +kernel
theorem dX4_sayWhoIsSure_4 : decode cX4_sayWhoIsSure 4 = .ok (.iconst 0, 1) := by decide +kernel
theorem dX4_sayWhoIsSure_5 : decode cX4_sayWhoIsSure 5 = .ok (.aload_n 1, 1) := by decide +kernel
theorem dX4_sayWhoIsSure_6 : decode cX4_sayWhoIsSure 6 = .ok (.getfield 52, 3) := by decide +kernel
theorem dX4_sayWhoIsSure_9 : decode cX4_sayWhoIsSure 9 = .ok (.invokevirtual 103, 3) := by decide +kernel
theorem dX4_sayWhoIsSure_12 : decode cX4_sayWhoIsSure 12 = .ok (.iconst 0, 1) := by decide +kernel
theorem dX4_sayWhoIsSure_13 : decode cX4_sayWhoIsSure 13 = .ok (.istore_n 3, 1) := by decide +kernel
theorem dX4_sayWhoIsSure_14 : decode cX4_sayWhoIsSure 14 = .ok (.iload_n 3, 1) := by decide +kernel
theorem dX4_sayWhoIsSure_15 : decode cX4_sayWhoIsSure 15 = .ok (.aload_n 1, 1) := by decide +kernel
theorem dX4_sayWhoIsSure_16 : decode cX4_sayWhoIsSure 16 = .ok (.getfield 78, 3) := by decide +kernel
theorem dX4_sayWhoIsSure_19 : decode cX4_sayWhoIsSure 19 = .ok (.if_icmp .ge 63, 3) := by decide +kernel
theorem dX4_sayWhoIsSure_22 : decode cX4_sayWhoIsSure 22 = .ok (.aload_n 0, 1) := by decide +kernel
theorem dX4_sayWhoIsSure_23 : decode cX4_sayWhoIsSure 23 = .ok (.aload_n 1, 1) := by decide +kernel
theorem dX4_sayWhoIsSure_24 : decode cX4_sayWhoIsSure 24 = .ok (.aload_n 2, 1) := by decide +kernel
theorem dX4_sayWhoIsSure_25 : decode cX4_sayWhoIsSure 25 = .ok (.iload_n 3, 1) := by decide +kernel
theorem dX4_sayWhoIsSure_26 : decode cX4_sayWhoIsSure 26 = .ok (.iload_n 3, 1) := by decide +kernel
theorem dX4_sayWhoIsSure_27 : decode cX4_sayWhoIsSure 27 = .ok (.invokevirtual 95, 3) := by decide +kernel
theorem dX4_sayWhoIsSure_30 : decode cX4_sayWhoIsSure 30 = .ok (.iconst 0, 1) := by decide +kernel
theorem dX4_sayWhoIsSure_31 : decode cX4_sayWhoIsSure 31 = .ok (.istore 4, 2) := by decide +kernel
theorem dX4_sayWhoIsSure_33 : decode cX4_sayWhoIsSure 33 = .ok (.iload 4, 2) := by decide +kernel
theorem dX4_sayWhoIsSure_35 : decode cX4_sayWhoIsSure 35 = .ok (.aload_n 1, 1) := by decide +kernel
theorem dX4_sayWhoIsSure_36 : decode cX4_sayWhoIsSure 36 = .ok (.getfield 52, 3) := by decide +kernel
theorem dX4_sayWhoIsSure_39 : decode cX4_sayWhoIsSure 39 = .ok (.if_icmp .ge 37, 3) := by decide +kernel
theorem dX4_sayWhoIsSure_42 : decode cX4_sayWhoIsSure 42 = .ok (.aload_n 0, 1) := by decide +kernel
theorem dX4_sayWhoIsSure_43 : decode cX4_sayWhoIsSure 43 = .ok (.aload_n 0, 1) := by decide +kernel
theorem dX4_sayWhoIsSure_44 : decode cX4_sayWhoIsSure 44 = .ok (.aload_n 1, 1) := by decide +kernel
theorem dX4_sayWhoIsSure_45 : decode cX4_sayWhoIsSure 45 = .ok (.iload_n 3, 1) := by decide +kernel
theorem dX4_sayWhoIsSure_46 : decode cX4_sayWhoIsSure 46 = .ok (.iload 4, 2) := by decide +kernel
theorem dX4_sayWhoIsSure_48 : decode cX4_sayWhoIsSure 48 = .ok (.invokevirtual 99, 3) := by decide +kernel
theorem dX4_sayWhoIsSure_51 : decode cX4_sayWhoIsSure 51 = .ok (.invokevirtual 75, 3) := by decide +kernel
theorem dX4_sayWhoIsSure_54 : decode cX4_sayWhoIsSure 54 = .ok (.iconst (-1), 1) := by decide +kernel
theorem dX4_sayWhoIsSure_55 : decode cX4_sayWhoIsSure 55 = .ok (.if_icmp .eq 15, 3) := by decide +kernel
theorem dX4_sayWhoIsSure_58 : decode cX4_sayWhoIsSure 58 = .ok (.aload_n 0, 1) := by decide +kernel
theorem dX4_sayWhoIsSure_59 : decode cX4_sayWhoIsSure 59 = .ok (.getfield 28, 3) := by decide +kernel
theorem dX4_sayWhoIsSure_62 : decode cX4_sayWhoIsSure 62 = .ok (.iload 4, 2) := by decide +kernel
theorem dX4_sayWhoIsSure_64 : decode cX4_sayWhoIsSure 64 = .ok (.iconst 1, 1) := by decide +kernel
theorem dX4_sayWhoIsSure_65 : decode cX4_sayWhoIsSure 65 = .ok (.iload_n 3, 1) := by decide +kernel
theorem dX4_sayWhoIsSure_66 : decode cX4_sayWhoIsSure 66 = .ok (.ishl, 1) := by decide +kernel
theorem dX4_sayWhoIsSure_67 : decode cX4_sayWhoIsSure 67 = .ok (.invokevirtual 107, 3) := by decide +kernel
theorem dX4_sayWhoIsSure_70 : decode cX4_sayWhoIsSure 70 = .ok (.iinc 4 1, 3) := by decide +kernel
theorem dX4_sayWhoIsSure_73 : decode cX4_sayWhoIsSure 73 = .ok (.goto (-40), 3) := by decide +kernel
theorem dX4_sayWhoIsSure_76 : decode cX4_sayWhoIsSure 76 = .ok (.iinc 3 1, 3) := by decide +kernel
theorem dX4_sayWhoIsSure_79 : decode cX4_sayWhoIsSure 79 = .ok (.goto (-65), 3) := by decide +kernel
theorem dX4_sayWhoIsSure_82 : decode cX4_sayWhoIsSure 82 = .ok (.return_, 1) := by decide +kernel
theorem dX4_sayAnswer_0 : decode cX4_sayAnswer 0 = .ok (.aload_n 0, 1) := by decide +kernel
theorem dX4_sayAnswer_1 : decode cX4_sayAnswer 1 = .ok (.aload_n 1, 1) := by decide +kernel
theorem dX4_sayAnswer_2 : decode cX4_sayAnswer 2 = .ok (.aload_n 2, 1) := by decide +kernel
theorem dX4_sayAnswer_3 : decode cX4_sayAnswer 3 = .ok (.iload_n 3, 1) := by decide +kernel
theorem dX4_sayAnswer_4 : decode cX4_sayAnswer 4 = .ok (.iload 4, 2) := by decide +kernel
theorem dX4_sayAnswer_6 : decode cX4_sayAnswer 6 = .ok (.invokevirtual 95, 3) := by decide +kernel
theorem dX4_sayAnswer_9 : decode cX4_sayAnswer 9 = .ok (.iconst 1, 1) := by decide +kernel
theorem dX4_sayAnswer_10 : decode cX4_sayAnswer 10 = .ok (.iload 5, 2) := by decide +kernel
theorem dX4_sayAnswer_12 : decode cX4_sayAnswer 12 = .ok (.ishl, 1) := by decide +kernel
theorem dX4_sayAnswer_13 : decode cX4_sayAnswer 13 = .ok (.istore 6, 2) := by decide +kernel
theorem dX4_sayAnswer_15 : decode cX4_sayAnswer 15 = .ok (.iconst 0, 1) := by decide +kernel
theorem dX4_sayAnswer_16 : decode cX4_sayAnswer 16 = .ok (.istore 7, 2) := by decide +kernel
theorem dX4_sayAnswer_18 : decode cX4_sayAnswer 18 = .ok (.iload 7, 2) := by decide +kernel
theorem dX4_sayAnswer_20 : decode cX4_sayAnswer 20 = .ok (.aload_n 1, 1) := by decide +kernel
theorem dX4_sayAnswer_21 : decode cX4_sayAnswer 21 = .ok (.getfield 52, 3) := by decide +kernel
theorem dX4_sayAnswer_24 : decode cX4_sayAnswer 24 = .ok (.if_icmp .ge 52, 3) := by decide +kernel
theorem dX4_sayAnswer_27 : decode cX4_sayAnswer 27 = .ok (.aload_n 0, 1) := by decide +kernel
theorem dX4_sayAnswer_28 : decode cX4_sayAnswer 28 = .ok (.aload_n 1, 1) := by decide +kernel
theorem dX4_sayAnswer_29 : decode cX4_sayAnswer 29 = .ok (.iload_n 3, 1) := by decide +kernel
theorem dX4_sayAnswer_30 : decode cX4_sayAnswer 30 = .ok (.iload 7, 2) := by decide +kernel
theorem dX4_sayAnswer_32 : decode cX4_sayAnswer 32 = .ok (.invokevirtual 99, 3) := by decide +kernel
theorem dX4_sayAnswer_35 : decode cX4_sayAnswer 35 = .ok (.istore 8, 2) := by decide +kernel
theorem dX4_sayAnswer_37 : decode cX4_sayAnswer 37 = .ok (.aload_n 0, 1) := by decide +kernel
theorem dX4_sayAnswer_38 : decode cX4_sayAnswer 38 = .ok (.getfield 28, 3) := by decide +kernel
theorem dX4_sayAnswer_41 : decode cX4_sayAnswer 41 = .ok (.iload 7, 2) := by decide +kernel
theorem dX4_sayAnswer_43 : decode cX4_sayAnswer 43 = .ok (.iload 8, 2) := by decide +kernel
theorem dX4_sayAnswer_45 : decode cX4_sayAnswer 45 = .ok (.iload 6, 2) := by decide +kernel
theorem dX4_sayAnswer_47 : decode cX4_sayAnswer 47 = .ok (.if_icmp .ne 7, 3) := by decide +kernel
theorem dX4_sayAnswer_50 : decode cX4_sayAnswer 50 = .ok (.iconst 1, 1) := by decide +kernel
theorem dX4_sayAnswer_51 : decode cX4_sayAnswer 51 = .ok (.goto 16, 3) := by decide +kernel
theorem dX4_sayAnswer_54 : decode cX4_sayAnswer 54 = .ok (.iload 8, 2) := by decide +kernel
theorem dX4_sayAnswer_56 : decode cX4_sayAnswer 56 = .ok (.iload 6, 2) := by decide +kernel
theorem dX4_sayAnswer_58 : decode cX4_sayAnswer 58 = .ok (.iand, 1) := by decide +kernel
theorem dX4_sayAnswer_59 : decode cX4_sayAnswer 59 = .ok (.ifCond .ne 7, 3) := by decide +kernel
theorem dX4_sayAnswer_62 : decode cX4_sayAnswer 62 = .ok (.iconst 0, 1) := by decide +kernel
theorem dX4_sayAnswer_63 : decode cX4_sayAnswer 63 = .ok (.goto 4, 3) := by decide +kernel
theorem dX4_sayAnswer_66 : decode cX4_sayAnswer 66 = .ok (.iconst 2, 1) := by decide +kernel
theorem dX4_sayAnswer_67 : decode cX4_sayAnswer 67 = .ok (.invokevirtual 110, 3) := by decide +kernel
theorem dX4_sayAnswer_70 : decode cX4_sayAnswer 70 = .ok (.iinc 7 1, 3) := by decide +kernel
theorem dX4_sayAnswer_73 : decode cX4_sayAnswer 73 = .ok (.goto (-55), 3) := by decide +kernel
theorem dX4_sayAnswer_76 : decode cX4_sayAnswer 76 = .ok (.return_, 1) := by decide +kernel
theorem dX4_saidIn_0 : decode cX4_saidIn 0 = .ok (.aload_n 0, 1) := by decide +kernel
theorem dX4_saidIn_1 : decode cX4_saidIn 1 = .ok (.getfield 28, 3) := by decide +kernel
theorem dX4_saidIn_4 : decode cX4_saidIn 4 = .ok (.iload_n 1, 1) := by decide +kernel
theorem dX4_saidIn_5 : decode cX4_saidIn 5 = .ok (.invokevirtual 56, 3) := by decide +kernel
theorem dX4_saidIn_8 : decode cX4_saidIn 8 = .ok (.ireturn, 1) := by decide +kernel
theorem dX4_sureIfHeard_0 : decode cX4_sureIfHeard 0 = .ok (.aload_n 1, 1) := by decide +kernel
theorem dX4_sureIfHeard_1 : decode cX4_sureIfHeard 1 = .ok (.iload_n 3, 1) := by decide +kernel
theorem dX4_sureIfHeard_2 : decode cX4_sureIfHeard 2 = .ok (.aload_n 1, 1) := by decide +kernel
theorem dX4_sureIfHeard_3 : decode cX4_sureIfHeard 3 = .ok (.getfield 81, 3) := by decide +kernel
theorem dX4_sureIfHeard_6 : decode cX4_sureIfHeard 6 = .ok (.invokevirtual 48, 3) := by decide +kernel
theorem dX4_sureIfHeard_9 : decode cX4_sureIfHeard 9 = .ok (.istore 4, 2) := by decide +kernel
theorem dX4_sureIfHeard_11 : decode cX4_sureIfHeard 11 = .ok (.aload_n 0, 1) := by decide +kernel
theorem dX4_sureIfHeard_12 : decode cX4_sureIfHeard 12 = .ok (.getfield 28, 3) := by decide +kernel
theorem dX4_sureIfHeard_15 : decode cX4_sureIfHeard 15 = .ok (.aload_n 1, 1) := by decide +kernel
theorem dX4_sureIfHeard_16 : decode cX4_sureIfHeard 16 = .ok (.getfield 81, 3) := by decide +kernel
theorem dX4_sureIfHeard_19 : decode cX4_sureIfHeard 19 = .ok (.invokevirtual 56, 3) := by decide +kernel
theorem dX4_sureIfHeard_22 : decode cX4_sureIfHeard 22 = .ok (.istore 5, 2) := by decide +kernel
theorem dX4_sureIfHeard_24 : decode cX4_sureIfHeard 24 = .ok (.iconst 0, 1) := by decide +kernel
theorem dX4_sureIfHeard_25 : decode cX4_sureIfHeard 25 = .ok (.istore 6, 2) := by decide +kernel
theorem dX4_sureIfHeard_27 : decode cX4_sureIfHeard 27 = .ok (.iconst 0, 1) := by decide +kernel
theorem dX4_sureIfHeard_28 : decode cX4_sureIfHeard 28 = .ok (.istore 7, 2) := by decide +kernel
theorem dX4_sureIfHeard_30 : decode cX4_sureIfHeard 30 = .ok (.iload 7, 2) := by decide +kernel
theorem dX4_sureIfHeard_32 : decode cX4_sureIfHeard 32 = .ok (.aload_n 1, 1) := by decide +kernel
theorem dX4_sureIfHeard_33 : decode cX4_sureIfHeard 33 = .ok (.getfield 52, 3) := by decide +kernel
theorem dX4_sureIfHeard_36 : decode cX4_sureIfHeard 36 = .ok (.if_icmp .ge 59, 3) := by decide +kernel
theorem dX4_sureIfHeard_39 : decode cX4_sureIfHeard 39 = .ok (.aload_n 2, 1) := by decide +kernel
theorem dX4_sureIfHeard_40 : decode cX4_sureIfHeard 40 = .ok (.iload 7, 2) := by decide +kernel
theorem dX4_sureIfHeard_42 : decode cX4_sureIfHeard 42 = .ok (.invokevirtual 56, 3) := by decide +kernel
theorem dX4_sureIfHeard_45 : decode cX4_sureIfHeard 45 = .ok (.iconst 1, 1) := by decide +kernel
theorem dX4_sureIfHeard_46 : decode cX4_sureIfHeard 46 = .ok (.if_icmp .ne 43, 3) := by decide +kernel
theorem dX4_sureIfHeard_49 : decode cX4_sureIfHeard 49 = .ok (.aload_n 0, 1) := by decide +kernel
theorem dX4_sureIfHeard_50 : decode cX4_sureIfHeard 50 = .ok (.getfield 28, 3) := by decide +kernel
theorem dX4_sureIfHeard_53 : decode cX4_sureIfHeard 53 = .ok (.iload 7, 2) := by decide +kernel
theorem dX4_sureIfHeard_55 : decode cX4_sureIfHeard 55 = .ok (.invokevirtual 56, 3) := by decide +kernel
theorem dX4_sureIfHeard_58 : decode cX4_sureIfHeard 58 = .ok (.iload 5, 2) := by decide +kernel
theorem dX4_sureIfHeard_60 : decode cX4_sureIfHeard 60 = .ok (.if_icmp .ne 29, 3) := by decide +kernel
theorem dX4_sureIfHeard_63 : decode cX4_sureIfHeard 63 = .ok (.aload_n 1, 1) := by decide +kernel
theorem dX4_sureIfHeard_64 : decode cX4_sureIfHeard 64 = .ok (.iload_n 3, 1) := by decide +kernel
theorem dX4_sureIfHeard_65 : decode cX4_sureIfHeard 65 = .ok (.iload 7, 2) := by decide +kernel
theorem dX4_sureIfHeard_67 : decode cX4_sureIfHeard 67 = .ok (.invokevirtual 48, 3) := by decide +kernel
theorem dX4_sureIfHeard_70 : decode cX4_sureIfHeard 70 = .ok (.iload 4, 2) := by decide +kernel
theorem dX4_sureIfHeard_72 : decode cX4_sureIfHeard 72 = .ok (.if_icmp .ne 17, 3) := by decide +kernel
theorem dX4_sureIfHeard_75 : decode cX4_sureIfHeard 75 = .ok (.iload 6, 2) := by decide +kernel
theorem dX4_sureIfHeard_77 : decode cX4_sureIfHeard 77 = .ok (.iconst 1, 1) := by decide +kernel
theorem dX4_sureIfHeard_78 : decode cX4_sureIfHeard 78 = .ok (.aload_n 1, 1) := by decide +kernel
theorem dX4_sureIfHeard_79 : decode cX4_sureIfHeard 79 = .ok (.iload 7, 2) := by decide +kernel
theorem dX4_sureIfHeard_81 : decode cX4_sureIfHeard 81 = .ok (.iload_n 3, 1) := by decide +kernel
theorem dX4_sureIfHeard_82 : decode cX4_sureIfHeard 82 = .ok (.invokevirtual 60, 3) := by decide +kernel
theorem dX4_sureIfHeard_85 : decode cX4_sureIfHeard 85 = .ok (.ishl, 1) := by decide +kernel
theorem dX4_sureIfHeard_86 : decode cX4_sureIfHeard 86 = .ok (.ior, 1) := by decide +kernel
theorem dX4_sureIfHeard_87 : decode cX4_sureIfHeard 87 = .ok (.istore 6, 2) := by decide +kernel
theorem dX4_sureIfHeard_89 : decode cX4_sureIfHeard 89 = .ok (.iinc 7 1, 3) := by decide +kernel
theorem dX4_sureIfHeard_92 : decode cX4_sureIfHeard 92 = .ok (.goto (-62), 3) := by decide +kernel
theorem dX4_sureIfHeard_95 : decode cX4_sureIfHeard 95 = .ok (.aload_n 0, 1) := by decide +kernel
theorem dX4_sureIfHeard_96 : decode cX4_sureIfHeard 96 = .ok (.iload 6, 2) := by decide +kernel
theorem dX4_sureIfHeard_98 : decode cX4_sureIfHeard 98 = .ok (.invokevirtual 75, 3) := by decide +kernel
theorem dX4_sureIfHeard_101 : decode cX4_sureIfHeard 101 = .ok (.iconst (-1), 1) := by decide +kernel
theorem dX4_sureIfHeard_102 : decode cX4_sureIfHeard 102 = .ok (.if_icmp .eq 7, 3) := by decide +kernel
theorem dX4_sureIfHeard_105 : decode cX4_sureIfHeard 105 = .ok (.iconst 1, 1) := by decide +kernel
theorem dX4_sureIfHeard_106 : decode cX4_sureIfHeard 106 = .ok (.goto 4, 3) := by decide +kernel
theorem dX4_sureIfHeard_109 : decode cX4_sureIfHeard 109 = .ok (.iconst 0, 1) := by decide +kernel
theorem dX4_sureIfHeard_110 : decode cX4_sureIfHeard 110 = .ok (.ireturn, 1) := by decide +kernel
theorem dX4_heed_0 : decode cX4_heed 0 = .ok (.aload_n 0, 1) := by decide +kernel
theorem dX4_heed_1 : decode cX4_heed 1 = .ok (.getfield 28, 3) := by decide +kernel
theorem dX4_heed_4 : decode cX4_heed 4 = .ok (.aload_n 1, 1) := by decide +kernel
theorem dX4_heed_5 : decode cX4_heed 5 = .ok (.getfield 81, 3) := by decide +kernel
theorem dX4_heed_8 : decode cX4_heed 8 = .ok (.invokevirtual 56, 3) := by decide +kernel
theorem dX4_heed_11 : decode cX4_heed 11 = .ok (.istore_n 3, 1) := by decide +kernel
theorem dX4_heed_12 : decode cX4_heed 12 = .ok (.iconst 0, 1) := by decide +kernel
theorem dX4_heed_13 : decode cX4_heed 13 = .ok (.istore 4, 2) := by decide +kernel
theorem dX4_heed_15 : decode cX4_heed 15 = .ok (.iconst 0, 1) := by decide +kernel
theorem dX4_heed_16 : decode cX4_heed 16 = .ok (.istore 5, 2) := by decide +kernel
theorem dX4_heed_18 : decode cX4_heed 18 = .ok (.iload 5, 2) := by decide +kernel
theorem dX4_heed_20 : decode cX4_heed 20 = .ok (.aload_n 1, 1) := by decide +kernel
theorem dX4_heed_21 : decode cX4_heed 21 = .ok (.getfield 52, 3) := by decide +kernel
theorem dX4_heed_24 : decode cX4_heed 24 = .ok (.if_icmp .ge 42, 3) := by decide +kernel
theorem dX4_heed_27 : decode cX4_heed 27 = .ok (.aload_n 2, 1) := by decide +kernel
theorem dX4_heed_28 : decode cX4_heed 28 = .ok (.iload 5, 2) := by decide +kernel
theorem dX4_heed_30 : decode cX4_heed 30 = .ok (.invokevirtual 56, 3) := by decide +kernel
theorem dX4_heed_33 : decode cX4_heed 33 = .ok (.iconst 1, 1) := by decide +kernel
theorem dX4_heed_34 : decode cX4_heed 34 = .ok (.if_icmp .ne 26, 3) := by decide +kernel
theorem dX4_heed_37 : decode cX4_heed 37 = .ok (.aload_n 0, 1) := by decide +kernel
theorem dX4_heed_38 : decode cX4_heed 38 = .ok (.getfield 28, 3) := by decide +kernel
theorem dX4_heed_41 : decode cX4_heed 41 = .ok (.iload 5, 2) := by decide +kernel
theorem dX4_heed_43 : decode cX4_heed 43 = .ok (.invokevirtual 56, 3) := by decide +kernel
theorem dX4_heed_46 : decode cX4_heed 46 = .ok (.iload_n 3, 1) := by decide +kernel
theorem dX4_heed_47 : decode cX4_heed 47 = .ok (.if_icmp .eq 13, 3) := by decide +kernel
theorem dX4_heed_50 : decode cX4_heed 50 = .ok (.aload_n 2, 1) := by decide +kernel
theorem dX4_heed_51 : decode cX4_heed 51 = .ok (.iload 5, 2) := by decide +kernel
theorem dX4_heed_53 : decode cX4_heed 53 = .ok (.iconst 0, 1) := by decide +kernel
theorem dX4_heed_54 : decode cX4_heed 54 = .ok (.invokevirtual 110, 3) := by decide +kernel
theorem dX4_heed_57 : decode cX4_heed 57 = .ok (.iconst 1, 1) := by decide +kernel
theorem dX4_heed_58 : decode cX4_heed 58 = .ok (.istore 4, 2) := by decide +kernel
theorem dX4_heed_60 : decode cX4_heed 60 = .ok (.iinc 5 1, 3) := by decide +kernel
theorem dX4_heed_63 : decode cX4_heed 63 = .ok (.goto (-45), 3) := by decide +kernel
theorem dX4_heed_66 : decode cX4_heed 66 = .ok (.iload 4, 2) := by decide +kernel
theorem dX4_heed_68 : decode cX4_heed 68 = .ok (.ireturn, 1) := by decide +kernel
theorem dX4_daysUntilSure_0 : decode cX4_daysUntilSure 0 = .ok (.aload_n 0, 1) := by decide +kernel
theorem dX4_daysUntilSure_1 : decode cX4_daysUntilSure 1 = .ok (.getfield 31, 3) := by decide +kernel
theorem dX4_daysUntilSure_4 : decode cX4_daysUntilSure 4 = .ok (.aload_n 1, 1) := by decide +kernel
theorem dX4_daysUntilSure_5 : decode cX4_daysUntilSure 5 = .ok (.getfield 84, 3) := by decide +kernel
theorem dX4_daysUntilSure_8 : decode cX4_daysUntilSure 8 = .ok (.aload_n 1, 1) := by decide +kernel
theorem dX4_daysUntilSure_9 : decode cX4_daysUntilSure 9 = .ok (.getfield 52, 3) := by decide +kernel
theorem dX4_daysUntilSure_12 : decode cX4_daysUntilSure 12 = .ok (.invokevirtual 120, 3) := by decide +kernel
theorem dX4_daysUntilSure_15 : decode cX4_daysUntilSure 15 = .ok (.iconst 0, 1) := by decide +kernel
theorem dX4_daysUntilSure_16 : decode cX4_daysUntilSure 16 = .ok (.istore_n 3, 1) := by decide +kernel
theorem dX4_daysUntilSure_17 : decode cX4_daysUntilSure 17 = .ok (.iload_n 3, 1) := by decide +kernel
theorem dX4_daysUntilSure_18 : decode cX4_daysUntilSure 18 = .ok (.bipush 40, 2) := by decide +kernel
theorem dX4_daysUntilSure_20 : decode cX4_daysUntilSure 20 = .ok (.if_icmp .gt 68, 3) := by decide +kernel
theorem dX4_daysUntilSure_23 : decode cX4_daysUntilSure 23 = .ok (.aload_n 0, 1) := by decide +kernel
theorem dX4_daysUntilSure_24 : decode cX4_daysUntilSure 24 = .ok (.aload_n 1, 1) := by decide +kernel
theorem dX4_daysUntilSure_25 : decode cX4_daysUntilSure 25 = .ok (.aload_n 0, 1) := by decide +kernel
theorem dX4_daysUntilSure_26 : decode cX4_daysUntilSure 26 = .ok (.getfield 31, 3) := by decide +kernel
theorem dX4_daysUntilSure_29 : decode cX4_daysUntilSure 29 = .ok (.invokevirtual 124, 3) := by decide +kernel
theorem dX4_daysUntilSure_32 : decode cX4_daysUntilSure 32 = .ok (.istore 4, 2) := by decide +kernel
theorem dX4_daysUntilSure_34 : decode cX4_daysUntilSure 34 = .ok (.iload_n 2, 1) := by decide +kernel
theorem dX4_daysUntilSure_35 : decode cX4_daysUntilSure 35 = .ok (.iconst (-1), 1) := by decide +kernel
theorem dX4_daysUntilSure_36 : decode cX4_daysUntilSure 36 = .ok (.if_icmp .ne 11, 3) := by decide +kernel
theorem dX4_daysUntilSure_39 : decode cX4_daysUntilSure 39 = .ok (.iload 4, 2) := by decide +kernel
theorem dX4_daysUntilSure_41 : decode cX4_daysUntilSure 41 = .ok (.ifCond .eq 18, 3) := by decide +kernel
theorem dX4_daysUntilSure_44 : decode cX4_daysUntilSure 44 = .ok (.goto 13, 3) := by decide +kernel
theorem dX4_daysUntilSure_47 : decode cX4_daysUntilSure 47 = .ok (.iload 4, 2) := by decide +kernel
theorem dX4_daysUntilSure_49 : decode cX4_daysUntilSure 49 = .ok (.iload_n 2, 1) := by decide +kernel
theorem dX4_daysUntilSure_50 : decode cX4_daysUntilSure 50 = .ok (.ishr, 1) := by decide +kernel
theorem dX4_daysUntilSure_51 : decode cX4_daysUntilSure 51 = .ok (.iconst 1, 1) := by decide +kernel
theorem dX4_daysUntilSure_52 : decode cX4_daysUntilSure 52 = .ok (.iand, 1) := by decide +kernel
theorem dX4_daysUntilSure_53 : decode cX4_daysUntilSure 53 = .ok (.iconst 1, 1) := by decide +kernel
theorem dX4_daysUntilSure_54 : decode cX4_daysUntilSure 54 = .ok (.if_icmp .ne 5, 3) := by decide +kernel
theorem dX4_daysUntilSure_57 : decode cX4_daysUntilSure 57 = .ok (.iload_n 3, 1) := by decide +kernel
theorem dX4_daysUntilSure_58 : decode cX4_daysUntilSure 58 = .ok (.ireturn, 1) := by decide +kernel
theorem dX4_daysUntilSure_59 : decode cX4_daysUntilSure 59 = .ok (.aload_n 0, 1) := by decide +kernel
theorem dX4_daysUntilSure_60 : decode cX4_daysUntilSure 60 = .ok (.aload_n 1, 1) := by decide +kernel
theorem dX4_daysUntilSure_61 : decode cX4_daysUntilSure 61 = .ok (.aload_n 0, 1) := by decide +kernel
theorem dX4_daysUntilSure_62 : decode cX4_daysUntilSure 62 = .ok (.getfield 31, 3) := by decide +kernel
theorem dX4_daysUntilSure_65 : decode cX4_daysUntilSure 65 = .ok (.invokevirtual 128, 3) := by decide +kernel
theorem dX4_daysUntilSure_68 : decode cX4_daysUntilSure 68 = .ok (.aload_n 0, 1) := by decide +kernel
theorem dX4_daysUntilSure_69 : decode cX4_daysUntilSure 69 = .ok (.aload_n 1, 1) := by decide +kernel
theorem dX4_daysUntilSure_70 : decode cX4_daysUntilSure 70 = .ok (.aload_n 0, 1) := by decide +kernel
theorem dX4_daysUntilSure_71 : decode cX4_daysUntilSure 71 = .ok (.getfield 31, 3) := by decide +kernel
theorem dX4_daysUntilSure_74 : decode cX4_daysUntilSure 74 = .ok (.invokevirtual 132, 3) := by decide +kernel
theorem dX4_daysUntilSure_77 : decode cX4_daysUntilSure 77 = .ok (.ifCond .ne 5, 3) := by decide +kernel
theorem dX4_daysUntilSure_80 : decode cX4_daysUntilSure 80 = .ok (.iconst (-1), 1) := by decide +kernel
theorem dX4_daysUntilSure_81 : decode cX4_daysUntilSure 81 = .ok (.ireturn, 1) := by decide +kernel
theorem dX4_daysUntilSure_82 : decode cX4_daysUntilSure 82 = .ok (.iinc 3 1, 3) := by decide +kernel
theorem dX4_daysUntilSure_85 : decode cX4_daysUntilSure 85 = .ok (.goto (-68), 3) := by decide +kernel
theorem dX4_daysUntilSure_88 : decode cX4_daysUntilSure 88 = .ok (.iconst (-1), 1) := by decide +kernel
theorem dX4_daysUntilSure_89 : decode cX4_daysUntilSure 89 = .ok (.ireturn, 1) := by decide +kernel
theorem dX4_spilledBy_0 : decode cX4_spilledBy 0 = .ok (.aload_n 0, 1) := by decide +kernel
theorem dX4_spilledBy_1 : decode cX4_spilledBy 1 = .ok (.aload_n 1, 1) := by decide +kernel
theorem dX4_spilledBy_2 : decode cX4_spilledBy 2 = .ok (.iload_n 2, 1) := by decide +kernel
theorem dX4_spilledBy_3 : decode cX4_spilledBy 3 = .ok (.invokevirtual 136, 3) := by decide +kernel
theorem dX4_spilledBy_6 : decode cX4_spilledBy 6 = .ok (.iconst 0, 1) := by decide +kernel
theorem dX4_spilledBy_7 : decode cX4_spilledBy 7 = .ok (.istore_n 3, 1) := by decide +kernel
theorem dX4_spilledBy_8 : decode cX4_spilledBy 8 = .ok (.iconst 0, 1) := by decide +kernel
theorem dX4_spilledBy_9 : decode cX4_spilledBy 9 = .ok (.istore 4, 2) := by decide +kernel
theorem dX4_spilledBy_11 : decode cX4_spilledBy 11 = .ok (.iload 4, 2) := by decide +kernel
theorem dX4_spilledBy_13 : decode cX4_spilledBy 13 = .ok (.aload_n 1, 1) := by decide +kernel
theorem dX4_spilledBy_14 : decode cX4_spilledBy 14 = .ok (.getfield 78, 3) := by decide +kernel
theorem dX4_spilledBy_17 : decode cX4_spilledBy 17 = .ok (.if_icmp .ge 48, 3) := by decide +kernel
theorem dX4_spilledBy_20 : decode cX4_spilledBy 20 = .ok (.aload_n 0, 1) := by decide +kernel
theorem dX4_spilledBy_21 : decode cX4_spilledBy 21 = .ok (.aload_n 1, 1) := by decide +kernel
theorem dX4_spilledBy_22 : decode cX4_spilledBy 22 = .ok (.aload_n 1, 1) := by decide +kernel
theorem dX4_spilledBy_23 : decode cX4_spilledBy 23 = .ok (.getfield 84, 3) := by decide +kernel
theorem dX4_spilledBy_26 : decode cX4_spilledBy 26 = .ok (.iload 4, 2) := by decide +kernel
theorem dX4_spilledBy_28 : decode cX4_spilledBy 28 = .ok (.aload_n 1, 1) := by decide +kernel
theorem dX4_spilledBy_29 : decode cX4_spilledBy 29 = .ok (.getfield 81, 3) := by decide +kernel
theorem dX4_spilledBy_32 : decode cX4_spilledBy 32 = .ok (.invokevirtual 140, 3) := by decide +kernel
theorem dX4_spilledBy_35 : decode cX4_spilledBy 35 = .ok (.ifCond .ne 24, 3) := by decide +kernel
theorem dX4_spilledBy_38 : decode cX4_spilledBy 38 = .ok (.aload_n 0, 1) := by decide +kernel
theorem dX4_spilledBy_39 : decode cX4_spilledBy 39 = .ok (.aload_n 1, 1) := by decide +kernel
theorem dX4_spilledBy_40 : decode cX4_spilledBy 40 = .ok (.aload_n 1, 1) := by decide +kernel
theorem dX4_spilledBy_41 : decode cX4_spilledBy 41 = .ok (.getfield 84, 3) := by decide +kernel
theorem dX4_spilledBy_44 : decode cX4_spilledBy 44 = .ok (.iload 4, 2) := by decide +kernel
theorem dX4_spilledBy_46 : decode cX4_spilledBy 46 = .ok (.invokevirtual 144, 3) := by decide +kernel
theorem dX4_spilledBy_49 : decode cX4_spilledBy 49 = .ok (.ifCond .eq 10, 3) := by decide +kernel
theorem dX4_spilledBy_52 : decode cX4_spilledBy 52 = .ok (.iload_n 3, 1) := by decide +kernel
theorem dX4_spilledBy_53 : decode cX4_spilledBy 53 = .ok (.iconst 1, 1) := by decide +kernel
theorem dX4_spilledBy_54 : decode cX4_spilledBy 54 = .ok (.iload 4, 2) := by decide +kernel
theorem dX4_spilledBy_56 : decode cX4_spilledBy 56 = .ok (.ishl, 1) := by decide +kernel
theorem dX4_spilledBy_57 : decode cX4_spilledBy 57 = .ok (.ior, 1) := by decide +kernel
theorem dX4_spilledBy_58 : decode cX4_spilledBy 58 = .ok (.istore_n 3, 1) := by decide +kernel
theorem dX4_spilledBy_59 : decode cX4_spilledBy 59 = .ok (.iinc 4 1, 3) := by decide +kernel
theorem dX4_spilledBy_62 : decode cX4_spilledBy 62 = .ok (.goto (-51), 3) := by decide +kernel
theorem dX4_spilledBy_65 : decode cX4_spilledBy 65 = .ok (.iload_n 3, 1) := by decide +kernel
theorem dX4_spilledBy_66 : decode cX4_spilledBy 66 = .ok (.ireturn, 1) := by decide +kernel
theorem dX4_firstLike_0 : decode cX4_firstLike 0 = .ok (.iconst 0, 1) := by decide +kernel
theorem dX4_firstLike_1 : decode cX4_firstLike 1 = .ok (.istore_n 2, 1) := by decide +kernel
theorem dX4_firstLike_2 : decode cX4_firstLike 2 = .ok (.iload_n 2, 1) := by decide +kernel
theorem dX4_firstLike_3 : decode cX4_firstLike 3 = .ok (.iload_n 1, 1) := by decide +kernel
theorem dX4_firstLike_4 : decode cX4_firstLike 4 = .ok (.if_icmp .ge 30, 3) := by decide +kernel
theorem dX4_firstLike_7 : decode cX4_firstLike 7 = .ok (.aload_n 0, 1) := by decide +kernel
theorem dX4_firstLike_8 : decode cX4_firstLike 8 = .ok (.getfield 34, 3) := by decide +kernel
theorem dX4_firstLike_11 : decode cX4_firstLike 11 = .ok (.iload_n 2, 1) := by decide +kernel
theorem dX4_firstLike_12 : decode cX4_firstLike 12 = .ok (.invokevirtual 56, 3) := by decide +kernel
theorem dX4_firstLike_15 : decode cX4_firstLike 15 = .ok (.aload_n 0, 1) := by decide +kernel
theorem dX4_firstLike_16 : decode cX4_firstLike 16 = .ok (.getfield 34, 3) := by decide +kernel
theorem dX4_firstLike_19 : decode cX4_firstLike 19 = .ok (.iload_n 1, 1) := by decide +kernel
theorem dX4_firstLike_20 : decode cX4_firstLike 20 = .ok (.invokevirtual 56, 3) := by decide +kernel
theorem dX4_firstLike_23 : decode cX4_firstLike 23 = .ok (.if_icmp .ne 5, 3) := by decide +kernel
theorem dX4_firstLike_26 : decode cX4_firstLike 26 = .ok (.iload_n 2, 1) := by decide +kernel
theorem dX4_firstLike_27 : decode cX4_firstLike 27 = .ok (.ireturn, 1) := by decide +kernel
theorem dX4_firstLike_28 : decode cX4_firstLike 28 = .ok (.iinc 2 1, 3) := by decide +kernel
theorem dX4_firstLike_31 : decode cX4_firstLike 31 = .ok (.goto (-29), 3) := by decide +kernel
theorem dX4_firstLike_34 : decode cX4_firstLike 34 = .ok (.iload_n 1, 1) := by decide +kernel
theorem dX4_firstLike_35 : decode cX4_firstLike 35 = .ok (.ireturn, 1) := by decide +kernel
theorem dX4_meet_0 : decode cX4_meet 0 = .ok (.aload_n 0, 1) := by decide +kernel
theorem dX4_meet_1 : decode cX4_meet 1 = .ok (.getfield 42, 3) := by decide +kernel
theorem dX4_meet_4 : decode cX4_meet 4 = .ok (.iconst 1, 1) := by decide +kernel
theorem dX4_meet_5 : decode cX4_meet 5 = .ok (.iload_n 2, 1) := by decide +kernel
theorem dX4_meet_6 : decode cX4_meet 6 = .ok (.invokevirtual 110, 3) := by decide +kernel
theorem dX4_meet_9 : decode cX4_meet 9 = .ok (.aload_n 0, 1) := by decide +kernel
theorem dX4_meet_10 : decode cX4_meet 10 = .ok (.getfield 42, 3) := by decide +kernel
theorem dX4_meet_13 : decode cX4_meet 13 = .ok (.iconst 2, 1) := by decide +kernel
theorem dX4_meet_14 : decode cX4_meet 14 = .ok (.iload_n 3, 1) := by decide +kernel
theorem dX4_meet_15 : decode cX4_meet 15 = .ok (.invokevirtual 110, 3) := by decide +kernel
theorem dX4_meet_18 : decode cX4_meet 18 = .ok (.aload_n 0, 1) := by decide +kernel
theorem dX4_meet_19 : decode cX4_meet 19 = .ok (.getfield 42, 3) := by decide +kernel
theorem dX4_meet_22 : decode cX4_meet 22 = .ok (.iconst 3, 1) := by decide +kernel
theorem dX4_meet_23 : decode cX4_meet 23 = .ok (.aload_n 1, 1) := by decide +kernel
theorem dX4_meet_24 : decode cX4_meet 24 = .ok (.getfield 148, 3) := by decide +kernel
theorem dX4_meet_27 : decode cX4_meet 27 = .ok (.invokevirtual 110, 3) := by decide +kernel
theorem dX4_meet_30 : decode cX4_meet 30 = .ok (.aload_n 0, 1) := by decide +kernel
theorem dX4_meet_31 : decode cX4_meet 31 = .ok (.getfield 42, 3) := by decide +kernel
theorem dX4_meet_34 : decode cX4_meet 34 = .ok (.iconst 5, 1) := by decide +kernel
theorem dX4_meet_35 : decode cX4_meet 35 = .ok (.aload_n 1, 1) := by decide +kernel
theorem dX4_meet_36 : decode cX4_meet 36 = .ok (.iload_n 3, 1) := by decide +kernel
theorem dX4_meet_37 : decode cX4_meet 37 = .ok (.iload_n 2, 1) := by decide +kernel
theorem dX4_meet_38 : decode cX4_meet 38 = .ok (.invokevirtual 151, 3) := by decide +kernel
theorem dX4_meet_41 : decode cX4_meet 41 = .ok (.ifCond .eq 7, 3) := by decide +kernel
theorem dX4_meet_44 : decode cX4_meet 44 = .ok (.iconst 1, 1) := by decide +kernel
theorem dX4_meet_45 : decode cX4_meet 45 = .ok (.goto 4, 3) := by decide +kernel
theorem dX4_meet_48 : decode cX4_meet 48 = .ok (.iconst 0, 1) := by decide +kernel
theorem dX4_meet_49 : decode cX4_meet 49 = .ok (.invokevirtual 110, 3) := by decide +kernel
theorem dX4_meet_52 : decode cX4_meet 52 = .ok (.iconst 0, 1) := by decide +kernel
theorem dX4_meet_53 : decode cX4_meet 53 = .ok (.istore 4, 2) := by decide +kernel
theorem dX4_meet_55 : decode cX4_meet 55 = .ok (.iload 4, 2) := by decide +kernel
theorem dX4_meet_57 : decode cX4_meet 57 = .ok (.bipush 8, 2) := by decide +kernel
theorem dX4_meet_59 : decode cX4_meet 59 = .ok (.if_icmp .ge 83, 3) := by decide +kernel
theorem dX4_meet_62 : decode cX4_meet 62 = .ok (.aload_n 0, 1) := by decide +kernel
theorem dX4_meet_63 : decode cX4_meet 63 = .ok (.getfield 42, 3) := by decide +kernel
theorem dX4_meet_66 : decode cX4_meet 66 = .ok (.iconst 0, 1) := by decide +kernel
theorem dX4_meet_67 : decode cX4_meet 67 = .ok (.iload 4, 2) := by decide +kernel
theorem dX4_meet_69 : decode cX4_meet 69 = .ok (.iconst 1, 1) := by decide +kernel
theorem dX4_meet_70 : decode cX4_meet 70 = .ok (.ishr, 1) := by decide +kernel
theorem dX4_meet_71 : decode cX4_meet 71 = .ok (.invokevirtual 110, 3) := by decide +kernel
theorem dX4_meet_74 : decode cX4_meet 74 = .ok (.aload_n 0, 1) := by decide +kernel
theorem dX4_meet_75 : decode cX4_meet 75 = .ok (.getfield 42, 3) := by decide +kernel
theorem dX4_meet_78 : decode cX4_meet 78 = .ok (.iconst 4, 1) := by decide +kernel
theorem dX4_meet_79 : decode cX4_meet 79 = .ok (.iload 4, 2) := by decide +kernel
theorem dX4_meet_81 : decode cX4_meet 81 = .ok (.iconst 1, 1) := by decide +kernel
theorem dX4_meet_82 : decode cX4_meet 82 = .ok (.iand, 1) := by decide +kernel
theorem dX4_meet_83 : decode cX4_meet 83 = .ok (.invokevirtual 110, 3) := by decide +kernel
theorem dX4_meet_86 : decode cX4_meet 86 = .ok (.aload_n 0, 1) := by decide +kernel
theorem dX4_meet_87 : decode cX4_meet 87 = .ok (.getfield 34, 3) := by decide +kernel
theorem dX4_meet_90 : decode cX4_meet 90 = .ok (.iload 4, 2) := by decide +kernel
theorem dX4_meet_92 : decode cX4_meet 92 = .ok (.aload_n 1, 1) := by decide +kernel
theorem dX4_meet_93 : decode cX4_meet 93 = .ok (.getfield 155, 3) := by decide +kernel
theorem dX4_meet_96 : decode cX4_meet 96 = .ok (.ifnonnull 7, 3) := by decide +kernel
theorem dX4_meet_99 : decode cX4_meet 99 = .ok (.iconst 0, 1) := by decide +kernel
theorem dX4_meet_100 : decode cX4_meet 100 = .ok (.goto 18, 3) := by decide +kernel
theorem dX4_meet_103 : decode cX4_meet 103 = .ok (.aload_n 1, 1) := by decide +kernel
theorem dX4_meet_104 : decode cX4_meet 104 = .ok (.getfield 155, 3) := by decide +kernel
theorem dX4_meet_107 : decode cX4_meet 107 = .ok (.aload_n 0, 1) := by decide +kernel
theorem dX4_meet_108 : decode cX4_meet 108 = .ok (.getfield 42, 3) := by decide +kernel
theorem dX4_meet_111 : decode cX4_meet 111 = .ok (.aload_n 0, 1) := by decide +kernel
theorem dX4_meet_112 : decode cX4_meet 112 = .ok (.getfield 45, 3) := by decide +kernel
theorem dX4_meet_115 : decode cX4_meet 115 = .ok (.invokevirtual 159, 3) := by decide +kernel
theorem dX4_meet_118 : decode cX4_meet 118 = .ok (.invokevirtual 110, 3) := by decide +kernel
theorem dX4_meet_121 : decode cX4_meet 121 = .ok (.aload_n 0, 1) := by decide +kernel
theorem dX4_meet_122 : decode cX4_meet 122 = .ok (.getfield 37, 3) := by decide +kernel
theorem dX4_meet_125 : decode cX4_meet 125 = .ok (.iload 4, 2) := by decide +kernel
theorem dX4_meet_127 : decode cX4_meet 127 = .ok (.aload_n 0, 1) := by decide +kernel
theorem dX4_meet_128 : decode cX4_meet 128 = .ok (.iload 4, 2) := by decide +kernel
theorem dX4_meet_130 : decode cX4_meet 130 = .ok (.invokevirtual 163, 3) := by decide +kernel
theorem dX4_meet_133 : decode cX4_meet 133 = .ok (.invokevirtual 110, 3) := by decide +kernel
theorem dX4_meet_136 : decode cX4_meet 136 = .ok (.iinc 4 1, 3) := by decide +kernel
theorem dX4_meet_139 : decode cX4_meet 139 = .ok (.goto (-84), 3) := by decide +kernel
theorem dX4_meet_142 : decode cX4_meet 142 = .ok (.aload_n 0, 1) := by decide +kernel
theorem dX4_meet_143 : decode cX4_meet 143 = .ok (.aload_n 1, 1) := by decide +kernel
theorem dX4_meet_144 : decode cX4_meet 144 = .ok (.aload_n 1, 1) := by decide +kernel
theorem dX4_meet_145 : decode cX4_meet 145 = .ok (.getfield 84, 3) := by decide +kernel
theorem dX4_meet_148 : decode cX4_meet 148 = .ok (.iload_n 2, 1) := by decide +kernel
theorem dX4_meet_149 : decode cX4_meet 149 = .ok (.iload_n 2, 1) := by decide +kernel
theorem dX4_meet_150 : decode cX4_meet 150 = .ok (.invokevirtual 95, 3) := by decide +kernel
theorem dX4_meet_153 : decode cX4_meet 153 = .ok (.iconst 0, 1) := by decide +kernel
theorem dX4_meet_154 : decode cX4_meet 154 = .ok (.istore 4, 2) := by decide +kernel
theorem dX4_meet_156 : decode cX4_meet 156 = .ok (.iload 4, 2) := by decide +kernel
theorem dX4_meet_158 : decode cX4_meet 158 = .ok (.aload_n 1, 1) := by decide +kernel
theorem dX4_meet_159 : decode cX4_meet 159 = .ok (.getfield 52, 3) := by decide +kernel
theorem dX4_meet_162 : decode cX4_meet 162 = .ok (.if_icmp .ge 60, 3) := by decide +kernel
theorem dX4_meet_165 : decode cX4_meet 165 = .ok (.aload_n 0, 1) := by decide +kernel
theorem dX4_meet_166 : decode cX4_meet 166 = .ok (.aload_n 0, 1) := by decide +kernel
theorem dX4_meet_167 : decode cX4_meet 167 = .ok (.aload_n 1, 1) := by decide +kernel
theorem dX4_meet_168 : decode cX4_meet 168 = .ok (.iload_n 2, 1) := by decide +kernel
theorem dX4_meet_169 : decode cX4_meet 169 = .ok (.iload 4, 2) := by decide +kernel
theorem dX4_meet_171 : decode cX4_meet 171 = .ok (.invokevirtual 99, 3) := by decide +kernel
theorem dX4_meet_174 : decode cX4_meet 174 = .ok (.invokevirtual 75, 3) := by decide +kernel
theorem dX4_meet_177 : decode cX4_meet 177 = .ok (.iconst (-1), 1) := by decide +kernel
theorem dX4_meet_178 : decode cX4_meet 178 = .ok (.if_icmp .ne 7, 3) := by decide +kernel
theorem dX4_meet_181 : decode cX4_meet 181 = .ok (.iconst 0, 1) := by decide +kernel
theorem dX4_meet_182 : decode cX4_meet 182 = .ok (.goto 4, 3) := by decide +kernel
theorem dX4_meet_185 : decode cX4_meet 185 = .ok (.iconst 1, 1) := by decide +kernel
theorem dX4_meet_186 : decode cX4_meet 186 = .ok (.istore 5, 2) := by decide +kernel
theorem dX4_meet_188 : decode cX4_meet 188 = .ok (.aload_n 0, 1) := by decide +kernel
theorem dX4_meet_189 : decode cX4_meet 189 = .ok (.getfield 25, 3) := by decide +kernel
theorem dX4_meet_192 : decode cX4_meet 192 = .ok (.iload 4, 2) := by decide +kernel
theorem dX4_meet_194 : decode cX4_meet 194 = .ok (.aload_n 0, 1) := by decide +kernel
theorem dX4_meet_195 : decode cX4_meet 195 = .ok (.getfield 37, 3) := by decide +kernel
theorem dX4_meet_198 : decode cX4_meet 198 = .ok (.aload_n 1, 1) := by decide +kernel
theorem dX4_meet_199 : decode cX4_meet 199 = .ok (.iload 4, 2) := by decide +kernel
theorem dX4_meet_201 : decode cX4_meet 201 = .ok (.iload_n 3, 1) := by decide +kernel
theorem dX4_meet_202 : decode cX4_meet 202 = .ok (.invokevirtual 60, 3) := by decide +kernel
theorem dX4_meet_205 : decode cX4_meet 205 = .ok (.iconst 1, 1) := by decide +kernel
theorem dX4_meet_206 : decode cX4_meet 206 = .ok (.ishl, 1) := by decide +kernel
theorem dX4_meet_207 : decode cX4_meet 207 = .ok (.iload 5, 2) := by decide +kernel
theorem dX4_meet_209 : decode cX4_meet 209 = .ok (.ior, 1) := by decide +kernel
theorem dX4_meet_210 : decode cX4_meet 210 = .ok (.invokevirtual 56, 3) := by decide +kernel
theorem dX4_meet_213 : decode cX4_meet 213 = .ok (.invokevirtual 110, 3) := by decide +kernel
theorem dX4_meet_216 : decode cX4_meet 216 = .ok (.iinc 4 1, 3) := by decide +kernel
theorem dX4_meet_219 : decode cX4_meet 219 = .ok (.goto (-63), 3) := by decide +kernel
theorem dX4_meet_222 : decode cX4_meet 222 = .ok (.return_, 1) := by decide +kernel
theorem dX4_mannerIn_0 : decode cX4_mannerIn 0 = .ok (.aload_n 0, 1) := by decide +kernel
theorem dX4_mannerIn_1 : decode cX4_mannerIn 1 = .ok (.getfield 34, 3) := by decide +kernel
theorem dX4_mannerIn_4 : decode cX4_mannerIn 4 = .ok (.aload_n 0, 1) := by decide +kernel
theorem dX4_mannerIn_5 : decode cX4_mannerIn 5 = .ok (.getfield 25, 3) := by decide +kernel
theorem dX4_mannerIn_8 : decode cX4_mannerIn 8 = .ok (.iload_n 1, 1) := by decide +kernel
theorem dX4_mannerIn_9 : decode cX4_mannerIn 9 = .ok (.invokevirtual 56, 3) := by decide +kernel
theorem dX4_mannerIn_12 : decode cX4_mannerIn 12 = .ok (.invokevirtual 56, 3) := by decide +kernel
theorem dX4_mannerIn_15 : decode cX4_mannerIn 15 = .ok (.ireturn, 1) := by decide +kernel
theorem dX4_split_0 : decode cX4_split 0 = .ok (.aload_n 0, 1) := by decide +kernel
theorem dX4_split_1 : decode cX4_split 1 = .ok (.getfield 18, 3) := by decide +kernel
theorem dX4_split_4 : decode cX4_split 4 = .ok (.iconst (-1), 1) := by decide +kernel
theorem dX4_split_5 : decode cX4_split 5 = .ok (.aload_n 1, 1) := by decide +kernel
theorem dX4_split_6 : decode cX4_split 6 = .ok (.getfield 52, 3) := by decide +kernel
theorem dX4_split_9 : decode cX4_split 9 = .ok (.bipush 8, 2) := by decide +kernel
theorem dX4_split_11 : decode cX4_split 11 = .ok (.imul, 1) := by decide +kernel
theorem dX4_split_12 : decode cX4_split 12 = .ok (.invokevirtual 103, 3) := by decide +kernel
theorem dX4_split_15 : decode cX4_split 15 = .ok (.iconst 0, 1) := by decide +kernel
theorem dX4_split_16 : decode cX4_split 16 = .ok (.istore_n 3, 1) := by decide +kernel
theorem dX4_split_17 : decode cX4_split 17 = .ok (.iconst 0, 1) := by decide +kernel
theorem dX4_split_18 : decode cX4_split 18 = .ok (.istore 4, 2) := by decide +kernel
theorem dX4_split_20 : decode cX4_split 20 = .ok (.iload 4, 2) := by decide +kernel
theorem dX4_split_22 : decode cX4_split 22 = .ok (.aload_n 1, 1) := by decide +kernel
theorem dX4_split_23 : decode cX4_split 23 = .ok (.getfield 52, 3) := by decide +kernel
theorem dX4_split_26 : decode cX4_split 26 = .ok (.if_icmp .ge 91, 3) := by decide +kernel
theorem dX4_split_29 : decode cX4_split 29 = .ok (.aload_n 1, 1) := by decide +kernel
theorem dX4_split_30 : decode cX4_split 30 = .ok (.iload 4, 2) := by decide +kernel
theorem dX4_split_32 : decode cX4_split 32 = .ok (.invokevirtual 87, 3) := by decide +kernel
theorem dX4_split_35 : decode cX4_split 35 = .ok (.ifCond .eq 76, 3) := by decide +kernel
theorem dX4_split_38 : decode cX4_split 38 = .ok (.aload_n 1, 1) := by decide +kernel
theorem dX4_split_39 : decode cX4_split 39 = .ok (.iload_n 2, 1) := by decide +kernel
theorem dX4_split_40 : decode cX4_split 40 = .ok (.iload 4, 2) := by decide +kernel
theorem dX4_split_42 : decode cX4_split 42 = .ok (.invokevirtual 48, 3) := by decide +kernel
theorem dX4_split_45 : decode cX4_split 45 = .ok (.bipush 8, 2) := by decide +kernel
theorem dX4_split_47 : decode cX4_split 47 = .ok (.imul, 1) := by decide +kernel
theorem dX4_split_48 : decode cX4_split 48 = .ok (.aload_n 0, 1) := by decide +kernel
theorem dX4_split_49 : decode cX4_split 49 = .ok (.getfield 25, 3) := by decide +kernel
theorem dX4_split_52 : decode cX4_split 52 = .ok (.iload 4, 2) := by decide +kernel
theorem dX4_split_54 : decode cX4_split 54 = .ok (.invokevirtual 56, 3) := by decide +kernel
theorem dX4_split_57 : decode cX4_split 57 = .ok (.iadd, 1) := by decide +kernel
theorem dX4_split_58 : decode cX4_split 58 = .ok (.istore 5, 2) := by decide +kernel
theorem dX4_split_60 : decode cX4_split 60 = .ok (.aload_n 0, 1) := by decide +kernel
theorem dX4_split_61 : decode cX4_split 61 = .ok (.getfield 18, 3) := by decide +kernel
theorem dX4_split_64 : decode cX4_split 64 = .ok (.iload 5, 2) := by decide +kernel
theorem dX4_split_66 : decode cX4_split 66 = .ok (.invokevirtual 56, 3) := by decide +kernel
theorem dX4_split_69 : decode cX4_split 69 = .ok (.iconst (-1), 1) := by decide +kernel
theorem dX4_split_70 : decode cX4_split 70 = .ok (.if_icmp .ne 16, 3) := by decide +kernel
theorem dX4_split_73 : decode cX4_split 73 = .ok (.aload_n 0, 1) := by decide +kernel
theorem dX4_split_74 : decode cX4_split 74 = .ok (.getfield 18, 3) := by decide +kernel
theorem dX4_split_77 : decode cX4_split 77 = .ok (.iload 5, 2) := by decide +kernel
theorem dX4_split_79 : decode cX4_split 79 = .ok (.iload_n 3, 1) := by decide +kernel
theorem dX4_split_80 : decode cX4_split 80 = .ok (.invokevirtual 110, 3) := by decide +kernel
theorem dX4_split_83 : decode cX4_split 83 = .ok (.iinc 3 1, 3) := by decide +kernel
theorem dX4_split_86 : decode cX4_split 86 = .ok (.aload_n 1, 1) := by decide +kernel
theorem dX4_split_87 : decode cX4_split 87 = .ok (.getfield 172, 3) := by decide +kernel
theorem dX4_split_90 : decode cX4_split 90 = .ok (.iload_n 2, 1) := by decide +kernel
theorem dX4_split_91 : decode cX4_split 91 = .ok (.aload_n 1, 1) := by decide +kernel
theorem dX4_split_92 : decode cX4_split 92 = .ok (.getfield 52, 3) := by decide +kernel
theorem dX4_split_95 : decode cX4_split 95 = .ok (.imul, 1) := by decide +kernel
theorem dX4_split_96 : decode cX4_split 96 = .ok (.iload 4, 2) := by decide +kernel
theorem dX4_split_98 : decode cX4_split 98 = .ok (.iadd, 1) := by decide +kernel
theorem dX4_split_99 : decode cX4_split 99 = .ok (.aload_n 0, 1) := by decide +kernel
theorem dX4_split_100 : decode cX4_split 100 = .ok (.getfield 18, 3) := by decide +kernel
theorem dX4_split_103 : decode cX4_split 103 = .ok (.iload 5, 2) := by decide +kernel
theorem dX4_split_105 : decode cX4_split 105 = .ok (.invokevirtual 56, 3) := by decide +kernel
theorem dX4_split_108 : decode cX4_split 108 = .ok (.invokevirtual 110, 3) := by decide +kernel
theorem dX4_split_111 : decode cX4_split 111 = .ok (.iinc 4 1, 3) := by decide +kernel
theorem dX4_split_114 : decode cX4_split 114 = .ok (.goto (-94), 3) := by decide +kernel
theorem dX4_split_117 : decode cX4_split 117 = .ok (.return_, 1) := by decide +kernel
theorem dX4_look_0 : decode cX4_look 0 = .ok (.aload_n 1, 1) := by decide +kernel
theorem dX4_look_1 : decode cX4_look 1 = .ok (.getfield 166, 3) := by decide +kernel
theorem dX4_look_4 : decode cX4_look 4 = .ok (.iload_n 2, 1) := by decide +kernel
theorem dX4_look_5 : decode cX4_look 5 = .ok (.iconst 1, 1) := by decide +kernel
theorem dX4_look_6 : decode cX4_look 6 = .ok (.iload_n 3, 1) := by decide +kernel
theorem dX4_look_7 : decode cX4_look 7 = .ok (.ishl, 1) := by decide +kernel
theorem dX4_look_8 : decode cX4_look 8 = .ok (.invokevirtual 107, 3) := by decide +kernel
theorem dX4_look_11 : decode cX4_look 11 = .ok (.iconst 0, 1) := by decide +kernel
theorem dX4_look_12 : decode cX4_look 12 = .ok (.istore 4, 2) := by decide +kernel
theorem dX4_look_14 : decode cX4_look 14 = .ok (.iload 4, 2) := by decide +kernel
theorem dX4_look_16 : decode cX4_look 16 = .ok (.aload_n 1, 1) := by decide +kernel
theorem dX4_look_17 : decode cX4_look 17 = .ok (.getfield 52, 3) := by decide +kernel
theorem dX4_look_20 : decode cX4_look 20 = .ok (.if_icmp .ge 25, 3) := by decide +kernel
theorem dX4_look_23 : decode cX4_look 23 = .ok (.aload_n 0, 1) := by decide +kernel
theorem dX4_look_24 : decode cX4_look 24 = .ok (.getfield 25, 3) := by decide +kernel
theorem dX4_look_27 : decode cX4_look 27 = .ok (.iload 4, 2) := by decide +kernel
theorem dX4_look_29 : decode cX4_look 29 = .ok (.aload_n 1, 1) := by decide +kernel
theorem dX4_look_30 : decode cX4_look 30 = .ok (.iload 4, 2) := by decide +kernel
theorem dX4_look_32 : decode cX4_look 32 = .ok (.iload_n 3, 1) := by decide +kernel
theorem dX4_look_33 : decode cX4_look 33 = .ok (.invokevirtual 60, 3) := by decide +kernel
theorem dX4_look_36 : decode cX4_look 36 = .ok (.invokevirtual 110, 3) := by decide +kernel
theorem dX4_look_39 : decode cX4_look 39 = .ok (.iinc 4 1, 3) := by decide +kernel
theorem dX4_look_42 : decode cX4_look 42 = .ok (.goto (-28), 3) := by decide +kernel
theorem dX4_look_45 : decode cX4_look 45 = .ok (.aload_n 0, 1) := by decide +kernel
theorem dX4_look_46 : decode cX4_look 46 = .ok (.aload_n 1, 1) := by decide +kernel
theorem dX4_look_47 : decode cX4_look 47 = .ok (.iload_n 2, 1) := by decide +kernel
theorem dX4_look_48 : decode cX4_look 48 = .ok (.invokevirtual 169, 3) := by decide +kernel
theorem dX4_look_51 : decode cX4_look 51 = .ok (.return_, 1) := by decide +kernel
theorem dX4_weigh_0 : decode cX4_weigh 0 = .ok (.aload_n 0, 1) := by decide +kernel
theorem dX4_weigh_1 : decode cX4_weigh 1 = .ok (.aload_n 1, 1) := by decide +kernel
theorem dX4_weigh_2 : decode cX4_weigh 2 = .ok (.iload_n 2, 1) := by decide +kernel
theorem dX4_weigh_3 : decode cX4_weigh 3 = .ok (.iload_n 3, 1) := by decide +kernel
theorem dX4_weigh_4 : decode cX4_weigh 4 = .ok (.invokevirtual 185, 3) := by decide +kernel
theorem dX4_weigh_7 : decode cX4_weigh 7 = .ok (.aload_n 0, 1) := by decide +kernel
theorem dX4_weigh_8 : decode cX4_weigh 8 = .ok (.getfield 18, 3) := by decide +kernel
theorem dX4_weigh_11 : decode cX4_weigh 11 = .ok (.iconst 0, 1) := by decide +kernel
theorem dX4_weigh_12 : decode cX4_weigh 12 = .ok (.aload_n 1, 1) := by decide +kernel
theorem dX4_weigh_13 : decode cX4_weigh 13 = .ok (.getfield 52, 3) := by decide +kernel
theorem dX4_weigh_16 : decode cX4_weigh 16 = .ok (.bipush 8, 2) := by decide +kernel
theorem dX4_weigh_18 : decode cX4_weigh 18 = .ok (.imul, 1) := by decide +kernel
theorem dX4_weigh_19 : decode cX4_weigh 19 = .ok (.invokevirtual 103, 3) := by decide +kernel
theorem dX4_weigh_22 : decode cX4_weigh 22 = .ok (.iconst 0, 1) := by decide +kernel
theorem dX4_weigh_23 : decode cX4_weigh 23 = .ok (.istore 4, 2) := by decide +kernel
theorem dX4_weigh_25 : decode cX4_weigh 25 = .ok (.iload 4, 2) := by decide +kernel
theorem dX4_weigh_27 : decode cX4_weigh 27 = .ok (.aload_n 1, 1) := by decide +kernel
theorem dX4_weigh_28 : decode cX4_weigh 28 = .ok (.getfield 52, 3) := by decide +kernel
theorem dX4_weigh_31 : decode cX4_weigh 31 = .ok (.if_icmp .ge 54, 3) := by decide +kernel
theorem dX4_weigh_34 : decode cX4_weigh 34 = .ok (.aload_n 1, 1) := by decide +kernel
theorem dX4_weigh_35 : decode cX4_weigh 35 = .ok (.iload 4, 2) := by decide +kernel
theorem dX4_weigh_37 : decode cX4_weigh 37 = .ok (.invokevirtual 87, 3) := by decide +kernel
theorem dX4_weigh_40 : decode cX4_weigh 40 = .ok (.ifCond .eq 39, 3) := by decide +kernel
theorem dX4_weigh_43 : decode cX4_weigh 43 = .ok (.aload_n 0, 1) := by decide +kernel
theorem dX4_weigh_44 : decode cX4_weigh 44 = .ok (.getfield 18, 3) := by decide +kernel
theorem dX4_weigh_47 : decode cX4_weigh 47 = .ok (.aload_n 1, 1) := by decide +kernel
theorem dX4_weigh_48 : decode cX4_weigh 48 = .ok (.iload_n 3, 1) := by decide +kernel
theorem dX4_weigh_49 : decode cX4_weigh 49 = .ok (.iload 4, 2) := by decide +kernel
theorem dX4_weigh_51 : decode cX4_weigh 51 = .ok (.invokevirtual 48, 3) := by decide +kernel
theorem dX4_weigh_54 : decode cX4_weigh 54 = .ok (.bipush 8, 2) := by decide +kernel
theorem dX4_weigh_56 : decode cX4_weigh 56 = .ok (.imul, 1) := by decide +kernel
theorem dX4_weigh_57 : decode cX4_weigh 57 = .ok (.aload_n 0, 1) := by decide +kernel
theorem dX4_weigh_58 : decode cX4_weigh 58 = .ok (.getfield 25, 3) := by decide +kernel
theorem dX4_weigh_61 : decode cX4_weigh 61 = .ok (.iload 4, 2) := by decide +kernel
theorem dX4_weigh_63 : decode cX4_weigh 63 = .ok (.invokevirtual 56, 3) := by decide +kernel
theorem dX4_weigh_66 : decode cX4_weigh 66 = .ok (.iadd, 1) := by decide +kernel
theorem dX4_weigh_67 : decode cX4_weigh 67 = .ok (.iconst 1, 1) := by decide +kernel
theorem dX4_weigh_68 : decode cX4_weigh 68 = .ok (.aload_n 1, 1) := by decide +kernel
theorem dX4_weigh_69 : decode cX4_weigh 69 = .ok (.iload 4, 2) := by decide +kernel
theorem dX4_weigh_71 : decode cX4_weigh 71 = .ok (.iload_n 3, 1) := by decide +kernel
theorem dX4_weigh_72 : decode cX4_weigh 72 = .ok (.invokevirtual 60, 3) := by decide +kernel
theorem dX4_weigh_75 : decode cX4_weigh 75 = .ok (.ishl, 1) := by decide +kernel
theorem dX4_weigh_76 : decode cX4_weigh 76 = .ok (.invokevirtual 107, 3) := by decide +kernel
theorem dX4_weigh_79 : decode cX4_weigh 79 = .ok (.iinc 4 1, 3) := by decide +kernel
theorem dX4_weigh_82 : decode cX4_weigh 82 = .ok (.goto (-57), 3) := by decide +kernel
theorem dX4_weigh_85 : decode cX4_weigh 85 = .ok (.return_, 1) := by decide +kernel
theorem dX4_weighed_0 : decode cX4_weighed 0 = .ok (.aload_n 0, 1) := by decide +kernel
theorem dX4_weighed_1 : decode cX4_weighed 1 = .ok (.getfield 18, 3) := by decide +kernel
theorem dX4_weighed_4 : decode cX4_weighed 4 = .ok (.aload_n 1, 1) := by decide +kernel
theorem dX4_weighed_5 : decode cX4_weighed 5 = .ok (.iload_n 2, 1) := by decide +kernel
theorem dX4_weighed_6 : decode cX4_weighed 6 = .ok (.iload_n 3, 1) := by decide +kernel
theorem dX4_weighed_7 : decode cX4_weighed 7 = .ok (.invokevirtual 48, 3) := by decide +kernel
theorem dX4_weighed_10 : decode cX4_weighed 10 = .ok (.bipush 8, 2) := by decide +kernel
theorem dX4_weighed_12 : decode cX4_weighed 12 = .ok (.imul, 1) := by decide +kernel
theorem dX4_weighed_13 : decode cX4_weighed 13 = .ok (.aload_n 0, 1) := by decide +kernel
theorem dX4_weighed_14 : decode cX4_weighed 14 = .ok (.getfield 25, 3) := by decide +kernel
theorem dX4_weighed_17 : decode cX4_weighed 17 = .ok (.iload_n 3, 1) := by decide +kernel
theorem dX4_weighed_18 : decode cX4_weighed 18 = .ok (.invokevirtual 56, 3) := by decide +kernel
theorem dX4_weighed_21 : decode cX4_weighed 21 = .ok (.iadd, 1) := by decide +kernel
theorem dX4_weighed_22 : decode cX4_weighed 22 = .ok (.invokevirtual 56, 3) := by decide +kernel
theorem dX4_weighed_25 : decode cX4_weighed 25 = .ok (.ireturn, 1) := by decide +kernel
theorem dX4_whoGivesAway_0 : decode cX4_whoGivesAway 0 = .ok (.iconst 0, 1) := by decide +kernel
theorem dX4_whoGivesAway_1 : decode cX4_whoGivesAway 1 = .ok (.istore_n 3, 1) := by decide +kernel
theorem dX4_whoGivesAway_2 : decode cX4_whoGivesAway 2 = .ok (.iconst 0, 1) := by decide +kernel
theorem dX4_whoGivesAway_3 : decode cX4_whoGivesAway 3 = .ok (.istore 4, 2) := by decide +kernel
theorem dX4_whoGivesAway_5 : decode cX4_whoGivesAway 5 = .ok (.iload 4, 2) := by decide +kernel
theorem dX4_whoGivesAway_7 : decode cX4_whoGivesAway 7 = .ok (.aload_n 1, 1) := by decide +kernel
theorem dX4_whoGivesAway_8 : decode cX4_whoGivesAway 8 = .ok (.getfield 78, 3) := by decide +kernel
theorem dX4_whoGivesAway_11 : decode cX4_whoGivesAway 11 = .ok (.if_icmp .ge 58, 3) := by decide +kernel
theorem dX4_whoGivesAway_14 : decode cX4_whoGivesAway 14 = .ok (.iload 4, 2) := by decide +kernel
theorem dX4_whoGivesAway_16 : decode cX4_whoGivesAway 16 = .ok (.iload_n 2, 1) := by decide +kernel
theorem dX4_whoGivesAway_17 : decode cX4_whoGivesAway 17 = .ok (.if_icmp .eq 46, 3) := by decide +kernel
theorem dX4_whoGivesAway_20 : decode cX4_whoGivesAway 20 = .ok (.aload_n 1, 1) := by decide +kernel
theorem dX4_whoGivesAway_21 : decode cX4_whoGivesAway 21 = .ok (.iload 4, 2) := by decide +kernel
theorem dX4_whoGivesAway_23 : decode cX4_whoGivesAway 23 = .ok (.iload_n 2, 1) := by decide +kernel
theorem dX4_whoGivesAway_24 : decode cX4_whoGivesAway 24 = .ok (.invokevirtual 151, 3) := by decide +kernel
theorem dX4_whoGivesAway_27 : decode cX4_whoGivesAway 27 = .ok (.ifCond .eq 36, 3) := by decide +kernel
theorem dX4_whoGivesAway_30 : decode cX4_whoGivesAway 30 = .ok (.aload_n 0, 1) := by decide +kernel
theorem dX4_whoGivesAway_31 : decode cX4_whoGivesAway 31 = .ok (.aload_n 1, 1) := by decide +kernel
theorem dX4_whoGivesAway_32 : decode cX4_whoGivesAway 32 = .ok (.iload 4, 2) := by decide +kernel
theorem dX4_whoGivesAway_34 : decode cX4_whoGivesAway 34 = .ok (.iload_n 2, 1) := by decide +kernel
theorem dX4_whoGivesAway_35 : decode cX4_whoGivesAway 35 = .ok (.invokevirtual 175, 3) := by decide +kernel
theorem dX4_whoGivesAway_38 : decode cX4_whoGivesAway 38 = .ok (.aload_n 0, 1) := by decide +kernel
theorem dX4_whoGivesAway_39 : decode cX4_whoGivesAway 39 = .ok (.aload_n 0, 1) := by decide +kernel
theorem dX4_whoGivesAway_40 : decode cX4_whoGivesAway 40 = .ok (.aload_n 1, 1) := by decide +kernel
theorem dX4_whoGivesAway_41 : decode cX4_whoGivesAway 41 = .ok (.iload_n 2, 1) := by decide +kernel
theorem dX4_whoGivesAway_42 : decode cX4_whoGivesAway 42 = .ok (.aload_n 1, 1) := by decide +kernel
theorem dX4_whoGivesAway_43 : decode cX4_whoGivesAway 43 = .ok (.getfield 81, 3) := by decide +kernel
theorem dX4_whoGivesAway_46 : decode cX4_whoGivesAway 46 = .ok (.invokevirtual 179, 3) := by decide +kernel
theorem dX4_whoGivesAway_49 : decode cX4_whoGivesAway 49 = .ok (.invokevirtual 75, 3) := by decide +kernel
theorem dX4_whoGivesAway_52 : decode cX4_whoGivesAway 52 = .ok (.iconst (-1), 1) := by decide +kernel
theorem dX4_whoGivesAway_53 : decode cX4_whoGivesAway 53 = .ok (.if_icmp .eq 10, 3) := by decide +kernel
theorem dX4_whoGivesAway_56 : decode cX4_whoGivesAway 56 = .ok (.iload_n 3, 1) := by decide +kernel
theorem dX4_whoGivesAway_57 : decode cX4_whoGivesAway 57 = .ok (.iconst 1, 1) := by decide +kernel
theorem dX4_whoGivesAway_58 : decode cX4_whoGivesAway 58 = .ok (.iload 4, 2) := by decide +kernel
theorem dX4_whoGivesAway_60 : decode cX4_whoGivesAway 60 = .ok (.ishl, 1) := by decide +kernel
theorem dX4_whoGivesAway_61 : decode cX4_whoGivesAway 61 = .ok (.ior, 1) := by decide +kernel
theorem dX4_whoGivesAway_62 : decode cX4_whoGivesAway 62 = .ok (.istore_n 3, 1) := by decide +kernel
theorem dX4_whoGivesAway_63 : decode cX4_whoGivesAway 63 = .ok (.iinc 4 1, 3) := by decide +kernel
theorem dX4_whoGivesAway_66 : decode cX4_whoGivesAway 66 = .ok (.goto (-61), 3) := by decide +kernel
theorem dX4_whoGivesAway_69 : decode cX4_whoGivesAway 69 = .ok (.iload_n 3, 1) := by decide +kernel
theorem dX4_whoGivesAway_70 : decode cX4_whoGivesAway 70 = .ok (.ireturn, 1) := by decide +kernel
theorem dX4_makesSureSomewhere_0 : decode cX4_makesSureSomewhere 0 = .ok (.aload_n 0, 1) := by decide +kernel
theorem dX4_makesSureSomewhere_1 : decode cX4_makesSureSomewhere 1 = .ok (.aload_n 1, 1) := by decide +kernel
theorem dX4_makesSureSomewhere_2 : decode cX4_makesSureSomewhere 2 = .ok (.aload_n 1, 1) := by decide +kernel
theorem dX4_makesSureSomewhere_3 : decode cX4_makesSureSomewhere 3 = .ok (.getfield 84, 3) := by decide +kernel
theorem dX4_makesSureSomewhere_6 : decode cX4_makesSureSomewhere 6 = .ok (.iload_n 2, 1) := by decide +kernel
theorem dX4_makesSureSomewhere_7 : decode cX4_makesSureSomewhere 7 = .ok (.iload_n 2, 1) := by decide +kernel
theorem dX4_makesSureSomewhere_8 : decode cX4_makesSureSomewhere 8 = .ok (.invokevirtual 95, 3) := by decide +kernel
theorem dX4_makesSureSomewhere_11 : decode cX4_makesSureSomewhere 11 = .ok (.iconst 0, 1) := by decide +kernel
theorem dX4_makesSureSomewhere_12 : decode cX4_makesSureSomewhere 12 = .ok (.istore_n 3, 1) := by decide +kernel
theorem dX4_makesSureSomewhere_13 : decode cX4_makesSureSomewhere 13 = .ok (.iload_n 3, 1) := by decide +kernel
theorem dX4_makesSureSomewhere_14 : decode cX4_makesSureSomewhere 14 = .ok (.aload_n 1, 1) := by decide +kernel
theorem dX4_makesSureSomewhere_15 : decode cX4_makesSureSomewhere 15 = .ok (.getfield 52, 3) := by decide +kernel
theorem dX4_makesSureSomewhere_18 : decode cX4_makesSureSomewhere 18 = .ok (.if_icmp .ge 49, 3) := by decide +kernel
theorem dX4_makesSureSomewhere_21 : decode cX4_makesSureSomewhere 21 = .ok (.aload_n 1, 1) := by decide +kernel
theorem dX4_makesSureSomewhere_22 : decode cX4_makesSureSomewhere 22 = .ok (.iload_n 3, 1) := by decide +kernel
theorem dX4_makesSureSomewhere_23 : decode cX4_makesSureSomewhere 23 = .ok (.invokevirtual 87, 3) := by decide +kernel
theorem dX4_makesSureSomewhere_26 : decode cX4_makesSureSomewhere 26 = .ok (.ifCond .eq 35, 3) := by decide +kernel
theorem dX4_makesSureSomewhere_29 : decode cX4_makesSureSomewhere 29 = .ok (.aload_n 0, 1) := by decide +kernel
theorem dX4_makesSureSomewhere_30 : decode cX4_makesSureSomewhere 30 = .ok (.aload_n 0, 1) := by decide +kernel
theorem dX4_makesSureSomewhere_31 : decode cX4_makesSureSomewhere 31 = .ok (.aload_n 1, 1) := by decide +kernel
theorem dX4_makesSureSomewhere_32 : decode cX4_makesSureSomewhere 32 = .ok (.iload_n 2, 1) := by decide +kernel
theorem dX4_makesSureSomewhere_33 : decode cX4_makesSureSomewhere 33 = .ok (.iload_n 3, 1) := by decide +kernel
theorem dX4_makesSureSomewhere_34 : decode cX4_makesSureSomewhere 34 = .ok (.invokevirtual 99, 3) := by decide +kernel
theorem dX4_makesSureSomewhere_37 : decode cX4_makesSureSomewhere 37 = .ok (.invokevirtual 75, 3) := by decide +kernel
theorem dX4_makesSureSomewhere_40 : decode cX4_makesSureSomewhere 40 = .ok (.iconst (-1), 1) := by decide +kernel
theorem dX4_makesSureSomewhere_41 : decode cX4_makesSureSomewhere 41 = .ok (.if_icmp .ne 20, 3) := by decide +kernel
theorem dX4_makesSureSomewhere_44 : decode cX4_makesSureSomewhere 44 = .ok (.aload_n 0, 1) := by decide +kernel
theorem dX4_makesSureSomewhere_45 : decode cX4_makesSureSomewhere 45 = .ok (.aload_n 0, 1) := by decide +kernel
theorem dX4_makesSureSomewhere_46 : decode cX4_makesSureSomewhere 46 = .ok (.aload_n 1, 1) := by decide +kernel
theorem dX4_makesSureSomewhere_47 : decode cX4_makesSureSomewhere 47 = .ok (.iload_n 2, 1) := by decide +kernel
theorem dX4_makesSureSomewhere_48 : decode cX4_makesSureSomewhere 48 = .ok (.iload_n 3, 1) := by decide +kernel
theorem dX4_makesSureSomewhere_49 : decode cX4_makesSureSomewhere 49 = .ok (.invokevirtual 179, 3) := by decide +kernel
theorem dX4_makesSureSomewhere_52 : decode cX4_makesSureSomewhere 52 = .ok (.invokevirtual 75, 3) := by decide +kernel
theorem dX4_makesSureSomewhere_55 : decode cX4_makesSureSomewhere 55 = .ok (.iconst (-1), 1) := by decide +kernel
theorem dX4_makesSureSomewhere_56 : decode cX4_makesSureSomewhere 56 = .ok (.if_icmp .eq 5, 3) := by decide +kernel
theorem dX4_makesSureSomewhere_59 : decode cX4_makesSureSomewhere 59 = .ok (.iconst 1, 1) := by decide +kernel
theorem dX4_makesSureSomewhere_60 : decode cX4_makesSureSomewhere 60 = .ok (.ireturn, 1) := by decide +kernel
theorem dX4_makesSureSomewhere_61 : decode cX4_makesSureSomewhere 61 = .ok (.iinc 3 1, 3) := by decide +kernel
theorem dX4_makesSureSomewhere_64 : decode cX4_makesSureSomewhere 64 = .ok (.goto (-51), 3) := by decide +kernel
theorem dX4_makesSureSomewhere_67 : decode cX4_makesSureSomewhere 67 = .ok (.iconst 0, 1) := by decide +kernel
theorem dX4_makesSureSomewhere_68 : decode cX4_makesSureSomewhere 68 = .ok (.ireturn, 1) := by decide +kernel
theorem dX4_whoNeverGivesAway_0 : decode cX4_whoNeverGivesAway 0 = .ok (.iconst 0, 1) := by decide +kernel
theorem dX4_whoNeverGivesAway_1 : decode cX4_whoNeverGivesAway 1 = .ok (.istore_n 3, 1) := by decide +kernel
theorem dX4_whoNeverGivesAway_2 : decode cX4_whoNeverGivesAway 2 = .ok (.iconst 0, 1) := by decide +kernel
theorem dX4_whoNeverGivesAway_3 : decode cX4_whoNeverGivesAway 3 = .ok (.istore 4, 2) := by decide +kernel
theorem dX4_whoNeverGivesAway_5 : decode cX4_whoNeverGivesAway 5 = .ok (.iload 4, 2) := by decide +kernel
theorem dX4_whoNeverGivesAway_7 : decode cX4_whoNeverGivesAway 7 = .ok (.aload_n 1, 1) := by decide +kernel
theorem dX4_whoNeverGivesAway_8 : decode cX4_whoNeverGivesAway 8 = .ok (.getfield 78, 3) := by decide +kernel
theorem dX4_whoNeverGivesAway_11 : decode cX4_whoNeverGivesAway 11 = .ok (.if_icmp .ge 49, 3) := by decide +kernel
theorem dX4_whoNeverGivesAway_14 : decode cX4_whoNeverGivesAway 14 = .ok (.iload 4, 2) := by decide +kernel
theorem dX4_whoNeverGivesAway_16 : decode cX4_whoNeverGivesAway 16 = .ok (.iload_n 2, 1) := by decide +kernel
theorem dX4_whoNeverGivesAway_17 : decode cX4_whoNeverGivesAway 17 = .ok (.if_icmp .eq 37, 3) := by decide +kernel
theorem dX4_whoNeverGivesAway_20 : decode cX4_whoNeverGivesAway 20 = .ok (.aload_n 1, 1) := by decide +kernel
theorem dX4_whoNeverGivesAway_21 : decode cX4_whoNeverGivesAway 21 = .ok (.iload 4, 2) := by decide +kernel
theorem dX4_whoNeverGivesAway_23 : decode cX4_whoNeverGivesAway 23 = .ok (.iload_n 2, 1) := by decide +kernel
theorem dX4_whoNeverGivesAway_24 : decode cX4_whoNeverGivesAway 24 = .ok (.invokevirtual 151, 3) := by decide +kernel
theorem dX4_whoNeverGivesAway_27 : decode cX4_whoNeverGivesAway 27 = .ok (.ifCond .eq 27, 3) := by decide +kernel
theorem dX4_whoNeverGivesAway_30 : decode cX4_whoNeverGivesAway 30 = .ok (.aload_n 0, 1) := by decide +kernel
theorem dX4_whoNeverGivesAway_31 : decode cX4_whoNeverGivesAway 31 = .ok (.aload_n 1, 1) := by decide +kernel
theorem dX4_whoNeverGivesAway_32 : decode cX4_whoNeverGivesAway 32 = .ok (.iload 4, 2) := by decide +kernel
theorem dX4_whoNeverGivesAway_34 : decode cX4_whoNeverGivesAway 34 = .ok (.iload_n 2, 1) := by decide +kernel
theorem dX4_whoNeverGivesAway_35 : decode cX4_whoNeverGivesAway 35 = .ok (.invokevirtual 175, 3) := by decide +kernel
theorem dX4_whoNeverGivesAway_38 : decode cX4_whoNeverGivesAway 38 = .ok (.aload_n 0, 1) := by decide +kernel
theorem dX4_whoNeverGivesAway_39 : decode cX4_whoNeverGivesAway 39 = .ok (.aload_n 1, 1) := by decide +kernel
theorem dX4_whoNeverGivesAway_40 : decode cX4_whoNeverGivesAway 40 = .ok (.iload_n 2, 1) := by decide +kernel
theorem dX4_whoNeverGivesAway_41 : decode cX4_whoNeverGivesAway 41 = .ok (.invokevirtual 182, 3) := by decide +kernel
theorem dX4_whoNeverGivesAway_44 : decode cX4_whoNeverGivesAway 44 = .ok (.ifCond .ne 10, 3) := by decide +kernel
theorem dX4_whoNeverGivesAway_47 : decode cX4_whoNeverGivesAway 47 = .ok (.iload_n 3, 1) := by decide +kernel
theorem dX4_whoNeverGivesAway_48 : decode cX4_whoNeverGivesAway 48 = .ok (.iconst 1, 1) := by decide +kernel
theorem dX4_whoNeverGivesAway_49 : decode cX4_whoNeverGivesAway 49 = .ok (.iload 4, 2) := by decide +kernel
theorem dX4_whoNeverGivesAway_51 : decode cX4_whoNeverGivesAway 51 = .ok (.ishl, 1) := by decide +kernel
theorem dX4_whoNeverGivesAway_52 : decode cX4_whoNeverGivesAway 52 = .ok (.ior, 1) := by decide +kernel
theorem dX4_whoNeverGivesAway_53 : decode cX4_whoNeverGivesAway 53 = .ok (.istore_n 3, 1) := by decide +kernel
theorem dX4_whoNeverGivesAway_54 : decode cX4_whoNeverGivesAway 54 = .ok (.iinc 4 1, 3) := by decide +kernel
theorem dX4_whoNeverGivesAway_57 : decode cX4_whoNeverGivesAway 57 = .ok (.goto (-52), 3) := by decide +kernel
theorem dX4_whoNeverGivesAway_60 : decode cX4_whoNeverGivesAway 60 = .ok (.iload_n 3, 1) := by decide +kernel
theorem dX4_whoNeverGivesAway_61 : decode cX4_whoNeverGivesAway 61 = .ok (.ireturn, 1) := by decide +kernel
theorem dX4_tally_0 : decode cX4_tally 0 = .ok (.aload_n 0, 1) := by decide +kernel
theorem dX4_tally_1 : decode cX4_tally 1 = .ok (.getfield 18, 3) := by decide +kernel
theorem dX4_tally_4 : decode cX4_tally 4 = .ok (.iconst 0, 1) := by decide +kernel
theorem dX4_tally_5 : decode cX4_tally 5 = .ok (.aload_n 1, 1) := by decide +kernel
theorem dX4_tally_6 : decode cX4_tally 6 = .ok (.getfield 52, 3) := by decide +kernel
theorem dX4_tally_9 : decode cX4_tally 9 = .ok (.bipush 8, 2) := by decide +kernel
theorem dX4_tally_11 : decode cX4_tally 11 = .ok (.imul, 1) := by decide +kernel
theorem dX4_tally_12 : decode cX4_tally 12 = .ok (.invokevirtual 103, 3) := by decide +kernel
theorem dX4_tally_15 : decode cX4_tally 15 = .ok (.iconst 0, 1) := by decide +kernel
theorem dX4_tally_16 : decode cX4_tally 16 = .ok (.istore_n 3, 1) := by decide +kernel
theorem dX4_tally_17 : decode cX4_tally 17 = .ok (.iload_n 3, 1) := by decide +kernel
theorem dX4_tally_18 : decode cX4_tally 18 = .ok (.aload_n 1, 1) := by decide +kernel
theorem dX4_tally_19 : decode cX4_tally 19 = .ok (.getfield 52, 3) := by decide +kernel
theorem dX4_tally_22 : decode cX4_tally 22 = .ok (.if_icmp .ge 55, 3) := by decide +kernel
theorem dX4_tally_25 : decode cX4_tally 25 = .ok (.aload_n 1, 1) := by decide +kernel
theorem dX4_tally_26 : decode cX4_tally 26 = .ok (.iload_n 3, 1) := by decide +kernel
theorem dX4_tally_27 : decode cX4_tally 27 = .ok (.invokevirtual 87, 3) := by decide +kernel
theorem dX4_tally_30 : decode cX4_tally 30 = .ok (.ifCond .eq 41, 3) := by decide +kernel
theorem dX4_tally_33 : decode cX4_tally 33 = .ok (.aload_n 1, 1) := by decide +kernel
theorem dX4_tally_34 : decode cX4_tally 34 = .ok (.iload_n 2, 1) := by decide +kernel
theorem dX4_tally_35 : decode cX4_tally 35 = .ok (.iload_n 3, 1) := by decide +kernel
theorem dX4_tally_36 : decode cX4_tally 36 = .ok (.invokevirtual 48, 3) := by decide +kernel
theorem dX4_tally_39 : decode cX4_tally 39 = .ok (.bipush 8, 2) := by decide +kernel
theorem dX4_tally_41 : decode cX4_tally 41 = .ok (.imul, 1) := by decide +kernel
theorem dX4_tally_42 : decode cX4_tally 42 = .ok (.aload_n 1, 1) := by decide +kernel
theorem dX4_tally_43 : decode cX4_tally 43 = .ok (.iload_n 3, 1) := by decide +kernel
theorem dX4_tally_44 : decode cX4_tally 44 = .ok (.iload_n 2, 1) := by decide +kernel
theorem dX4_tally_45 : decode cX4_tally 45 = .ok (.invokevirtual 60, 3) := by decide +kernel
theorem dX4_tally_48 : decode cX4_tally 48 = .ok (.iadd, 1) := by decide +kernel
theorem dX4_tally_49 : decode cX4_tally 49 = .ok (.istore 4, 2) := by decide +kernel
theorem dX4_tally_51 : decode cX4_tally 51 = .ok (.aload_n 0, 1) := by decide +kernel
theorem dX4_tally_52 : decode cX4_tally 52 = .ok (.getfield 18, 3) := by decide +kernel
theorem dX4_tally_55 : decode cX4_tally 55 = .ok (.iload 4, 2) := by decide +kernel
theorem dX4_tally_57 : decode cX4_tally 57 = .ok (.aload_n 0, 1) := by decide +kernel
theorem dX4_tally_58 : decode cX4_tally 58 = .ok (.getfield 18, 3) := by decide +kernel
theorem dX4_tally_61 : decode cX4_tally 61 = .ok (.iload 4, 2) := by decide +kernel
theorem dX4_tally_63 : decode cX4_tally 63 = .ok (.invokevirtual 56, 3) := by decide +kernel
theorem dX4_tally_66 : decode cX4_tally 66 = .ok (.iconst 1, 1) := by decide +kernel
theorem dX4_tally_67 : decode cX4_tally 67 = .ok (.iadd, 1) := by decide +kernel
theorem dX4_tally_68 : decode cX4_tally 68 = .ok (.invokevirtual 110, 3) := by decide +kernel
theorem dX4_tally_71 : decode cX4_tally 71 = .ok (.iinc 3 1, 3) := by decide +kernel
theorem dX4_tally_74 : decode cX4_tally 74 = .ok (.goto (-57), 3) := by decide +kernel
theorem dX4_tally_77 : decode cX4_tally 77 = .ok (.return_, 1) := by decide +kernel
theorem dX4_bestIn_0 : decode cX4_bestIn 0 = .ok (.aload_n 1, 1) := by decide +kernel
theorem dX4_bestIn_1 : decode cX4_bestIn 1 = .ok (.iload_n 2, 1) := by decide +kernel
theorem dX4_bestIn_2 : decode cX4_bestIn 2 = .ok (.iload_n 3, 1) := by decide +kernel
theorem dX4_bestIn_3 : decode cX4_bestIn 3 = .ok (.invokevirtual 48, 3) := by decide +kernel
theorem dX4_bestIn_6 : decode cX4_bestIn 6 = .ok (.bipush 8, 2) := by decide +kernel
theorem dX4_bestIn_8 : decode cX4_bestIn 8 = .ok (.imul, 1) := by decide +kernel
theorem dX4_bestIn_9 : decode cX4_bestIn 9 = .ok (.istore 4, 2) := by decide +kernel
theorem dX4_bestIn_11 : decode cX4_bestIn 11 = .ok (.iconst 0, 1) := by decide +kernel
theorem dX4_bestIn_12 : decode cX4_bestIn 12 = .ok (.istore 5, 2) := by decide +kernel
theorem dX4_bestIn_14 : decode cX4_bestIn 14 = .ok (.iconst 1, 1) := by decide +kernel
theorem dX4_bestIn_15 : decode cX4_bestIn 15 = .ok (.istore 6, 2) := by decide +kernel
theorem dX4_bestIn_17 : decode cX4_bestIn 17 = .ok (.iload 6, 2) := by decide +kernel
theorem dX4_bestIn_19 : decode cX4_bestIn 19 = .ok (.aload_n 1, 1) := by decide +kernel
theorem dX4_bestIn_20 : decode cX4_bestIn 20 = .ok (.getfield 197, 3) := by decide +kernel
theorem dX4_bestIn_23 : decode cX4_bestIn 23 = .ok (.if_icmp .ge 40, 3) := by decide +kernel
theorem dX4_bestIn_26 : decode cX4_bestIn 26 = .ok (.aload_n 0, 1) := by decide +kernel
theorem dX4_bestIn_27 : decode cX4_bestIn 27 = .ok (.getfield 18, 3) := by decide +kernel
theorem dX4_bestIn_30 : decode cX4_bestIn 30 = .ok (.iload 4, 2) := by decide +kernel
theorem dX4_bestIn_32 : decode cX4_bestIn 32 = .ok (.iload 6, 2) := by decide +kernel
theorem dX4_bestIn_34 : decode cX4_bestIn 34 = .ok (.iadd, 1) := by decide +kernel
theorem dX4_bestIn_35 : decode cX4_bestIn 35 = .ok (.invokevirtual 56, 3) := by decide +kernel
theorem dX4_bestIn_38 : decode cX4_bestIn 38 = .ok (.aload_n 0, 1) := by decide +kernel
theorem dX4_bestIn_39 : decode cX4_bestIn 39 = .ok (.getfield 18, 3) := by decide +kernel
theorem dX4_bestIn_42 : decode cX4_bestIn 42 = .ok (.iload 4, 2) := by decide +kernel
theorem dX4_bestIn_44 : decode cX4_bestIn 44 = .ok (.iload 5, 2) := by decide +kernel
theorem dX4_bestIn_46 : decode cX4_bestIn 46 = .ok (.iadd, 1) := by decide +kernel
theorem dX4_bestIn_47 : decode cX4_bestIn 47 = .ok (.invokevirtual 56, 3) := by decide +kernel
theorem dX4_bestIn_50 : decode cX4_bestIn 50 = .ok (.if_icmp .le 7, 3) := by decide +kernel
theorem dX4_bestIn_53 : decode cX4_bestIn 53 = .ok (.iload 6, 2) := by decide +kernel
theorem dX4_bestIn_55 : decode cX4_bestIn 55 = .ok (.istore 5, 2) := by decide +kernel
theorem dX4_bestIn_57 : decode cX4_bestIn 57 = .ok (.iinc 6 1, 3) := by decide +kernel
theorem dX4_bestIn_60 : decode cX4_bestIn 60 = .ok (.goto (-43), 3) := by decide +kernel
theorem dX4_bestIn_63 : decode cX4_bestIn 63 = .ok (.iload 5, 2) := by decide +kernel
theorem dX4_bestIn_65 : decode cX4_bestIn 65 = .ok (.ireturn, 1) := by decide +kernel
theorem dX4_guessIn_0 : decode cX4_guessIn 0 = .ok (.aload_n 0, 1) := by decide +kernel
theorem dX4_guessIn_1 : decode cX4_guessIn 1 = .ok (.aload_n 1, 1) := by decide +kernel
theorem dX4_guessIn_2 : decode cX4_guessIn 2 = .ok (.iload_n 2, 1) := by decide +kernel
theorem dX4_guessIn_3 : decode cX4_guessIn 3 = .ok (.invokevirtual 188, 3) := by decide +kernel
theorem dX4_guessIn_6 : decode cX4_guessIn 6 = .ok (.aload_n 0, 1) := by decide +kernel
theorem dX4_guessIn_7 : decode cX4_guessIn 7 = .ok (.aload_n 1, 1) := by decide +kernel
theorem dX4_guessIn_8 : decode cX4_guessIn 8 = .ok (.iload_n 2, 1) := by decide +kernel
theorem dX4_guessIn_9 : decode cX4_guessIn 9 = .ok (.iload_n 3, 1) := by decide +kernel
theorem dX4_guessIn_10 : decode cX4_guessIn 10 = .ok (.invokevirtual 191, 3) := by decide +kernel
theorem dX4_guessIn_13 : decode cX4_guessIn 13 = .ok (.ireturn, 1) := by decide +kernel
theorem dX4_strikeWrong_0 : decode cX4_strikeWrong 0 = .ok (.iconst 0, 1) := by decide +kernel
theorem dX4_strikeWrong_1 : decode cX4_strikeWrong 1 = .ok (.istore_n 3, 1) := by decide +kernel
theorem dX4_strikeWrong_2 : decode cX4_strikeWrong 2 = .ok (.iload_n 3, 1) := by decide +kernel
theorem dX4_strikeWrong_3 : decode cX4_strikeWrong 3 = .ok (.aload_n 1, 1) := by decide +kernel
theorem dX4_strikeWrong_4 : decode cX4_strikeWrong 4 = .ok (.getfield 52, 3) := by decide +kernel
theorem dX4_strikeWrong_7 : decode cX4_strikeWrong 7 = .ok (.if_icmp .ge 46, 3) := by decide +kernel
theorem dX4_strikeWrong_10 : decode cX4_strikeWrong 10 = .ok (.aload_n 0, 1) := by decide +kernel
theorem dX4_strikeWrong_11 : decode cX4_strikeWrong 11 = .ok (.getfield 28, 3) := by decide +kernel
theorem dX4_strikeWrong_14 : decode cX4_strikeWrong 14 = .ok (.iload_n 3, 1) := by decide +kernel
theorem dX4_strikeWrong_15 : decode cX4_strikeWrong 15 = .ok (.invokevirtual 56, 3) := by decide +kernel
theorem dX4_strikeWrong_18 : decode cX4_strikeWrong 18 = .ok (.iconst 1, 1) := by decide +kernel
theorem dX4_strikeWrong_19 : decode cX4_strikeWrong 19 = .ok (.if_icmp .ne 28, 3) := by decide +kernel
theorem dX4_strikeWrong_22 : decode cX4_strikeWrong 22 = .ok (.aload_n 0, 1) := by decide +kernel
theorem dX4_strikeWrong_23 : decode cX4_strikeWrong 23 = .ok (.aload_n 1, 1) := by decide +kernel
theorem dX4_strikeWrong_24 : decode cX4_strikeWrong 24 = .ok (.iload_n 2, 1) := by decide +kernel
theorem dX4_strikeWrong_25 : decode cX4_strikeWrong 25 = .ok (.iload_n 3, 1) := by decide +kernel
theorem dX4_strikeWrong_26 : decode cX4_strikeWrong 26 = .ok (.invokevirtual 191, 3) := by decide +kernel
theorem dX4_strikeWrong_29 : decode cX4_strikeWrong 29 = .ok (.aload_n 1, 1) := by decide +kernel
theorem dX4_strikeWrong_30 : decode cX4_strikeWrong 30 = .ok (.iload_n 3, 1) := by decide +kernel
theorem dX4_strikeWrong_31 : decode cX4_strikeWrong 31 = .ok (.iload_n 2, 1) := by decide +kernel
theorem dX4_strikeWrong_32 : decode cX4_strikeWrong 32 = .ok (.invokevirtual 60, 3) := by decide +kernel
theorem dX4_strikeWrong_35 : decode cX4_strikeWrong 35 = .ok (.if_icmp .eq 12, 3) := by decide +kernel
theorem dX4_strikeWrong_38 : decode cX4_strikeWrong 38 = .ok (.aload_n 0, 1) := by decide +kernel
theorem dX4_strikeWrong_39 : decode cX4_strikeWrong 39 = .ok (.getfield 28, 3) := by decide +kernel
theorem dX4_strikeWrong_42 : decode cX4_strikeWrong 42 = .ok (.iload_n 3, 1) := by decide +kernel
theorem dX4_strikeWrong_43 : decode cX4_strikeWrong 43 = .ok (.iconst 0, 1) := by decide +kernel
theorem dX4_strikeWrong_44 : decode cX4_strikeWrong 44 = .ok (.invokevirtual 110, 3) := by decide +kernel
theorem dX4_strikeWrong_47 : decode cX4_strikeWrong 47 = .ok (.iinc 3 1, 3) := by decide +kernel
theorem dX4_strikeWrong_50 : decode cX4_strikeWrong 50 = .ok (.goto (-48), 3) := by decide +kernel
theorem dX4_strikeWrong_53 : decode cX4_strikeWrong 53 = .ok (.return_, 1) := by decide +kernel
theorem dX4_rightGuesses_0 : decode cX4_rightGuesses 0 = .ok (.aload_n 0, 1) := by decide +kernel
theorem dX4_rightGuesses_1 : decode cX4_rightGuesses 1 = .ok (.getfield 28, 3) := by decide +kernel
theorem dX4_rightGuesses_4 : decode cX4_rightGuesses 4 = .ok (.aload_n 1, 1) := by decide +kernel
theorem dX4_rightGuesses_5 : decode cX4_rightGuesses 5 = .ok (.getfield 84, 3) := by decide +kernel
theorem dX4_rightGuesses_8 : decode cX4_rightGuesses 8 = .ok (.aload_n 1, 1) := by decide +kernel
theorem dX4_rightGuesses_9 : decode cX4_rightGuesses 9 = .ok (.getfield 52, 3) := by decide +kernel
theorem dX4_rightGuesses_12 : decode cX4_rightGuesses 12 = .ok (.invokevirtual 120, 3) := by decide +kernel
theorem dX4_rightGuesses_15 : decode cX4_rightGuesses 15 = .ok (.iconst 0, 1) := by decide +kernel
theorem dX4_rightGuesses_16 : decode cX4_rightGuesses 16 = .ok (.istore_n 3, 1) := by decide +kernel
theorem dX4_rightGuesses_17 : decode cX4_rightGuesses 17 = .ok (.iload_n 3, 1) := by decide +kernel
theorem dX4_rightGuesses_18 : decode cX4_rightGuesses 18 = .ok (.aload_n 1, 1) := by decide +kernel
theorem dX4_rightGuesses_19 : decode cX4_rightGuesses 19 = .ok (.getfield 78, 3) := by decide +kernel
theorem dX4_rightGuesses_22 : decode cX4_rightGuesses 22 = .ok (.if_icmp .ge 31, 3) := by decide +kernel
theorem dX4_rightGuesses_25 : decode cX4_rightGuesses 25 = .ok (.iload_n 2, 1) := by decide +kernel
theorem dX4_rightGuesses_26 : decode cX4_rightGuesses 26 = .ok (.iconst (-1), 1) := by decide +kernel
theorem dX4_rightGuesses_27 : decode cX4_rightGuesses 27 = .ok (.if_icmp .eq 8, 3) := by decide +kernel
theorem dX4_rightGuesses_30 : decode cX4_rightGuesses 30 = .ok (.iload_n 2, 1) := by decide +kernel
theorem dX4_rightGuesses_31 : decode cX4_rightGuesses 31 = .ok (.iload_n 3, 1) := by decide +kernel
theorem dX4_rightGuesses_32 : decode cX4_rightGuesses 32 = .ok (.if_icmp .ne 15, 3) := by decide +kernel
theorem dX4_rightGuesses_35 : decode cX4_rightGuesses 35 = .ok (.aload_n 0, 1) := by decide +kernel
theorem dX4_rightGuesses_36 : decode cX4_rightGuesses 36 = .ok (.aload_n 1, 1) := by decide +kernel
theorem dX4_rightGuesses_37 : decode cX4_rightGuesses 37 = .ok (.iload_n 3, 1) := by decide +kernel
theorem dX4_rightGuesses_38 : decode cX4_rightGuesses 38 = .ok (.invokevirtual 188, 3) := by decide +kernel
theorem dX4_rightGuesses_41 : decode cX4_rightGuesses 41 = .ok (.aload_n 0, 1) := by decide +kernel
theorem dX4_rightGuesses_42 : decode cX4_rightGuesses 42 = .ok (.aload_n 1, 1) := by decide +kernel
theorem dX4_rightGuesses_43 : decode cX4_rightGuesses 43 = .ok (.iload_n 3, 1) := by decide +kernel
theorem dX4_rightGuesses_44 : decode cX4_rightGuesses 44 = .ok (.invokevirtual 194, 3) := by decide +kernel
theorem dX4_rightGuesses_47 : decode cX4_rightGuesses 47 = .ok (.iinc 3 1, 3) := by decide +kernel
theorem dX4_rightGuesses_50 : decode cX4_rightGuesses 50 = .ok (.goto (-33), 3) := by decide +kernel
theorem dX4_rightGuesses_53 : decode cX4_rightGuesses 53 = .ok (.iconst 0, 1) := by decide +kernel
theorem dX4_rightGuesses_54 : decode cX4_rightGuesses 54 = .ok (.istore_n 3, 1) := by decide +kernel
theorem dX4_rightGuesses_55 : decode cX4_rightGuesses 55 = .ok (.iconst 0, 1) := by decide +kernel
theorem dX4_rightGuesses_56 : decode cX4_rightGuesses 56 = .ok (.istore 4, 2) := by decide +kernel
theorem dX4_rightGuesses_58 : decode cX4_rightGuesses 58 = .ok (.iload 4, 2) := by decide +kernel
theorem dX4_rightGuesses_60 : decode cX4_rightGuesses 60 = .ok (.aload_n 1, 1) := by decide +kernel
theorem dX4_rightGuesses_61 : decode cX4_rightGuesses 61 = .ok (.getfield 52, 3) := by decide +kernel
theorem dX4_rightGuesses_64 : decode cX4_rightGuesses 64 = .ok (.if_icmp .ge 21, 3) := by decide +kernel
theorem dX4_rightGuesses_67 : decode cX4_rightGuesses 67 = .ok (.iload_n 3, 1) := by decide +kernel
theorem dX4_rightGuesses_68 : decode cX4_rightGuesses 68 = .ok (.aload_n 0, 1) := by decide +kernel
theorem dX4_rightGuesses_69 : decode cX4_rightGuesses 69 = .ok (.getfield 28, 3) := by decide +kernel
theorem dX4_rightGuesses_72 : decode cX4_rightGuesses 72 = .ok (.iload 4, 2) := by decide +kernel
theorem dX4_rightGuesses_74 : decode cX4_rightGuesses 74 = .ok (.invokevirtual 56, 3) := by decide +kernel
theorem dX4_rightGuesses_77 : decode cX4_rightGuesses 77 = .ok (.iadd, 1) := by decide +kernel
theorem dX4_rightGuesses_78 : decode cX4_rightGuesses 78 = .ok (.istore_n 3, 1) := by decide +kernel
theorem dX4_rightGuesses_79 : decode cX4_rightGuesses 79 = .ok (.iinc 4 1, 3) := by decide +kernel
theorem dX4_rightGuesses_82 : decode cX4_rightGuesses 82 = .ok (.goto (-24), 3) := by decide +kernel
theorem dX4_rightGuesses_85 : decode cX4_rightGuesses 85 = .ok (.iload_n 3, 1) := by decide +kernel
theorem dX4_rightGuesses_86 : decode cX4_rightGuesses 86 = .ok (.ireturn, 1) := by decide +kernel
theorem dX5_unlikeBits_0 : decode cX5_unlikeBits 0 = .ok (.iconst 0, 1) := by decide +kernel
theorem dX5_unlikeBits_1 : decode cX5_unlikeBits 1 = .ok (.istore_n 3, 1) := by decide +kernel
theorem dX5_unlikeBits_2 : decode cX5_unlikeBits 2 = .ok (.iconst 0, 1) := by decide +kernel
theorem dX5_unlikeBits_3 : decode cX5_unlikeBits 3 = .ok (.istore 4, 2) := by decide +kernel
theorem dX5_unlikeBits_5 : decode cX5_unlikeBits 5 = .ok (.iload 4, 2) := by decide +kernel
theorem dX5_unlikeBits_7 : decode cX5_unlikeBits 7 = .ok (.aload_n 1, 1) := by decide +kernel
theorem dX5_unlikeBits_8 : decode cX5_unlikeBits 8 = .ok (.getfield 42, 3) := by decide +kernel
theorem dX5_unlikeBits_11 : decode cX5_unlikeBits 11 = .ok (.if_icmp .ge 36, 3) := by decide +kernel
theorem dX5_unlikeBits_14 : decode cX5_unlikeBits 14 = .ok (.aload_n 1, 1) := by decide +kernel
theorem dX5_unlikeBits_15 : decode cX5_unlikeBits 15 = .ok (.iload_n 2, 1) := by decide +kernel
theorem dX5_unlikeBits_16 : decode cX5_unlikeBits 16 = .ok (.iload 4, 2) := by decide +kernel
theorem dX5_unlikeBits_18 : decode cX5_unlikeBits 18 = .ok (.invokevirtual 72, 3) := by decide +kernel
theorem dX5_unlikeBits_21 : decode cX5_unlikeBits 21 = .ok (.aload_n 1, 1) := by decide +kernel
theorem dX5_unlikeBits_22 : decode cX5_unlikeBits 22 = .ok (.aload_n 1, 1) := by decide +kernel
theorem dX5_unlikeBits_23 : decode cX5_unlikeBits 23 = .ok (.getfield 59, 3) := by decide +kernel
theorem dX5_unlikeBits_26 : decode cX5_unlikeBits 26 = .ok (.iload 4, 2) := by decide +kernel
theorem dX5_unlikeBits_28 : decode cX5_unlikeBits 28 = .ok (.invokevirtual 72, 3) := by decide +kernel
theorem dX5_unlikeBits_31 : decode cX5_unlikeBits 31 = .ok (.if_icmp .eq 10, 3) := by decide +kernel
theorem dX5_unlikeBits_34 : decode cX5_unlikeBits 34 = .ok (.iload_n 3, 1) := by decide +kernel
theorem dX5_unlikeBits_35 : decode cX5_unlikeBits 35 = .ok (.iconst 1, 1) := by decide +kernel
theorem dX5_unlikeBits_36 : decode cX5_unlikeBits 36 = .ok (.iload 4, 2) := by decide +kernel
theorem dX5_unlikeBits_38 : decode cX5_unlikeBits 38 = .ok (.ishl, 1) := by decide +kernel
theorem dX5_unlikeBits_39 : decode cX5_unlikeBits 39 = .ok (.ior, 1) := by decide +kernel
theorem dX5_unlikeBits_40 : decode cX5_unlikeBits 40 = .ok (.istore_n 3, 1) := by decide +kernel
theorem dX5_unlikeBits_41 : decode cX5_unlikeBits 41 = .ok (.iinc 4 1, 3) := by decide +kernel
theorem dX5_unlikeBits_44 : decode cX5_unlikeBits 44 = .ok (.goto (-39), 3) := by decide +kernel
theorem dX5_unlikeBits_47 : decode cX5_unlikeBits 47 = .ok (.iload_n 3, 1) := by decide +kernel
theorem dX5_unlikeBits_48 : decode cX5_unlikeBits 48 = .ok (.ireturn, 1) := by decide +kernel
theorem dX5_gatherDoubts_0 : decode cX5_gatherDoubts 0 = .ok (.aload_n 0, 1) := by decide +kernel
theorem dX5_gatherDoubts_1 : decode cX5_gatherDoubts 1 = .ok (.iconst 0, 1) := by decide +kernel
theorem dX5_gatherDoubts_2 : decode cX5_gatherDoubts 2 = .ok (.putfield 56, 3) := by decide +kernel
theorem dX5_gatherDoubts_5 : decode cX5_gatherDoubts 5 = .ok (.aload_n 1, 1) := by decide +kernel
theorem dX5_gatherDoubts_6 : decode cX5_gatherDoubts 6 = .ok (.iload_n 2, 1) := by decide +kernel
theorem dX5_gatherDoubts_7 : decode cX5_gatherDoubts 7 = .ok (.aload_n 1, 1) := by decide +kernel
theorem dX5_gatherDoubts_8 : decode cX5_gatherDoubts 8 = .ok (.getfield 59, 3) := by decide +kernel
theorem dX5_gatherDoubts_11 : decode cX5_gatherDoubts 11 = .ok (.invokevirtual 62, 3) := by decide +kernel
theorem dX5_gatherDoubts_14 : decode cX5_gatherDoubts 14 = .ok (.istore_n 3, 1) := by decide +kernel
theorem dX5_gatherDoubts_15 : decode cX5_gatherDoubts 15 = .ok (.iconst 0, 1) := by decide +kernel
theorem dX5_gatherDoubts_16 : decode cX5_gatherDoubts 16 = .ok (.istore 4, 2) := by decide +kernel
theorem dX5_gatherDoubts_18 : decode cX5_gatherDoubts 18 = .ok (.iload 4, 2) := by decide +kernel
theorem dX5_gatherDoubts_20 : decode cX5_gatherDoubts 20 = .ok (.aload_n 1, 1) := by decide +kernel
theorem dX5_gatherDoubts_21 : decode cX5_gatherDoubts 21 = .ok (.getfield 66, 3) := by decide +kernel
theorem dX5_gatherDoubts_24 : decode cX5_gatherDoubts 24 = .ok (.if_icmp .ge 76, 3) := by decide +kernel
theorem dX5_gatherDoubts_27 : decode cX5_gatherDoubts 27 = .ok (.aload_n 1, 1) := by decide +kernel
theorem dX5_gatherDoubts_28 : decode cX5_gatherDoubts 28 = .ok (.iload 4, 2) := by decide +kernel
theorem dX5_gatherDoubts_30 : decode cX5_gatherDoubts 30 = .ok (.invokevirtual 69, 3) := by decide +kernel
theorem dX5_gatherDoubts_33 : decode cX5_gatherDoubts 33 = .ok (.ifCond .eq 61, 3) := by decide +kernel
theorem dX5_gatherDoubts_36 : decode cX5_gatherDoubts 36 = .ok (.aload_n 1, 1) := by decide +kernel
theorem dX5_gatherDoubts_37 : decode cX5_gatherDoubts 37 = .ok (.iload_n 2, 1) := by decide +kernel
theorem dX5_gatherDoubts_38 : decode cX5_gatherDoubts 38 = .ok (.iload 4, 2) := by decide +kernel
theorem dX5_gatherDoubts_40 : decode cX5_gatherDoubts 40 = .ok (.invokevirtual 62, 3) := by decide +kernel
theorem dX5_gatherDoubts_43 : decode cX5_gatherDoubts 43 = .ok (.iload_n 3, 1) := by decide +kernel
theorem dX5_gatherDoubts_44 : decode cX5_gatherDoubts 44 = .ok (.if_icmp .ne 50, 3) := by decide +kernel
theorem dX5_gatherDoubts_47 : decode cX5_gatherDoubts 47 = .ok (.aload_n 1, 1) := by decide +kernel
theorem dX5_gatherDoubts_48 : decode cX5_gatherDoubts 48 = .ok (.iload 4, 2) := by decide +kernel
theorem dX5_gatherDoubts_50 : decode cX5_gatherDoubts 50 = .ok (.iload_n 2, 1) := by decide +kernel
theorem dX5_gatherDoubts_51 : decode cX5_gatherDoubts 51 = .ok (.invokevirtual 72, 3) := by decide +kernel
theorem dX5_gatherDoubts_54 : decode cX5_gatherDoubts 54 = .ok (.aload_n 1, 1) := by decide +kernel
theorem dX5_gatherDoubts_55 : decode cX5_gatherDoubts 55 = .ok (.aload_n 1, 1) := by decide +kernel
theorem dX5_gatherDoubts_56 : decode cX5_gatherDoubts 56 = .ok (.getfield 59, 3) := by decide +kernel
theorem dX5_gatherDoubts_59 : decode cX5_gatherDoubts 59 = .ok (.iload_n 2, 1) := by decide +kernel
theorem dX5_gatherDoubts_60 : decode cX5_gatherDoubts 60 = .ok (.invokevirtual 72, 3) := by decide +kernel
theorem dX5_gatherDoubts_63 : decode cX5_gatherDoubts 63 = .ok (.if_icmp .eq 31, 3) := by decide +kernel
theorem dX5_gatherDoubts_66 : decode cX5_gatherDoubts 66 = .ok (.aload_n 0, 1) := by decide +kernel
theorem dX5_gatherDoubts_67 : decode cX5_gatherDoubts 67 = .ok (.getfield 16, 3) := by decide +kernel
theorem dX5_gatherDoubts_70 : decode cX5_gatherDoubts 70 = .ok (.aload_n 0, 1) := by decide +kernel
theorem dX5_gatherDoubts_71 : decode cX5_gatherDoubts 71 = .ok (.getfield 56, 3) := by decide +kernel
theorem dX5_gatherDoubts_74 : decode cX5_gatherDoubts 74 = .ok (.aload_n 0, 1) := by decide +kernel
theorem dX5_gatherDoubts_75 : decode cX5_gatherDoubts 75 = .ok (.aload_n 1, 1) := by decide +kernel
theorem dX5_gatherDoubts_76 : decode cX5_gatherDoubts 76 = .ok (.iload 4, 2) := by decide +kernel
theorem dX5_gatherDoubts_78 : decode cX5_gatherDoubts 78 = .ok (.invokevirtual 75, 3) := by decide +kernel
theorem dX5_gatherDoubts_81 : decode cX5_gatherDoubts 81 = .ok (.invokevirtual 79, 3) := by decide +kernel
theorem dX5_gatherDoubts_84 : decode cX5_gatherDoubts 84 = .ok (.aload_n 0, 1) := by decide +kernel
theorem dX5_gatherDoubts_85 : decode cX5_gatherDoubts 85 = .ok (.dup, 1) := by decide +kernel
theorem dX5_gatherDoubts_86 : decode cX5_gatherDoubts 86 = .ok (.getfield 56, 3) := by decide +kernel
theorem dX5_gatherDoubts_89 : decode cX5_gatherDoubts 89 = .ok (.iconst 1, 1) := by decide +kernel
theorem dX5_gatherDoubts_90 : decode cX5_gatherDoubts 90 = .ok (.iadd, 1) := by decide +kernel
theorem dX5_gatherDoubts_91 : decode cX5_gatherDoubts 91 = .ok (.putfield 56, 3) := by decide +kernel
theorem dX5_gatherDoubts_94 : decode cX5_gatherDoubts 94 = .ok (.iinc 4 1, 3) := by decide +kernel
theorem dX5_gatherDoubts_97 : decode cX5_gatherDoubts 97 = .ok (.goto (-79), 3) := by decide +kernel
theorem dX5_gatherDoubts_100 : decode cX5_gatherDoubts 100 = .ok (.return_, 1) := by decide +kernel
theorem dX5_settles_0 : decode cX5_settles 0 = .ok (.iconst 0, 1) := by decide +kernel
theorem dX5_settles_1 : decode cX5_settles 1 = .ok (.istore_n 2, 1) := by decide +kernel
theorem dX5_settles_2 : decode cX5_settles 2 = .ok (.iload_n 2, 1) := by decide +kernel
theorem dX5_settles_3 : decode cX5_settles 3 = .ok (.aload_n 0, 1) := by decide +kernel
theorem dX5_settles_4 : decode cX5_settles 4 = .ok (.getfield 56, 3) := by decide +kernel
theorem dX5_settles_7 : decode cX5_settles 7 = .ok (.if_icmp .ge 24, 3) := by decide +kernel
theorem dX5_settles_10 : decode cX5_settles 10 = .ok (.aload_n 0, 1) := by decide +kernel
theorem dX5_settles_11 : decode cX5_settles 11 = .ok (.getfield 16, 3) := by decide +kernel
theorem dX5_settles_14 : decode cX5_settles 14 = .ok (.iload_n 2, 1) := by decide +kernel
theorem dX5_settles_15 : decode cX5_settles 15 = .ok (.invokevirtual 83, 3) := by decide +kernel
theorem dX5_settles_18 : decode cX5_settles 18 = .ok (.iload_n 1, 1) := by decide +kernel
theorem dX5_settles_19 : decode cX5_settles 19 = .ok (.iand, 1) := by decide +kernel
theorem dX5_settles_20 : decode cX5_settles 20 = .ok (.ifCond .ne 5, 3) := by decide +kernel
theorem dX5_settles_23 : decode cX5_settles 23 = .ok (.iconst 0, 1) := by decide +kernel
theorem dX5_settles_24 : decode cX5_settles 24 = .ok (.ireturn, 1) := by decide +kernel
theorem dX5_settles_25 : decode cX5_settles 25 = .ok (.iinc 2 1, 3) := by decide +kernel
theorem dX5_settles_28 : decode cX5_settles 28 = .ok (.goto (-26), 3) := by decide +kernel
theorem dX5_settles_31 : decode cX5_settles 31 = .ok (.iconst 1, 1) := by decide +kernel
theorem dX5_settles_32 : decode cX5_settles 32 = .ok (.ireturn, 1) := by decide +kernel
theorem dX5_fewestBacks_0 : decode cX5_fewestBacks 0 = .ok (.aload_n 0, 1) := by decide +kernel
theorem dX5_fewestBacks_1 : decode cX5_fewestBacks 1 = .ok (.aload_n 1, 1) := by decide +kernel
theorem dX5_fewestBacks_2 : decode cX5_fewestBacks 2 = .ok (.iload_n 2, 1) := by decide +kernel
theorem dX5_fewestBacks_3 : decode cX5_fewestBacks 3 = .ok (.invokevirtual 38, 3) := by decide +kernel
theorem dX5_fewestBacks_6 : decode cX5_fewestBacks 6 = .ok (.bipush (-2), 2) := by decide +kernel
theorem dX5_fewestBacks_8 : decode cX5_fewestBacks 8 = .ok (.istore_n 3, 1) := by decide +kernel
theorem dX5_fewestBacks_9 : decode cX5_fewestBacks 9 = .ok (.iconst 0, 1) := by decide +kernel
theorem dX5_fewestBacks_10 : decode cX5_fewestBacks 10 = .ok (.istore 4, 2) := by decide +kernel
theorem dX5_fewestBacks_12 : decode cX5_fewestBacks 12 = .ok (.iload 4, 2) := by decide +kernel
theorem dX5_fewestBacks_14 : decode cX5_fewestBacks 14 = .ok (.iconst 1, 1) := by decide +kernel
theorem dX5_fewestBacks_15 : decode cX5_fewestBacks 15 = .ok (.aload_n 1, 1) := by decide +kernel
theorem dX5_fewestBacks_16 : decode cX5_fewestBacks 16 = .ok (.getfield 42, 3) := by decide +kernel
theorem dX5_fewestBacks_19 : decode cX5_fewestBacks 19 = .ok (.ishl, 1) := by decide +kernel
theorem dX5_fewestBacks_20 : decode cX5_fewestBacks 20 = .ok (.if_icmp .ge 60, 3) := by decide +kernel
theorem dX5_fewestBacks_23 : decode cX5_fewestBacks 23 = .ok (.iload_n 3, 1) := by decide +kernel
theorem dX5_fewestBacks_24 : decode cX5_fewestBacks 24 = .ok (.bipush (-2), 2) := by decide +kernel
theorem dX5_fewestBacks_26 : decode cX5_fewestBacks 26 = .ok (.if_icmp .eq 15, 3) := by decide +kernel
theorem dX5_fewestBacks_29 : decode cX5_fewestBacks 29 = .ok (.iload 4, 2) := by decide +kernel
theorem dX5_fewestBacks_31 : decode cX5_fewestBacks 31 = .ok (.invokestatic 46, 3) := by decide +kernel
theorem dX5_fewestBacks_34 : decode cX5_fewestBacks 34 = .ok (.iload_n 3, 1) := by decide +kernel
theorem dX5_fewestBacks_35 : decode cX5_fewestBacks 35 = .ok (.invokestatic 46, 3) := by decide +kernel
theorem dX5_fewestBacks_38 : decode cX5_fewestBacks 38 = .ok (.if_icmp .ge 7, 3) := by decide +kernel
theorem dX5_fewestBacks_41 : decode cX5_fewestBacks 41 = .ok (.iconst 1, 1) := by decide +kernel
theorem dX5_fewestBacks_42 : decode cX5_fewestBacks 42 = .ok (.goto 4, 3) := by decide +kernel
theorem dX5_fewestBacks_45 : decode cX5_fewestBacks 45 = .ok (.iconst 0, 1) := by decide +kernel
theorem dX5_fewestBacks_46 : decode cX5_fewestBacks 46 = .ok (.istore 5, 2) := by decide +kernel
theorem dX5_fewestBacks_48 : decode cX5_fewestBacks 48 = .ok (.iload 5, 2) := by decide +kernel
theorem dX5_fewestBacks_50 : decode cX5_fewestBacks 50 = .ok (.ifCond .eq 24, 3) := by decide +kernel
theorem dX5_fewestBacks_53 : decode cX5_fewestBacks 53 = .ok (.iload 4, 2) := by decide +kernel
theorem dX5_fewestBacks_55 : decode cX5_fewestBacks 55 = .ok (.iload_n 2, 1) := by decide +kernel
theorem dX5_fewestBacks_56 : decode cX5_fewestBacks 56 = .ok (.ishr, 1) := by decide +kernel
theorem dX5_fewestBacks_57 : decode cX5_fewestBacks 57 = .ok (.iconst 1, 1) := by decide +kernel
theorem dX5_fewestBacks_58 : decode cX5_fewestBacks 58 = .ok (.iand, 1) := by decide +kernel
theorem dX5_fewestBacks_59 : decode cX5_fewestBacks 59 = .ok (.ifCond .ne 15, 3) := by decide +kernel
theorem dX5_fewestBacks_62 : decode cX5_fewestBacks 62 = .ok (.aload_n 0, 1) := by decide +kernel
theorem dX5_fewestBacks_63 : decode cX5_fewestBacks 63 = .ok (.iload 4, 2) := by decide +kernel
theorem dX5_fewestBacks_65 : decode cX5_fewestBacks 65 = .ok (.invokevirtual 52, 3) := by decide +kernel
theorem dX5_fewestBacks_68 : decode cX5_fewestBacks 68 = .ok (.ifCond .eq 6, 3) := by decide +kernel
theorem dX5_fewestBacks_71 : decode cX5_fewestBacks 71 = .ok (.iload 4, 2) := by decide +kernel
theorem dX5_fewestBacks_73 : decode cX5_fewestBacks 73 = .ok (.istore_n 3, 1) := by decide +kernel
theorem dX5_fewestBacks_74 : decode cX5_fewestBacks 74 = .ok (.iinc 4 1, 3) := by decide +kernel
theorem dX5_fewestBacks_77 : decode cX5_fewestBacks 77 = .ok (.goto (-65), 3) := by decide +kernel
theorem dX5_fewestBacks_80 : decode cX5_fewestBacks 80 = .ok (.iload_n 3, 1) := by decide +kernel
theorem dX5_fewestBacks_81 : decode cX5_fewestBacks 81 = .ok (.ireturn, 1) := by decide +kernel
theorem dX5_bestMove_0 : decode cX5_bestMove 0 = .ok (.iconst (-1), 1) := by decide +kernel
theorem dX5_bestMove_1 : decode cX5_bestMove 1 = .ok (.istore 4, 2) := by decide +kernel
theorem dX5_bestMove_3 : decode cX5_bestMove 3 = .ok (.iconst 0, 1) := by decide +kernel
theorem dX5_bestMove_4 : decode cX5_bestMove 4 = .ok (.istore 5, 2) := by decide +kernel
theorem dX5_bestMove_6 : decode cX5_bestMove 6 = .ok (.iconst 0, 1) := by decide +kernel
theorem dX5_bestMove_7 : decode cX5_bestMove 7 = .ok (.istore 6, 2) := by decide +kernel
theorem dX5_bestMove_9 : decode cX5_bestMove 9 = .ok (.iload 6, 2) := by decide +kernel
theorem dX5_bestMove_11 : decode cX5_bestMove 11 = .ok (.aload_n 1, 1) := by decide +kernel
theorem dX5_bestMove_12 : decode cX5_bestMove 12 = .ok (.getfield 42, 3) := by decide +kernel
theorem dX5_bestMove_15 : decode cX5_bestMove 15 = .ok (.if_icmp .ge 82, 3) := by decide +kernel
theorem dX5_bestMove_18 : decode cX5_bestMove 18 = .ok (.iload 6, 2) := by decide +kernel
theorem dX5_bestMove_20 : decode cX5_bestMove 20 = .ok (.iload_n 2, 1) := by decide +kernel
theorem dX5_bestMove_21 : decode cX5_bestMove 21 = .ok (.if_icmp .eq 70, 3) := by decide +kernel
theorem dX5_bestMove_24 : decode cX5_bestMove 24 = .ok (.iload_n 3, 1) := by decide +kernel
theorem dX5_bestMove_25 : decode cX5_bestMove 25 = .ok (.iload 6, 2) := by decide +kernel
theorem dX5_bestMove_27 : decode cX5_bestMove 27 = .ok (.ishr, 1) := by decide +kernel
theorem dX5_bestMove_28 : decode cX5_bestMove 28 = .ok (.iconst 1, 1) := by decide +kernel
theorem dX5_bestMove_29 : decode cX5_bestMove 29 = .ok (.iand, 1) := by decide +kernel
theorem dX5_bestMove_30 : decode cX5_bestMove 30 = .ok (.ifCond .ne 61, 3) := by decide +kernel
theorem dX5_bestMove_33 : decode cX5_bestMove 33 = .ok (.iload_n 3, 1) := by decide +kernel
theorem dX5_bestMove_34 : decode cX5_bestMove 34 = .ok (.iconst 1, 1) := by decide +kernel
theorem dX5_bestMove_35 : decode cX5_bestMove 35 = .ok (.iload 6, 2) := by decide +kernel
theorem dX5_bestMove_37 : decode cX5_bestMove 37 = .ok (.ishl, 1) := by decide +kernel
theorem dX5_bestMove_38 : decode cX5_bestMove 38 = .ok (.ior, 1) := by decide +kernel
theorem dX5_bestMove_39 : decode cX5_bestMove 39 = .ok (.istore 7, 2) := by decide +kernel
theorem dX5_bestMove_41 : decode cX5_bestMove 41 = .ok (.aload_n 0, 1) := by decide +kernel
theorem dX5_bestMove_42 : decode cX5_bestMove 42 = .ok (.getfield 22, 3) := by decide +kernel
theorem dX5_bestMove_45 : decode cX5_bestMove 45 = .ok (.iload 7, 2) := by decide +kernel
theorem dX5_bestMove_47 : decode cX5_bestMove 47 = .ok (.invokevirtual 83, 3) := by decide +kernel
theorem dX5_bestMove_50 : decode cX5_bestMove 50 = .ok (.iconst 1, 1) := by decide +kernel
theorem dX5_bestMove_51 : decode cX5_bestMove 51 = .ok (.if_icmp .ne 7, 3) := by decide +kernel
theorem dX5_bestMove_54 : decode cX5_bestMove 54 = .ok (.iconst (-1), 1) := by decide +kernel
theorem dX5_bestMove_55 : decode cX5_bestMove 55 = .ok (.goto 13, 3) := by decide +kernel
theorem dX5_bestMove_58 : decode cX5_bestMove 58 = .ok (.aload_n 0, 1) := by decide +kernel
theorem dX5_bestMove_59 : decode cX5_bestMove 59 = .ok (.getfield 25, 3) := by decide +kernel
theorem dX5_bestMove_62 : decode cX5_bestMove 62 = .ok (.iload 7, 2) := by decide +kernel
theorem dX5_bestMove_64 : decode cX5_bestMove 64 = .ok (.invokevirtual 83, 3) := by decide +kernel
theorem dX5_bestMove_67 : decode cX5_bestMove 67 = .ok (.ineg, 1) := by decide +kernel
theorem dX5_bestMove_68 : decode cX5_bestMove 68 = .ok (.istore 8, 2) := by decide +kernel
theorem dX5_bestMove_70 : decode cX5_bestMove 70 = .ok (.iload 4, 2) := by decide +kernel
theorem dX5_bestMove_72 : decode cX5_bestMove 72 = .ok (.iconst (-1), 1) := by decide +kernel
theorem dX5_bestMove_73 : decode cX5_bestMove 73 = .ok (.if_icmp .eq 10, 3) := by decide +kernel
theorem dX5_bestMove_76 : decode cX5_bestMove 76 = .ok (.iload 8, 2) := by decide +kernel
theorem dX5_bestMove_78 : decode cX5_bestMove 78 = .ok (.iload 5, 2) := by decide +kernel
theorem dX5_bestMove_80 : decode cX5_bestMove 80 = .ok (.if_icmp .le 11, 3) := by decide +kernel
theorem dX5_bestMove_83 : decode cX5_bestMove 83 = .ok (.iload 6, 2) := by decide +kernel
theorem dX5_bestMove_85 : decode cX5_bestMove 85 = .ok (.istore 4, 2) := by decide +kernel
theorem dX5_bestMove_87 : decode cX5_bestMove 87 = .ok (.iload 8, 2) := by decide +kernel
theorem dX5_bestMove_89 : decode cX5_bestMove 89 = .ok (.istore 5, 2) := by decide +kernel
theorem dX5_bestMove_91 : decode cX5_bestMove 91 = .ok (.iinc 6 1, 3) := by decide +kernel
theorem dX5_bestMove_94 : decode cX5_bestMove 94 = .ok (.goto (-85), 3) := by decide +kernel
theorem dX5_bestMove_97 : decode cX5_bestMove 97 = .ok (.aload_n 0, 1) := by decide +kernel
theorem dX5_bestMove_98 : decode cX5_bestMove 98 = .ok (.getfield 25, 3) := by decide +kernel
theorem dX5_bestMove_101 : decode cX5_bestMove 101 = .ok (.iload_n 3, 1) := by decide +kernel
theorem dX5_bestMove_102 : decode cX5_bestMove 102 = .ok (.iload 5, 2) := by decide +kernel
theorem dX5_bestMove_104 : decode cX5_bestMove 104 = .ok (.invokevirtual 79, 3) := by decide +kernel
theorem dX5_bestMove_107 : decode cX5_bestMove 107 = .ok (.iload 4, 2) := by decide +kernel
theorem dX5_bestMove_109 : decode cX5_bestMove 109 = .ok (.ireturn, 1) := by decide +kernel
theorem dX5_playGame_0 : decode cX5_playGame 0 = .ok (.aload_n 0, 1) := by decide +kernel
theorem dX5_playGame_1 : decode cX5_playGame 1 = .ok (.aload_n 1, 1) := by decide +kernel
theorem dX5_playGame_2 : decode cX5_playGame 2 = .ok (.iload_n 2, 1) := by decide +kernel
theorem dX5_playGame_3 : decode cX5_playGame 3 = .ok (.invokevirtual 38, 3) := by decide +kernel
theorem dX5_playGame_6 : decode cX5_playGame 6 = .ok (.aload_n 0, 1) := by decide +kernel
theorem dX5_playGame_7 : decode cX5_playGame 7 = .ok (.iconst 0, 1) := by decide +kernel
theorem dX5_playGame_8 : decode cX5_playGame 8 = .ok (.invokevirtual 52, 3) := by decide +kernel
theorem dX5_playGame_11 : decode cX5_playGame 11 = .ok (.ifCond .eq 6, 3) := by decide +kernel
theorem dX5_playGame_14 : decode cX5_playGame 14 = .ok (.bipush (-2), 2) := by decide +kernel
theorem dX5_playGame_16 : decode cX5_playGame 16 = .ok (.ireturn, 1) := by decide +kernel
theorem dX5_playGame_17 : decode cX5_playGame 17 = .ok (.iconst 1, 1) := by decide +kernel
theorem dX5_playGame_18 : decode cX5_playGame 18 = .ok (.aload_n 1, 1) := by decide +kernel
theorem dX5_playGame_19 : decode cX5_playGame 19 = .ok (.getfield 42, 3) := by decide +kernel
theorem dX5_playGame_22 : decode cX5_playGame 22 = .ok (.ishl, 1) := by decide +kernel
theorem dX5_playGame_23 : decode cX5_playGame 23 = .ok (.istore 4, 2) := by decide +kernel
theorem dX5_playGame_25 : decode cX5_playGame 25 = .ok (.iconst 0, 1) := by decide +kernel
theorem dX5_playGame_26 : decode cX5_playGame 26 = .ok (.istore 5, 2) := by decide +kernel
theorem dX5_playGame_28 : decode cX5_playGame 28 = .ok (.iload 5, 2) := by decide +kernel
theorem dX5_playGame_30 : decode cX5_playGame 30 = .ok (.iload 4, 2) := by decide +kernel
theorem dX5_playGame_32 : decode cX5_playGame 32 = .ok (.if_icmp .ge 32, 3) := by decide +kernel
theorem dX5_playGame_35 : decode cX5_playGame 35 = .ok (.aload_n 0, 1) := by decide +kernel
theorem dX5_playGame_36 : decode cX5_playGame 36 = .ok (.getfield 22, 3) := by decide +kernel
theorem dX5_playGame_39 : decode cX5_playGame 39 = .ok (.iload 5, 2) := by decide +kernel
theorem dX5_playGame_41 : decode cX5_playGame 41 = .ok (.aload_n 0, 1) := by decide +kernel
theorem dX5_playGame_42 : decode cX5_playGame 42 = .ok (.iload 5, 2) := by decide +kernel
theorem dX5_playGame_44 : decode cX5_playGame 44 = .ok (.invokevirtual 52, 3) := by decide +kernel
theorem dX5_playGame_47 : decode cX5_playGame 47 = .ok (.ifCond .eq 7, 3) := by decide +kernel
theorem dX5_playGame_50 : decode cX5_playGame 50 = .ok (.iconst 1, 1) := by decide +kernel
theorem dX5_playGame_51 : decode cX5_playGame 51 = .ok (.goto 4, 3) := by decide +kernel
theorem dX5_playGame_54 : decode cX5_playGame 54 = .ok (.iconst 0, 1) := by decide +kernel
theorem dX5_playGame_55 : decode cX5_playGame 55 = .ok (.invokevirtual 79, 3) := by decide +kernel
theorem dX5_playGame_58 : decode cX5_playGame 58 = .ok (.iinc 5 1, 3) := by decide +kernel
theorem dX5_playGame_61 : decode cX5_playGame 61 = .ok (.goto (-33), 3) := by decide +kernel
theorem dX5_playGame_64 : decode cX5_playGame 64 = .ok (.iconst (-1), 1) := by decide +kernel
theorem dX5_playGame_65 : decode cX5_playGame 65 = .ok (.istore 5, 2) := by decide +kernel
theorem dX5_playGame_67 : decode cX5_playGame 67 = .ok (.iload 4, 2) := by decide +kernel
theorem dX5_playGame_69 : decode cX5_playGame 69 = .ok (.iconst 1, 1) := by decide +kernel
theorem dX5_playGame_70 : decode cX5_playGame 70 = .ok (.isub, 1) := by decide +kernel
theorem dX5_playGame_71 : decode cX5_playGame 71 = .ok (.istore 6, 2) := by decide +kernel
theorem dX5_playGame_73 : decode cX5_playGame 73 = .ok (.iload 6, 2) := by decide +kernel
theorem dX5_playGame_75 : decode cX5_playGame 75 = .ok (.ifCond .lt 32, 3) := by decide +kernel
theorem dX5_playGame_78 : decode cX5_playGame 78 = .ok (.iload 6, 2) := by decide +kernel
theorem dX5_playGame_80 : decode cX5_playGame 80 = .ok (.iload_n 2, 1) := by decide +kernel
theorem dX5_playGame_81 : decode cX5_playGame 81 = .ok (.ishr, 1) := by decide +kernel
theorem dX5_playGame_82 : decode cX5_playGame 82 = .ok (.iconst 1, 1) := by decide +kernel
theorem dX5_playGame_83 : decode cX5_playGame 83 = .ok (.iand, 1) := by decide +kernel
theorem dX5_playGame_84 : decode cX5_playGame 84 = .ok (.ifCond .ne 14, 3) := by decide +kernel
theorem dX5_playGame_87 : decode cX5_playGame 87 = .ok (.aload_n 0, 1) := by decide +kernel
theorem dX5_playGame_88 : decode cX5_playGame 88 = .ok (.aload_n 1, 1) := by decide +kernel
theorem dX5_playGame_89 : decode cX5_playGame 89 = .ok (.iload_n 2, 1) := by decide +kernel
theorem dX5_playGame_90 : decode cX5_playGame 90 = .ok (.iload 6, 2) := by decide +kernel
theorem dX5_playGame_92 : decode cX5_playGame 92 = .ok (.invokevirtual 86, 3) := by decide +kernel
theorem dX5_playGame_95 : decode cX5_playGame 95 = .ok (.goto 4, 3) := by decide +kernel
theorem dX5_playGame_98 : decode cX5_playGame 98 = .ok (.iconst (-1), 1) := by decide +kernel
theorem dX5_playGame_99 : decode cX5_playGame 99 = .ok (.istore 5, 2) := by decide +kernel
theorem dX5_playGame_101 : decode cX5_playGame 101 = .ok (.iinc 6 (-1), 3) := by decide +kernel
theorem dX5_playGame_104 : decode cX5_playGame 104 = .ok (.goto (-31), 3) := by decide +kernel
theorem dX5_playGame_107 : decode cX5_playGame 107 = .ok (.iload_n 3, 1) := by decide +kernel
theorem dX5_playGame_108 : decode cX5_playGame 108 = .ok (.ifCond .eq 8, 3) := by decide +kernel
theorem dX5_playGame_111 : decode cX5_playGame 111 = .ok (.iload 5, 2) := by decide +kernel
theorem dX5_playGame_113 : decode cX5_playGame 113 = .ok (.goto 11, 3) := by decide +kernel
theorem dX5_playGame_116 : decode cX5_playGame 116 = .ok (.aload_n 0, 1) := by decide +kernel
theorem dX5_playGame_117 : decode cX5_playGame 117 = .ok (.getfield 25, 3) := by decide +kernel
theorem dX5_playGame_120 : decode cX5_playGame 120 = .ok (.iconst 0, 1) := by decide +kernel
theorem dX5_playGame_121 : decode cX5_playGame 121 = .ok (.invokevirtual 83, 3) := by decide +kernel
theorem dX5_playGame_124 : decode cX5_playGame 124 = .ok (.ireturn, 1) := by decide +kernel
theorem dX5_questionIn_0 : decode cX5_questionIn 0 = .ok (.iconst 0, 1) := by decide +kernel
theorem dX5_questionIn_1 : decode cX5_questionIn 1 = .ok (.istore 4, 2) := by decide +kernel
theorem dX5_questionIn_3 : decode cX5_questionIn 3 = .ok (.iload 4, 2) := by decide +kernel
theorem dX5_questionIn_5 : decode cX5_questionIn 5 = .ok (.aload_n 1, 1) := by decide +kernel
theorem dX5_questionIn_6 : decode cX5_questionIn 6 = .ok (.getfield 42, 3) := by decide +kernel
theorem dX5_questionIn_9 : decode cX5_questionIn 9 = .ok (.if_icmp .ge 100, 3) := by decide +kernel
theorem dX5_questionIn_12 : decode cX5_questionIn 12 = .ok (.iconst 0, 1) := by decide +kernel
theorem dX5_questionIn_13 : decode cX5_questionIn 13 = .ok (.istore 5, 2) := by decide +kernel
theorem dX5_questionIn_15 : decode cX5_questionIn 15 = .ok (.iload 5, 2) := by decide +kernel
theorem dX5_questionIn_17 : decode cX5_questionIn 17 = .ok (.aload_n 1, 1) := by decide +kernel
theorem dX5_questionIn_18 : decode cX5_questionIn 18 = .ok (.getfield 42, 3) := by decide +kernel
theorem dX5_questionIn_21 : decode cX5_questionIn 21 = .ok (.if_icmp .ge 82, 3) := by decide +kernel
theorem dX5_questionIn_24 : decode cX5_questionIn 24 = .ok (.iconst 0, 1) := by decide +kernel
theorem dX5_questionIn_25 : decode cX5_questionIn 25 = .ok (.istore 6, 2) := by decide +kernel
theorem dX5_questionIn_27 : decode cX5_questionIn 27 = .ok (.iload 6, 2) := by decide +kernel
theorem dX5_questionIn_29 : decode cX5_questionIn 29 = .ok (.aload_n 1, 1) := by decide +kernel
theorem dX5_questionIn_30 : decode cX5_questionIn 30 = .ok (.getfield 103, 3) := by decide +kernel
theorem dX5_questionIn_33 : decode cX5_questionIn 33 = .ok (.if_icmp .ge 64, 3) := by decide +kernel
theorem dX5_questionIn_36 : decode cX5_questionIn 36 = .ok (.iload 4, 2) := by decide +kernel
theorem dX5_questionIn_38 : decode cX5_questionIn 38 = .ok (.iload_n 3, 1) := by decide +kernel
theorem dX5_questionIn_39 : decode cX5_questionIn 39 = .ok (.if_icmp .eq 58, 3) := by decide +kernel
theorem dX5_questionIn_42 : decode cX5_questionIn 42 = .ok (.iload 5, 2) := by decide +kernel
theorem dX5_questionIn_44 : decode cX5_questionIn 44 = .ok (.iload_n 3, 1) := by decide +kernel
theorem dX5_questionIn_45 : decode cX5_questionIn 45 = .ok (.if_icmp .eq 52, 3) := by decide +kernel
theorem dX5_questionIn_48 : decode cX5_questionIn 48 = .ok (.aload_n 0, 1) := by decide +kernel
theorem dX5_questionIn_49 : decode cX5_questionIn 49 = .ok (.getfield 34, 3) := by decide +kernel
theorem dX5_questionIn_52 : decode cX5_questionIn 52 = .ok (.aload_n 1, 1) := by decide +kernel
theorem dX5_questionIn_53 : decode cX5_questionIn 53 = .ok (.aload_n 2, 1) := by decide +kernel
theorem dX5_questionIn_54 : decode cX5_questionIn 54 = .ok (.iload 4, 2) := by decide +kernel
theorem dX5_questionIn_56 : decode cX5_questionIn 56 = .ok (.iload 5, 2) := by decide +kernel
theorem dX5_questionIn_58 : decode cX5_questionIn 58 = .ok (.iload 6, 2) := by decide +kernel
theorem dX5_questionIn_60 : decode cX5_questionIn 60 = .ok (.invokevirtual 106, 3) := by decide +kernel
theorem dX5_questionIn_63 : decode cX5_questionIn 63 = .ok (.aload_n 0, 1) := by decide +kernel
theorem dX5_questionIn_64 : decode cX5_questionIn 64 = .ok (.getfield 34, 3) := by decide +kernel
theorem dX5_questionIn_67 : decode cX5_questionIn 67 = .ok (.aload_n 1, 1) := by decide +kernel
theorem dX5_questionIn_68 : decode cX5_questionIn 68 = .ok (.aload_n 2, 1) := by decide +kernel
theorem dX5_questionIn_69 : decode cX5_questionIn 69 = .ok (.iload_n 3, 1) := by decide +kernel
theorem dX5_questionIn_70 : decode cX5_questionIn 70 = .ok (.invokevirtual 110, 3) := by decide +kernel
theorem dX5_questionIn_73 : decode cX5_questionIn 73 = .ok (.ifCond .eq 18, 3) := by decide +kernel
theorem dX5_questionIn_76 : decode cX5_questionIn 76 = .ok (.bipush 100, 2) := by decide +kernel
theorem dX5_questionIn_78 : decode cX5_questionIn 78 = .ok (.iload 4, 2) := by decide +kernel
theorem dX5_questionIn_80 : decode cX5_questionIn 80 = .ok (.imul, 1) := by decide +kernel
theorem dX5_questionIn_81 : decode cX5_questionIn 81 = .ok (.bipush 10, 2) := by decide +kernel
theorem dX5_questionIn_83 : decode cX5_questionIn 83 = .ok (.iload 5, 2) := by decide +kernel
theorem dX5_questionIn_85 : decode cX5_questionIn 85 = .ok (.imul, 1) := by decide +kernel
theorem dX5_questionIn_86 : decode cX5_questionIn 86 = .ok (.iadd, 1) := by decide +kernel
theorem dX5_questionIn_87 : decode cX5_questionIn 87 = .ok (.iload 6, 2) := by decide +kernel
theorem dX5_questionIn_89 : decode cX5_questionIn 89 = .ok (.iadd, 1) := by decide +kernel
theorem dX5_questionIn_90 : decode cX5_questionIn 90 = .ok (.ireturn, 1) := by decide +kernel
theorem dX5_questionIn_91 : decode cX5_questionIn 91 = .ok (.iinc 6 1, 3) := by decide +kernel
theorem dX5_questionIn_94 : decode cX5_questionIn 94 = .ok (.goto (-67), 3) := by decide +kernel
theorem dX5_questionIn_97 : decode cX5_questionIn 97 = .ok (.iinc 5 1, 3) := by decide +kernel
theorem dX5_questionIn_100 : decode cX5_questionIn 100 = .ok (.goto (-85), 3) := by decide +kernel
theorem dX5_questionIn_103 : decode cX5_questionIn 103 = .ok (.iinc 4 1, 3) := by decide +kernel
theorem dX5_questionIn_106 : decode cX5_questionIn 106 = .ok (.goto (-103), 3) := by decide +kernel
theorem dX5_questionIn_109 : decode cX5_questionIn 109 = .ok (.iconst (-1), 1) := by decide +kernel
theorem dX5_questionIn_110 : decode cX5_questionIn 110 = .ok (.ireturn, 1) := by decide +kernel
theorem dX5_firstQuestion_0 : decode cX5_firstQuestion 0 = .ok (.aload_n 0, 1) := by decide +kernel
theorem dX5_firstQuestion_1 : decode cX5_firstQuestion 1 = .ok (.getfield 34, 3) := by decide +kernel
theorem dX5_firstQuestion_4 : decode cX5_firstQuestion 4 = .ok (.aload_n 1, 1) := by decide +kernel
theorem dX5_firstQuestion_5 : decode cX5_firstQuestion 5 = .ok (.aload_n 1, 1) := by decide +kernel
theorem dX5_firstQuestion_6 : decode cX5_firstQuestion 6 = .ok (.getfield 90, 3) := by decide +kernel
theorem dX5_firstQuestion_9 : decode cX5_firstQuestion 9 = .ok (.iload_n 2, 1) := by decide +kernel
theorem dX5_firstQuestion_10 : decode cX5_firstQuestion 10 = .ok (.aload_n 1, 1) := by decide +kernel
theorem dX5_firstQuestion_11 : decode cX5_firstQuestion 11 = .ok (.getfield 59, 3) := by decide +kernel
theorem dX5_firstQuestion_14 : decode cX5_firstQuestion 14 = .ok (.invokevirtual 93, 3) := by decide +kernel
theorem dX5_firstQuestion_17 : decode cX5_firstQuestion 17 = .ok (.ifCond .eq 5, 3) := by decide +kernel
theorem dX5_firstQuestion_20 : decode cX5_firstQuestion 20 = .ok (.iconst (-1), 1) := by decide +kernel
theorem dX5_firstQuestion_21 : decode cX5_firstQuestion 21 = .ok (.ireturn, 1) := by decide +kernel
theorem dX5_firstQuestion_22 : decode cX5_firstQuestion 22 = .ok (.aload_n 0, 1) := by decide +kernel
theorem dX5_firstQuestion_23 : decode cX5_firstQuestion 23 = .ok (.aload_n 1, 1) := by decide +kernel
theorem dX5_firstQuestion_24 : decode cX5_firstQuestion 24 = .ok (.aload_n 1, 1) := by decide +kernel
theorem dX5_firstQuestion_25 : decode cX5_firstQuestion 25 = .ok (.getfield 90, 3) := by decide +kernel
theorem dX5_firstQuestion_28 : decode cX5_firstQuestion 28 = .ok (.iload_n 2, 1) := by decide +kernel
theorem dX5_firstQuestion_29 : decode cX5_firstQuestion 29 = .ok (.invokevirtual 99, 3) := by decide +kernel
theorem dX5_firstQuestion_32 : decode cX5_firstQuestion 32 = .ok (.ireturn, 1) := by decide +kernel
theorem dX5_sureByTwo_0 : decode cX5_sureByTwo 0 = .ok (.iconst 0, 1) := by decide +kernel
theorem dX5_sureByTwo_1 : decode cX5_sureByTwo 1 = .ok (.istore_n 3, 1) := by decide +kernel
theorem dX5_sureByTwo_2 : decode cX5_sureByTwo 2 = .ok (.iload_n 3, 1) := by decide +kernel
theorem dX5_sureByTwo_3 : decode cX5_sureByTwo 3 = .ok (.aload_n 1, 1) := by decide +kernel
theorem dX5_sureByTwo_4 : decode cX5_sureByTwo 4 = .ok (.getfield 42, 3) := by decide +kernel
theorem dX5_sureByTwo_7 : decode cX5_sureByTwo 7 = .ok (.if_icmp .ge 119, 3) := by decide +kernel
theorem dX5_sureByTwo_10 : decode cX5_sureByTwo 10 = .ok (.iconst 0, 1) := by decide +kernel
theorem dX5_sureByTwo_11 : decode cX5_sureByTwo 11 = .ok (.istore 4, 2) := by decide +kernel
theorem dX5_sureByTwo_13 : decode cX5_sureByTwo 13 = .ok (.iload 4, 2) := by decide +kernel
theorem dX5_sureByTwo_15 : decode cX5_sureByTwo 15 = .ok (.aload_n 1, 1) := by decide +kernel
theorem dX5_sureByTwo_16 : decode cX5_sureByTwo 16 = .ok (.getfield 42, 3) := by decide +kernel
theorem dX5_sureByTwo_19 : decode cX5_sureByTwo 19 = .ok (.if_icmp .ge 101, 3) := by decide +kernel
theorem dX5_sureByTwo_22 : decode cX5_sureByTwo 22 = .ok (.iconst 0, 1) := by decide +kernel
theorem dX5_sureByTwo_23 : decode cX5_sureByTwo 23 = .ok (.istore 5, 2) := by decide +kernel
theorem dX5_sureByTwo_25 : decode cX5_sureByTwo 25 = .ok (.iload 5, 2) := by decide +kernel
theorem dX5_sureByTwo_27 : decode cX5_sureByTwo 27 = .ok (.aload_n 1, 1) := by decide +kernel
theorem dX5_sureByTwo_28 : decode cX5_sureByTwo 28 = .ok (.getfield 103, 3) := by decide +kernel
theorem dX5_sureByTwo_31 : decode cX5_sureByTwo 31 = .ok (.if_icmp .ge 83, 3) := by decide +kernel
theorem dX5_sureByTwo_34 : decode cX5_sureByTwo 34 = .ok (.iload_n 3, 1) := by decide +kernel
theorem dX5_sureByTwo_35 : decode cX5_sureByTwo 35 = .ok (.iload_n 2, 1) := by decide +kernel
theorem dX5_sureByTwo_36 : decode cX5_sureByTwo 36 = .ok (.if_icmp .eq 78, 3) := by decide +kernel
theorem dX5_sureByTwo_39 : decode cX5_sureByTwo 39 = .ok (.iload 4, 2) := by decide +kernel
theorem dX5_sureByTwo_41 : decode cX5_sureByTwo 41 = .ok (.iload_n 2, 1) := by decide +kernel
theorem dX5_sureByTwo_42 : decode cX5_sureByTwo 42 = .ok (.if_icmp .eq 72, 3) := by decide +kernel
theorem dX5_sureByTwo_45 : decode cX5_sureByTwo 45 = .ok (.aload_n 0, 1) := by decide +kernel
theorem dX5_sureByTwo_46 : decode cX5_sureByTwo 46 = .ok (.getfield 31, 3) := by decide +kernel
theorem dX5_sureByTwo_49 : decode cX5_sureByTwo 49 = .ok (.aload_n 1, 1) := by decide +kernel
theorem dX5_sureByTwo_50 : decode cX5_sureByTwo 50 = .ok (.getfield 90, 3) := by decide +kernel
theorem dX5_sureByTwo_53 : decode cX5_sureByTwo 53 = .ok (.aload_n 1, 1) := by decide +kernel
theorem dX5_sureByTwo_54 : decode cX5_sureByTwo 54 = .ok (.getfield 66, 3) := by decide +kernel
theorem dX5_sureByTwo_57 : decode cX5_sureByTwo 57 = .ok (.invokevirtual 118, 3) := by decide +kernel
theorem dX5_sureByTwo_60 : decode cX5_sureByTwo 60 = .ok (.aload_n 0, 1) := by decide +kernel
theorem dX5_sureByTwo_61 : decode cX5_sureByTwo 61 = .ok (.getfield 34, 3) := by decide +kernel
theorem dX5_sureByTwo_64 : decode cX5_sureByTwo 64 = .ok (.aload_n 1, 1) := by decide +kernel
theorem dX5_sureByTwo_65 : decode cX5_sureByTwo 65 = .ok (.aload_n 0, 1) := by decide +kernel
theorem dX5_sureByTwo_66 : decode cX5_sureByTwo 66 = .ok (.getfield 31, 3) := by decide +kernel
theorem dX5_sureByTwo_69 : decode cX5_sureByTwo 69 = .ok (.iload_n 3, 1) := by decide +kernel
theorem dX5_sureByTwo_70 : decode cX5_sureByTwo 70 = .ok (.iload 4, 2) := by decide +kernel
theorem dX5_sureByTwo_72 : decode cX5_sureByTwo 72 = .ok (.iload 5, 2) := by decide +kernel
theorem dX5_sureByTwo_74 : decode cX5_sureByTwo 74 = .ok (.invokevirtual 106, 3) := by decide +kernel
theorem dX5_sureByTwo_77 : decode cX5_sureByTwo 77 = .ok (.aload_n 0, 1) := by decide +kernel
theorem dX5_sureByTwo_78 : decode cX5_sureByTwo 78 = .ok (.getfield 34, 3) := by decide +kernel
theorem dX5_sureByTwo_81 : decode cX5_sureByTwo 81 = .ok (.aload_n 1, 1) := by decide +kernel
theorem dX5_sureByTwo_82 : decode cX5_sureByTwo 82 = .ok (.aload_n 0, 1) := by decide +kernel
theorem dX5_sureByTwo_83 : decode cX5_sureByTwo 83 = .ok (.getfield 31, 3) := by decide +kernel
theorem dX5_sureByTwo_86 : decode cX5_sureByTwo 86 = .ok (.invokevirtual 122, 3) := by decide +kernel
theorem dX5_sureByTwo_89 : decode cX5_sureByTwo 89 = .ok (.ifCond .eq 19, 3) := by decide +kernel
theorem dX5_sureByTwo_92 : decode cX5_sureByTwo 92 = .ok (.aload_n 0, 1) := by decide +kernel
theorem dX5_sureByTwo_93 : decode cX5_sureByTwo 93 = .ok (.aload_n 1, 1) := by decide +kernel
theorem dX5_sureByTwo_94 : decode cX5_sureByTwo 94 = .ok (.aload_n 0, 1) := by decide +kernel
theorem dX5_sureByTwo_95 : decode cX5_sureByTwo 95 = .ok (.getfield 31, 3) := by decide +kernel
theorem dX5_sureByTwo_98 : decode cX5_sureByTwo 98 = .ok (.iload_n 2, 1) := by decide +kernel
theorem dX5_sureByTwo_99 : decode cX5_sureByTwo 99 = .ok (.invokevirtual 99, 3) := by decide +kernel
theorem dX5_sureByTwo_102 : decode cX5_sureByTwo 102 = .ok (.iconst (-1), 1) := by decide +kernel
theorem dX5_sureByTwo_103 : decode cX5_sureByTwo 103 = .ok (.if_icmp .eq 5, 3) := by decide +kernel
theorem dX5_sureByTwo_106 : decode cX5_sureByTwo 106 = .ok (.iconst 1, 1) := by decide +kernel
theorem dX5_sureByTwo_107 : decode cX5_sureByTwo 107 = .ok (.ireturn, 1) := by decide +kernel
theorem dX5_sureByTwo_108 : decode cX5_sureByTwo 108 = .ok (.iinc 5 1, 3) := by decide +kernel
theorem dX5_sureByTwo_111 : decode cX5_sureByTwo 111 = .ok (.goto (-86), 3) := by decide +kernel
theorem dX5_sureByTwo_114 : decode cX5_sureByTwo 114 = .ok (.iinc 4 1, 3) := by decide +kernel
theorem dX5_sureByTwo_117 : decode cX5_sureByTwo 117 = .ok (.goto (-104), 3) := by decide +kernel
theorem dX5_sureByTwo_120 : decode cX5_sureByTwo 120 = .ok (.iinc 3 1, 3) := by decide +kernel
theorem dX5_sureByTwo_123 : decode cX5_sureByTwo 123 = .ok (.goto (-121), 3) := by decide +kernel
theorem dX5_sureByTwo_126 : decode cX5_sureByTwo 126 = .ok (.iconst 0, 1) := by decide +kernel
theorem dX5_sureByTwo_127 : decode cX5_sureByTwo 127 = .ok (.ireturn, 1) := by decide +kernel
theorem dX5_fewestQueries_0 : decode cX5_fewestQueries 0 = .ok (.aload_n 1, 1) := by decide +kernel
theorem dX5_fewestQueries_1 : decode cX5_fewestQueries 1 = .ok (.getfield 42, 3) := by decide +kernel
theorem dX5_fewestQueries_4 : decode cX5_fewestQueries 4 = .ok (.bipush 6, 2) := by decide +kernel
theorem dX5_fewestQueries_6 : decode cX5_fewestQueries 6 = .ok (.if_icmp .le 6, 3) := by decide +kernel
theorem dX5_fewestQueries_9 : decode cX5_fewestQueries 9 = .ok (.bipush (-3), 2) := by decide +kernel
theorem dX5_fewestQueries_11 : decode cX5_fewestQueries 11 = .ok (.ireturn, 1) := by decide +kernel
theorem dX5_fewestQueries_12 : decode cX5_fewestQueries 12 = .ok (.aload_n 0, 1) := by decide +kernel
theorem dX5_fewestQueries_13 : decode cX5_fewestQueries 13 = .ok (.getfield 34, 3) := by decide +kernel
theorem dX5_fewestQueries_16 : decode cX5_fewestQueries 16 = .ok (.aload_n 1, 1) := by decide +kernel
theorem dX5_fewestQueries_17 : decode cX5_fewestQueries 17 = .ok (.aload_n 1, 1) := by decide +kernel
theorem dX5_fewestQueries_18 : decode cX5_fewestQueries 18 = .ok (.getfield 90, 3) := by decide +kernel
theorem dX5_fewestQueries_21 : decode cX5_fewestQueries 21 = .ok (.iload_n 2, 1) := by decide +kernel
theorem dX5_fewestQueries_22 : decode cX5_fewestQueries 22 = .ok (.aload_n 1, 1) := by decide +kernel
theorem dX5_fewestQueries_23 : decode cX5_fewestQueries 23 = .ok (.getfield 59, 3) := by decide +kernel
theorem dX5_fewestQueries_26 : decode cX5_fewestQueries 26 = .ok (.invokevirtual 93, 3) := by decide +kernel
theorem dX5_fewestQueries_29 : decode cX5_fewestQueries 29 = .ok (.ifCond .eq 5, 3) := by decide +kernel
theorem dX5_fewestQueries_32 : decode cX5_fewestQueries 32 = .ok (.iconst 0, 1) := by decide +kernel
theorem dX5_fewestQueries_33 : decode cX5_fewestQueries 33 = .ok (.ireturn, 1) := by decide +kernel
theorem dX5_fewestQueries_34 : decode cX5_fewestQueries 34 = .ok (.aload_n 0, 1) := by decide +kernel
theorem dX5_fewestQueries_35 : decode cX5_fewestQueries 35 = .ok (.aload_n 1, 1) := by decide +kernel
theorem dX5_fewestQueries_36 : decode cX5_fewestQueries 36 = .ok (.aload_n 1, 1) := by decide +kernel
theorem dX5_fewestQueries_37 : decode cX5_fewestQueries 37 = .ok (.getfield 90, 3) := by decide +kernel
theorem dX5_fewestQueries_40 : decode cX5_fewestQueries 40 = .ok (.iload_n 2, 1) := by decide +kernel
theorem dX5_fewestQueries_41 : decode cX5_fewestQueries 41 = .ok (.invokevirtual 99, 3) := by decide +kernel
theorem dX5_fewestQueries_44 : decode cX5_fewestQueries 44 = .ok (.iconst (-1), 1) := by decide +kernel
theorem dX5_fewestQueries_45 : decode cX5_fewestQueries 45 = .ok (.if_icmp .eq 5, 3) := by decide +kernel
theorem dX5_fewestQueries_48 : decode cX5_fewestQueries 48 = .ok (.iconst 1, 1) := by decide +kernel
theorem dX5_fewestQueries_49 : decode cX5_fewestQueries 49 = .ok (.ireturn, 1) := by decide +kernel
theorem dX5_fewestQueries_50 : decode cX5_fewestQueries 50 = .ok (.aload_n 0, 1) := by decide +kernel
theorem dX5_fewestQueries_51 : decode cX5_fewestQueries 51 = .ok (.aload_n 1, 1) := by decide +kernel
theorem dX5_fewestQueries_52 : decode cX5_fewestQueries 52 = .ok (.iload_n 2, 1) := by decide +kernel
theorem dX5_fewestQueries_53 : decode cX5_fewestQueries 53 = .ok (.invokevirtual 114, 3) := by decide +kernel
theorem dX5_fewestQueries_56 : decode cX5_fewestQueries 56 = .ok (.ifCond .eq 7, 3) := by decide +kernel
theorem dX5_fewestQueries_59 : decode cX5_fewestQueries 59 = .ok (.iconst 2, 1) := by decide +kernel
theorem dX5_fewestQueries_60 : decode cX5_fewestQueries 60 = .ok (.goto 4, 3) := by decide +kernel
theorem dX5_fewestQueries_63 : decode cX5_fewestQueries 63 = .ok (.iconst (-1), 1) := by decide +kernel
theorem dX5_fewestQueries_64 : decode cX5_fewestQueries 64 = .ok (.ireturn, 1) := by decide +kernel
theorem dX5_stepsBetween_0 : decode cX5_stepsBetween 0 = .ok (.iconst 1, 1) := by decide +kernel
theorem dX5_stepsBetween_1 : decode cX5_stepsBetween 1 = .ok (.iload_n 2, 1) := by decide +kernel
theorem dX5_stepsBetween_2 : decode cX5_stepsBetween 2 = .ok (.ishl, 1) := by decide +kernel
theorem dX5_stepsBetween_3 : decode cX5_stepsBetween 3 = .ok (.istore 4, 2) := by decide +kernel
theorem dX5_stepsBetween_5 : decode cX5_stepsBetween 5 = .ok (.iconst 0, 1) := by decide +kernel
theorem dX5_stepsBetween_6 : decode cX5_stepsBetween 6 = .ok (.istore 5, 2) := by decide +kernel
theorem dX5_stepsBetween_8 : decode cX5_stepsBetween 8 = .ok (.iload 5, 2) := by decide +kernel
theorem dX5_stepsBetween_10 : decode cX5_stepsBetween 10 = .ok (.aload_n 1, 1) := by decide +kernel
theorem dX5_stepsBetween_11 : decode cX5_stepsBetween 11 = .ok (.getfield 42, 3) := by decide +kernel
theorem dX5_stepsBetween_14 : decode cX5_stepsBetween 14 = .ok (.if_icmp .ge 73, 3) := by decide +kernel
theorem dX5_stepsBetween_17 : decode cX5_stepsBetween 17 = .ok (.iload 4, 2) := by decide +kernel
theorem dX5_stepsBetween_19 : decode cX5_stepsBetween 19 = .ok (.iload_n 3, 1) := by decide +kernel
theorem dX5_stepsBetween_20 : decode cX5_stepsBetween 20 = .ok (.ishr, 1) := by decide +kernel
theorem dX5_stepsBetween_21 : decode cX5_stepsBetween 21 = .ok (.iconst 1, 1) := by decide +kernel
theorem dX5_stepsBetween_22 : decode cX5_stepsBetween 22 = .ok (.iand, 1) := by decide +kernel
theorem dX5_stepsBetween_23 : decode cX5_stepsBetween 23 = .ok (.iconst 1, 1) := by decide +kernel
theorem dX5_stepsBetween_24 : decode cX5_stepsBetween 24 = .ok (.if_icmp .ne 6, 3) := by decide +kernel
theorem dX5_stepsBetween_27 : decode cX5_stepsBetween 27 = .ok (.iload 5, 2) := by decide +kernel
theorem dX5_stepsBetween_29 : decode cX5_stepsBetween 29 = .ok (.ireturn, 1) := by decide +kernel
theorem dX5_stepsBetween_30 : decode cX5_stepsBetween 30 = .ok (.iload 4, 2) := by decide +kernel
theorem dX5_stepsBetween_32 : decode cX5_stepsBetween 32 = .ok (.istore 6, 2) := by decide +kernel
theorem dX5_stepsBetween_34 : decode cX5_stepsBetween 34 = .ok (.iconst 0, 1) := by decide +kernel
theorem dX5_stepsBetween_35 : decode cX5_stepsBetween 35 = .ok (.istore 7, 2) := by decide +kernel
theorem dX5_stepsBetween_37 : decode cX5_stepsBetween 37 = .ok (.iload 7, 2) := by decide +kernel
theorem dX5_stepsBetween_39 : decode cX5_stepsBetween 39 = .ok (.aload_n 1, 1) := by decide +kernel
theorem dX5_stepsBetween_40 : decode cX5_stepsBetween 40 = .ok (.getfield 42, 3) := by decide +kernel
theorem dX5_stepsBetween_43 : decode cX5_stepsBetween 43 = .ok (.if_icmp .ge 34, 3) := by decide +kernel
theorem dX5_stepsBetween_46 : decode cX5_stepsBetween 46 = .ok (.iload 4, 2) := by decide +kernel
theorem dX5_stepsBetween_48 : decode cX5_stepsBetween 48 = .ok (.iload 7, 2) := by decide +kernel
theorem dX5_stepsBetween_50 : decode cX5_stepsBetween 50 = .ok (.ishr, 1) := by decide +kernel
theorem dX5_stepsBetween_51 : decode cX5_stepsBetween 51 = .ok (.iconst 1, 1) := by decide +kernel
theorem dX5_stepsBetween_52 : decode cX5_stepsBetween 52 = .ok (.iand, 1) := by decide +kernel
theorem dX5_stepsBetween_53 : decode cX5_stepsBetween 53 = .ok (.iconst 1, 1) := by decide +kernel
theorem dX5_stepsBetween_54 : decode cX5_stepsBetween 54 = .ok (.if_icmp .ne 17, 3) := by decide +kernel
theorem dX5_stepsBetween_57 : decode cX5_stepsBetween 57 = .ok (.iload 6, 2) := by decide +kernel
theorem dX5_stepsBetween_59 : decode cX5_stepsBetween 59 = .ok (.aload_n 1, 1) := by decide +kernel
theorem dX5_stepsBetween_60 : decode cX5_stepsBetween 60 = .ok (.getfield 126, 3) := by decide +kernel
theorem dX5_stepsBetween_63 : decode cX5_stepsBetween 63 = .ok (.iload 7, 2) := by decide +kernel
theorem dX5_stepsBetween_65 : decode cX5_stepsBetween 65 = .ok (.invokevirtual 83, 3) := by decide +kernel
theorem dX5_stepsBetween_68 : decode cX5_stepsBetween 68 = .ok (.ior, 1) := by decide +kernel
theorem dX5_stepsBetween_69 : decode cX5_stepsBetween 69 = .ok (.istore 6, 2) := by decide +kernel
theorem dX5_stepsBetween_71 : decode cX5_stepsBetween 71 = .ok (.iinc 7 1, 3) := by decide +kernel
theorem dX5_stepsBetween_74 : decode cX5_stepsBetween 74 = .ok (.goto (-37), 3) := by decide +kernel
theorem dX5_stepsBetween_77 : decode cX5_stepsBetween 77 = .ok (.iload 6, 2) := by decide +kernel
theorem dX5_stepsBetween_79 : decode cX5_stepsBetween 79 = .ok (.istore 4, 2) := by decide +kernel
theorem dX5_stepsBetween_81 : decode cX5_stepsBetween 81 = .ok (.iinc 5 1, 3) := by decide +kernel
theorem dX5_stepsBetween_84 : decode cX5_stepsBetween 84 = .ok (.goto (-76), 3) := by decide +kernel
theorem dX5_stepsBetween_87 : decode cX5_stepsBetween 87 = .ok (.iconst (-1), 1) := by decide +kernel
theorem dX5_stepsBetween_88 : decode cX5_stepsBetween 88 = .ok (.ireturn, 1) := by decide +kernel
theorem dX5_personAt_0 : decode cX5_personAt 0 = .ok (.aload_n 1, 1) := by decide +kernel
theorem dX5_personAt_1 : decode cX5_personAt 1 = .ok (.iload_n 2, 1) := by decide +kernel
theorem dX5_personAt_2 : decode cX5_personAt 2 = .ok (.invokevirtual 136, 3) := by decide +kernel
theorem dX5_personAt_5 : decode cX5_personAt 5 = .ok (.bipush 97, 2) := by decide +kernel
theorem dX5_personAt_7 : decode cX5_personAt 7 = .ok (.isub, 1) := by decide +kernel
theorem dX5_personAt_8 : decode cX5_personAt 8 = .ok (.ireturn, 1) := by decide +kernel
theorem dX5_tellsPairs_0 : decode cX5_tellsPairs 0 = .ok (.iconst 0, 1) := by decide +kernel
theorem dX5_tellsPairs_1 : decode cX5_tellsPairs 1 = .ok (.istore 4, 2) := by decide +kernel
theorem dX5_tellsPairs_3 : decode cX5_tellsPairs 3 = .ok (.iload 4, 2) := by decide +kernel
theorem dX5_tellsPairs_5 : decode cX5_tellsPairs 5 = .ok (.iconst 2, 1) := by decide +kernel
theorem dX5_tellsPairs_6 : decode cX5_tellsPairs 6 = .ok (.iadd, 1) := by decide +kernel
theorem dX5_tellsPairs_7 : decode cX5_tellsPairs 7 = .ok (.iload_n 3, 1) := by decide +kernel
theorem dX5_tellsPairs_8 : decode cX5_tellsPairs 8 = .ok (.if_icmp .ge 68, 3) := by decide +kernel
theorem dX5_tellsPairs_11 : decode cX5_tellsPairs 11 = .ok (.aload_n 0, 1) := by decide +kernel
theorem dX5_tellsPairs_12 : decode cX5_tellsPairs 12 = .ok (.aload_n 2, 1) := by decide +kernel
theorem dX5_tellsPairs_13 : decode cX5_tellsPairs 13 = .ok (.iload 4, 2) := by decide +kernel
theorem dX5_tellsPairs_15 : decode cX5_tellsPairs 15 = .ok (.invokevirtual 129, 3) := by decide +kernel
theorem dX5_tellsPairs_18 : decode cX5_tellsPairs 18 = .ok (.istore 5, 2) := by decide +kernel
theorem dX5_tellsPairs_20 : decode cX5_tellsPairs 20 = .ok (.aload_n 0, 1) := by decide +kernel
theorem dX5_tellsPairs_21 : decode cX5_tellsPairs 21 = .ok (.aload_n 2, 1) := by decide +kernel
theorem dX5_tellsPairs_22 : decode cX5_tellsPairs 22 = .ok (.iload 4, 2) := by decide +kernel
theorem dX5_tellsPairs_24 : decode cX5_tellsPairs 24 = .ok (.iconst 1, 1) := by decide +kernel
theorem dX5_tellsPairs_25 : decode cX5_tellsPairs 25 = .ok (.iadd, 1) := by decide +kernel
theorem dX5_tellsPairs_26 : decode cX5_tellsPairs 26 = .ok (.invokevirtual 129, 3) := by decide +kernel
theorem dX5_tellsPairs_29 : decode cX5_tellsPairs 29 = .ok (.istore 6, 2) := by decide +kernel
theorem dX5_tellsPairs_31 : decode cX5_tellsPairs 31 = .ok (.aload_n 1, 1) := by decide +kernel
theorem dX5_tellsPairs_32 : decode cX5_tellsPairs 32 = .ok (.iload 5, 2) := by decide +kernel
theorem dX5_tellsPairs_34 : decode cX5_tellsPairs 34 = .ok (.invokevirtual 133, 3) := by decide +kernel
theorem dX5_tellsPairs_37 : decode cX5_tellsPairs 37 = .ok (.ifCond .eq 31, 3) := by decide +kernel
theorem dX5_tellsPairs_40 : decode cX5_tellsPairs 40 = .ok (.aload_n 1, 1) := by decide +kernel
theorem dX5_tellsPairs_41 : decode cX5_tellsPairs 41 = .ok (.iload 6, 2) := by decide +kernel
theorem dX5_tellsPairs_43 : decode cX5_tellsPairs 43 = .ok (.invokevirtual 133, 3) := by decide +kernel
theorem dX5_tellsPairs_46 : decode cX5_tellsPairs 46 = .ok (.ifCond .eq 22, 3) := by decide +kernel
theorem dX5_tellsPairs_49 : decode cX5_tellsPairs 49 = .ok (.iload 5, 2) := by decide +kernel
theorem dX5_tellsPairs_51 : decode cX5_tellsPairs 51 = .ok (.iload 6, 2) := by decide +kernel
theorem dX5_tellsPairs_53 : decode cX5_tellsPairs 53 = .ok (.if_icmp .eq 15, 3) := by decide +kernel
theorem dX5_tellsPairs_56 : decode cX5_tellsPairs 56 = .ok (.aload_n 2, 1) := by decide +kernel
theorem dX5_tellsPairs_57 : decode cX5_tellsPairs 57 = .ok (.iload 4, 2) := by decide +kernel
theorem dX5_tellsPairs_59 : decode cX5_tellsPairs 59 = .ok (.iconst 2, 1) := by decide +kernel
theorem dX5_tellsPairs_60 : decode cX5_tellsPairs 60 = .ok (.iadd, 1) := by decide +kernel
theorem dX5_tellsPairs_61 : decode cX5_tellsPairs 61 = .ok (.invokevirtual 136, 3) := by decide +kernel
theorem dX5_tellsPairs_64 : decode cX5_tellsPairs 64 = .ok (.iconst 1, 1) := by decide +kernel
theorem dX5_tellsPairs_65 : decode cX5_tellsPairs 65 = .ok (.if_icmp .le 5, 3) := by decide +kernel
theorem dX5_tellsPairs_68 : decode cX5_tellsPairs 68 = .ok (.iconst 0, 1) := by decide +kernel
theorem dX5_tellsPairs_69 : decode cX5_tellsPairs 69 = .ok (.ireturn, 1) := by decide +kernel
theorem dX5_tellsPairs_70 : decode cX5_tellsPairs 70 = .ok (.iinc 4 3, 3) := by decide +kernel
theorem dX5_tellsPairs_73 : decode cX5_tellsPairs 73 = .ok (.goto (-70), 3) := by decide +kernel
theorem dX5_tellsPairs_76 : decode cX5_tellsPairs 76 = .ok (.iload_n 3, 1) := by decide +kernel
theorem dX5_tellsPairs_77 : decode cX5_tellsPairs 77 = .ok (.iconst 3, 1) := by decide +kernel
theorem dX5_tellsPairs_78 : decode cX5_tellsPairs 78 = .ok (.irem, 1) := by decide +kernel
theorem dX5_tellsPairs_79 : decode cX5_tellsPairs 79 = .ok (.ifCond .ne 7, 3) := by decide +kernel
theorem dX5_tellsPairs_82 : decode cX5_tellsPairs 82 = .ok (.iconst 1, 1) := by decide +kernel
theorem dX5_tellsPairs_83 : decode cX5_tellsPairs 83 = .ok (.goto 4, 3) := by decide +kernel
theorem dX5_tellsPairs_86 : decode cX5_tellsPairs 86 = .ok (.iconst 0, 1) := by decide +kernel
theorem dX5_tellsPairs_87 : decode cX5_tellsPairs 87 = .ok (.ireturn, 1) := by decide +kernel
theorem dX5_gatherPairs_0 : decode cX5_gatherPairs 0 = .ok (.aload_n 0, 1) := by decide +kernel
theorem dX5_gatherPairs_1 : decode cX5_gatherPairs 1 = .ok (.getfield 28, 3) := by decide +kernel
theorem dX5_gatherPairs_4 : decode cX5_gatherPairs 4 = .ok (.iconst 0, 1) := by decide +kernel
theorem dX5_gatherPairs_5 : decode cX5_gatherPairs 5 = .ok (.aload_n 1, 1) := by decide +kernel
theorem dX5_gatherPairs_6 : decode cX5_gatherPairs 6 = .ok (.getfield 42, 3) := by decide +kernel
theorem dX5_gatherPairs_9 : decode cX5_gatherPairs 9 = .ok (.invokevirtual 152, 3) := by decide +kernel
theorem dX5_gatherPairs_12 : decode cX5_gatherPairs 12 = .ok (.iconst 0, 1) := by decide +kernel
theorem dX5_gatherPairs_13 : decode cX5_gatherPairs 13 = .ok (.istore 4, 2) := by decide +kernel
theorem dX5_gatherPairs_15 : decode cX5_gatherPairs 15 = .ok (.iload 4, 2) := by decide +kernel
theorem dX5_gatherPairs_17 : decode cX5_gatherPairs 17 = .ok (.iconst 2, 1) := by decide +kernel
theorem dX5_gatherPairs_18 : decode cX5_gatherPairs 18 = .ok (.iadd, 1) := by decide +kernel
theorem dX5_gatherPairs_19 : decode cX5_gatherPairs 19 = .ok (.iload_n 3, 1) := by decide +kernel
theorem dX5_gatherPairs_20 : decode cX5_gatherPairs 20 = .ok (.if_icmp .ge 70, 3) := by decide +kernel
theorem dX5_gatherPairs_23 : decode cX5_gatherPairs 23 = .ok (.aload_n 0, 1) := by decide +kernel
theorem dX5_gatherPairs_24 : decode cX5_gatherPairs 24 = .ok (.aload_n 2, 1) := by decide +kernel
theorem dX5_gatherPairs_25 : decode cX5_gatherPairs 25 = .ok (.iload 4, 2) := by decide +kernel
theorem dX5_gatherPairs_27 : decode cX5_gatherPairs 27 = .ok (.invokevirtual 129, 3) := by decide +kernel
theorem dX5_gatherPairs_30 : decode cX5_gatherPairs 30 = .ok (.istore 5, 2) := by decide +kernel
theorem dX5_gatherPairs_32 : decode cX5_gatherPairs 32 = .ok (.aload_n 0, 1) := by decide +kernel
theorem dX5_gatherPairs_33 : decode cX5_gatherPairs 33 = .ok (.aload_n 2, 1) := by decide +kernel
theorem dX5_gatherPairs_34 : decode cX5_gatherPairs 34 = .ok (.iload 4, 2) := by decide +kernel
theorem dX5_gatherPairs_36 : decode cX5_gatherPairs 36 = .ok (.iconst 1, 1) := by decide +kernel
theorem dX5_gatherPairs_37 : decode cX5_gatherPairs 37 = .ok (.iadd, 1) := by decide +kernel
theorem dX5_gatherPairs_38 : decode cX5_gatherPairs 38 = .ok (.invokevirtual 129, 3) := by decide +kernel
theorem dX5_gatherPairs_41 : decode cX5_gatherPairs 41 = .ok (.istore 6, 2) := by decide +kernel
theorem dX5_gatherPairs_43 : decode cX5_gatherPairs 43 = .ok (.aload_n 2, 1) := by decide +kernel
theorem dX5_gatherPairs_44 : decode cX5_gatherPairs 44 = .ok (.iload 4, 2) := by decide +kernel
theorem dX5_gatherPairs_46 : decode cX5_gatherPairs 46 = .ok (.iconst 2, 1) := by decide +kernel
theorem dX5_gatherPairs_47 : decode cX5_gatherPairs 47 = .ok (.iadd, 1) := by decide +kernel
theorem dX5_gatherPairs_48 : decode cX5_gatherPairs 48 = .ok (.invokevirtual 136, 3) := by decide +kernel
theorem dX5_gatherPairs_51 : decode cX5_gatherPairs 51 = .ok (.iconst 1, 1) := by decide +kernel
theorem dX5_gatherPairs_52 : decode cX5_gatherPairs 52 = .ok (.if_icmp .ne 19, 3) := by decide +kernel
theorem dX5_gatherPairs_55 : decode cX5_gatherPairs 55 = .ok (.aload_n 0, 1) := by decide +kernel
theorem dX5_gatherPairs_56 : decode cX5_gatherPairs 56 = .ok (.getfield 28, 3) := by decide +kernel
theorem dX5_gatherPairs_59 : decode cX5_gatherPairs 59 = .ok (.iload 6, 2) := by decide +kernel
theorem dX5_gatherPairs_61 : decode cX5_gatherPairs 61 = .ok (.iconst 1, 1) := by decide +kernel
theorem dX5_gatherPairs_62 : decode cX5_gatherPairs 62 = .ok (.iload 5, 2) := by decide +kernel
theorem dX5_gatherPairs_64 : decode cX5_gatherPairs 64 = .ok (.ishl, 1) := by decide +kernel
theorem dX5_gatherPairs_65 : decode cX5_gatherPairs 65 = .ok (.invokevirtual 155, 3) := by decide +kernel
theorem dX5_gatherPairs_68 : decode cX5_gatherPairs 68 = .ok (.goto 16, 3) := by decide +kernel
theorem dX5_gatherPairs_71 : decode cX5_gatherPairs 71 = .ok (.aload_n 0, 1) := by decide +kernel
theorem dX5_gatherPairs_72 : decode cX5_gatherPairs 72 = .ok (.getfield 28, 3) := by decide +kernel
theorem dX5_gatherPairs_75 : decode cX5_gatherPairs 75 = .ok (.iload 5, 2) := by decide +kernel
theorem dX5_gatherPairs_77 : decode cX5_gatherPairs 77 = .ok (.iconst 1, 1) := by decide +kernel
theorem dX5_gatherPairs_78 : decode cX5_gatherPairs 78 = .ok (.iload 6, 2) := by decide +kernel
theorem dX5_gatherPairs_80 : decode cX5_gatherPairs 80 = .ok (.ishl, 1) := by decide +kernel
theorem dX5_gatherPairs_81 : decode cX5_gatherPairs 81 = .ok (.invokevirtual 155, 3) := by decide +kernel
theorem dX5_gatherPairs_84 : decode cX5_gatherPairs 84 = .ok (.iinc 4 3, 3) := by decide +kernel
theorem dX5_gatherPairs_87 : decode cX5_gatherPairs 87 = .ok (.goto (-72), 3) := by decide +kernel
theorem dX5_gatherPairs_90 : decode cX5_gatherPairs 90 = .ok (.return_, 1) := by decide +kernel
theorem dX5_mayFollow_0 : decode cX5_mayFollow 0 = .ok (.iload_n 1, 1) := by decide +kernel
theorem dX5_mayFollow_1 : decode cX5_mayFollow 1 = .ok (.iload_n 2, 1) := by decide +kernel
theorem dX5_mayFollow_2 : decode cX5_mayFollow 2 = .ok (.ishr, 1) := by decide +kernel
theorem dX5_mayFollow_3 : decode cX5_mayFollow 3 = .ok (.iconst 1, 1) := by decide +kernel
theorem dX5_mayFollow_4 : decode cX5_mayFollow 4 = .ok (.iand, 1) := by decide +kernel
theorem dX5_mayFollow_5 : decode cX5_mayFollow 5 = .ok (.ifCond .ne 22, 3) := by decide +kernel
theorem dX5_mayFollow_8 : decode cX5_mayFollow 8 = .ok (.aload_n 0, 1) := by decide +kernel
theorem dX5_mayFollow_9 : decode cX5_mayFollow 9 = .ok (.getfield 28, 3) := by decide +kernel
theorem dX5_mayFollow_12 : decode cX5_mayFollow 12 = .ok (.iload_n 2, 1) := by decide +kernel
theorem dX5_mayFollow_13 : decode cX5_mayFollow 13 = .ok (.invokevirtual 83, 3) := by decide +kernel
theorem dX5_mayFollow_16 : decode cX5_mayFollow 16 = .ok (.iload_n 1, 1) := by decide +kernel
theorem dX5_mayFollow_17 : decode cX5_mayFollow 17 = .ok (.iconst (-1), 1) := by decide +kernel
theorem dX5_mayFollow_18 : decode cX5_mayFollow 18 = .ok (.ixor, 1) := by decide +kernel
theorem dX5_mayFollow_19 : decode cX5_mayFollow 19 = .ok (.iand, 1) := by decide +kernel
theorem dX5_mayFollow_20 : decode cX5_mayFollow 20 = .ok (.ifCond .ne 7, 3) := by decide +kernel
theorem dX5_mayFollow_23 : decode cX5_mayFollow 23 = .ok (.iconst 1, 1) := by decide +kernel
theorem dX5_mayFollow_24 : decode cX5_mayFollow 24 = .ok (.goto 4, 3) := by decide +kernel
theorem dX5_mayFollow_27 : decode cX5_mayFollow 27 = .ok (.iconst 0, 1) := by decide +kernel
theorem dX5_mayFollow_28 : decode cX5_mayFollow 28 = .ok (.ireturn, 1) := by decide +kernel
theorem dX5_placeInRow_0 : decode cX5_placeInRow 0 = .ok (.iconst 0, 1) := by decide +kernel
theorem dX5_placeInRow_1 : decode cX5_placeInRow 1 = .ok (.istore_n 3, 1) := by decide +kernel
theorem dX5_placeInRow_2 : decode cX5_placeInRow 2 = .ok (.iconst 0, 1) := by decide +kernel
theorem dX5_placeInRow_3 : decode cX5_placeInRow 3 = .ok (.istore 4, 2) := by decide +kernel
theorem dX5_placeInRow_5 : decode cX5_placeInRow 5 = .ok (.iload 4, 2) := by decide +kernel
theorem dX5_placeInRow_7 : decode cX5_placeInRow 7 = .ok (.aload_n 1, 1) := by decide +kernel
theorem dX5_placeInRow_8 : decode cX5_placeInRow 8 = .ok (.getfield 42, 3) := by decide +kernel
theorem dX5_placeInRow_11 : decode cX5_placeInRow 11 = .ok (.if_icmp .ge 83, 3) := by decide +kernel
theorem dX5_placeInRow_14 : decode cX5_placeInRow 14 = .ok (.iconst (-1), 1) := by decide +kernel
theorem dX5_placeInRow_15 : decode cX5_placeInRow 15 = .ok (.istore 5, 2) := by decide +kernel
theorem dX5_placeInRow_17 : decode cX5_placeInRow 17 = .ok (.aload_n 1, 1) := by decide +kernel
theorem dX5_placeInRow_18 : decode cX5_placeInRow 18 = .ok (.getfield 42, 3) := by decide +kernel
theorem dX5_placeInRow_21 : decode cX5_placeInRow 21 = .ok (.iconst 1, 1) := by decide +kernel
theorem dX5_placeInRow_22 : decode cX5_placeInRow 22 = .ok (.isub, 1) := by decide +kernel
theorem dX5_placeInRow_23 : decode cX5_placeInRow 23 = .ok (.istore 6, 2) := by decide +kernel
theorem dX5_placeInRow_25 : decode cX5_placeInRow 25 = .ok (.iload 6, 2) := by decide +kernel
theorem dX5_placeInRow_27 : decode cX5_placeInRow 27 = .ok (.ifCond .lt 39, 3) := by decide +kernel
theorem dX5_placeInRow_30 : decode cX5_placeInRow 30 = .ok (.aload_n 0, 1) := by decide +kernel
theorem dX5_placeInRow_31 : decode cX5_placeInRow 31 = .ok (.iload_n 3, 1) := by decide +kernel
theorem dX5_placeInRow_32 : decode cX5_placeInRow 32 = .ok (.iload 6, 2) := by decide +kernel
theorem dX5_placeInRow_34 : decode cX5_placeInRow 34 = .ok (.invokevirtual 145, 3) := by decide +kernel
theorem dX5_placeInRow_37 : decode cX5_placeInRow 37 = .ok (.ifCond .eq 23, 3) := by decide +kernel
theorem dX5_placeInRow_40 : decode cX5_placeInRow 40 = .ok (.aload_n 0, 1) := by decide +kernel
theorem dX5_placeInRow_41 : decode cX5_placeInRow 41 = .ok (.getfield 22, 3) := by decide +kernel
theorem dX5_placeInRow_44 : decode cX5_placeInRow 44 = .ok (.iload_n 3, 1) := by decide +kernel
theorem dX5_placeInRow_45 : decode cX5_placeInRow 45 = .ok (.iconst 1, 1) := by decide +kernel
theorem dX5_placeInRow_46 : decode cX5_placeInRow 46 = .ok (.iload 6, 2) := by decide +kernel
theorem dX5_placeInRow_48 : decode cX5_placeInRow 48 = .ok (.ishl, 1) := by decide +kernel
theorem dX5_placeInRow_49 : decode cX5_placeInRow 49 = .ok (.ior, 1) := by decide +kernel
theorem dX5_placeInRow_50 : decode cX5_placeInRow 50 = .ok (.invokevirtual 83, 3) := by decide +kernel
theorem dX5_placeInRow_53 : decode cX5_placeInRow 53 = .ok (.ifCond .le 7, 3) := by decide +kernel
theorem dX5_placeInRow_56 : decode cX5_placeInRow 56 = .ok (.iload 6, 2) := by decide +kernel
theorem dX5_placeInRow_58 : decode cX5_placeInRow 58 = .ok (.istore 5, 2) := by decide +kernel
theorem dX5_placeInRow_60 : decode cX5_placeInRow 60 = .ok (.iinc 6 (-1), 3) := by decide +kernel
theorem dX5_placeInRow_63 : decode cX5_placeInRow 63 = .ok (.goto (-38), 3) := by decide +kernel
theorem dX5_placeInRow_66 : decode cX5_placeInRow 66 = .ok (.iload 5, 2) := by decide +kernel
theorem dX5_placeInRow_68 : decode cX5_placeInRow 68 = .ok (.iconst (-1), 1) := by decide +kernel
theorem dX5_placeInRow_69 : decode cX5_placeInRow 69 = .ok (.if_icmp .eq 9, 3) := by decide +kernel
theorem dX5_placeInRow_72 : decode cX5_placeInRow 72 = .ok (.iload 4, 2) := by decide +kernel
theorem dX5_placeInRow_74 : decode cX5_placeInRow 74 = .ok (.iload_n 2, 1) := by decide +kernel
theorem dX5_placeInRow_75 : decode cX5_placeInRow 75 = .ok (.if_icmp .ne 6, 3) := by decide +kernel
theorem dX5_placeInRow_78 : decode cX5_placeInRow 78 = .ok (.iload 5, 2) := by decide +kernel
theorem dX5_placeInRow_80 : decode cX5_placeInRow 80 = .ok (.ireturn, 1) := by decide +kernel
theorem dX5_placeInRow_81 : decode cX5_placeInRow 81 = .ok (.iload_n 3, 1) := by decide +kernel
theorem dX5_placeInRow_82 : decode cX5_placeInRow 82 = .ok (.iconst 1, 1) := by decide +kernel
theorem dX5_placeInRow_83 : decode cX5_placeInRow 83 = .ok (.iload 5, 2) := by decide +kernel
theorem dX5_placeInRow_85 : decode cX5_placeInRow 85 = .ok (.ishl, 1) := by decide +kernel
theorem dX5_placeInRow_86 : decode cX5_placeInRow 86 = .ok (.ior, 1) := by decide +kernel
theorem dX5_placeInRow_87 : decode cX5_placeInRow 87 = .ok (.istore_n 3, 1) := by decide +kernel
theorem dX5_placeInRow_88 : decode cX5_placeInRow 88 = .ok (.iinc 4 1, 3) := by decide +kernel
theorem dX5_placeInRow_91 : decode cX5_placeInRow 91 = .ok (.goto (-86), 3) := by decide +kernel
theorem dX5_placeInRow_94 : decode cX5_placeInRow 94 = .ok (.iconst (-1), 1) := by decide +kernel
theorem dX5_placeInRow_95 : decode cX5_placeInRow 95 = .ok (.ireturn, 1) := by decide +kernel
theorem dX5_standInRow_0 : decode cX5_standInRow 0 = .ok (.aload_n 1, 1) := by decide +kernel
theorem dX5_standInRow_1 : decode cX5_standInRow 1 = .ok (.getfield 42, 3) := by decide +kernel
theorem dX5_standInRow_4 : decode cX5_standInRow 4 = .ok (.bipush 7, 2) := by decide +kernel
theorem dX5_standInRow_6 : decode cX5_standInRow 6 = .ok (.if_icmp .le 6, 3) := by decide +kernel
theorem dX5_standInRow_9 : decode cX5_standInRow 9 = .ok (.bipush (-3), 2) := by decide +kernel
theorem dX5_standInRow_11 : decode cX5_standInRow 11 = .ok (.ireturn, 1) := by decide +kernel
theorem dX5_standInRow_12 : decode cX5_standInRow 12 = .ok (.aload_n 0, 1) := by decide +kernel
theorem dX5_standInRow_13 : decode cX5_standInRow 13 = .ok (.aload_n 1, 1) := by decide +kernel
theorem dX5_standInRow_14 : decode cX5_standInRow 14 = .ok (.aload_n 2, 1) := by decide +kernel
theorem dX5_standInRow_15 : decode cX5_standInRow 15 = .ok (.iload_n 3, 1) := by decide +kernel
theorem dX5_standInRow_16 : decode cX5_standInRow 16 = .ok (.invokevirtual 141, 3) := by decide +kernel
theorem dX5_standInRow_19 : decode cX5_standInRow 19 = .ok (.iconst 1, 1) := by decide +kernel
theorem dX5_standInRow_20 : decode cX5_standInRow 20 = .ok (.aload_n 1, 1) := by decide +kernel
theorem dX5_standInRow_21 : decode cX5_standInRow 21 = .ok (.getfield 42, 3) := by decide +kernel
theorem dX5_standInRow_24 : decode cX5_standInRow 24 = .ok (.ishl, 1) := by decide +kernel
theorem dX5_standInRow_25 : decode cX5_standInRow 25 = .ok (.iconst 1, 1) := by decide +kernel
theorem dX5_standInRow_26 : decode cX5_standInRow 26 = .ok (.isub, 1) := by decide +kernel
theorem dX5_standInRow_27 : decode cX5_standInRow 27 = .ok (.istore 5, 2) := by decide +kernel
theorem dX5_standInRow_29 : decode cX5_standInRow 29 = .ok (.aload_n 0, 1) := by decide +kernel
theorem dX5_standInRow_30 : decode cX5_standInRow 30 = .ok (.getfield 22, 3) := by decide +kernel
theorem dX5_standInRow_33 : decode cX5_standInRow 33 = .ok (.iload 5, 2) := by decide +kernel
theorem dX5_standInRow_35 : decode cX5_standInRow 35 = .ok (.iconst 1, 1) := by decide +kernel
theorem dX5_standInRow_36 : decode cX5_standInRow 36 = .ok (.invokevirtual 79, 3) := by decide +kernel
theorem dX5_standInRow_39 : decode cX5_standInRow 39 = .ok (.iload 5, 2) := by decide +kernel
theorem dX5_standInRow_41 : decode cX5_standInRow 41 = .ok (.iconst 1, 1) := by decide +kernel
theorem dX5_standInRow_42 : decode cX5_standInRow 42 = .ok (.isub, 1) := by decide +kernel
theorem dX5_standInRow_43 : decode cX5_standInRow 43 = .ok (.istore 6, 2) := by decide +kernel
theorem dX5_standInRow_45 : decode cX5_standInRow 45 = .ok (.iload 6, 2) := by decide +kernel
theorem dX5_standInRow_47 : decode cX5_standInRow 47 = .ok (.ifCond .lt 75, 3) := by decide +kernel
theorem dX5_standInRow_50 : decode cX5_standInRow 50 = .ok (.iconst 0, 1) := by decide +kernel
theorem dX5_standInRow_51 : decode cX5_standInRow 51 = .ok (.istore 7, 2) := by decide +kernel
theorem dX5_standInRow_53 : decode cX5_standInRow 53 = .ok (.iconst 0, 1) := by decide +kernel
theorem dX5_standInRow_54 : decode cX5_standInRow 54 = .ok (.istore 8, 2) := by decide +kernel
theorem dX5_standInRow_56 : decode cX5_standInRow 56 = .ok (.iload 8, 2) := by decide +kernel
theorem dX5_standInRow_58 : decode cX5_standInRow 58 = .ok (.aload_n 1, 1) := by decide +kernel
theorem dX5_standInRow_59 : decode cX5_standInRow 59 = .ok (.getfield 42, 3) := by decide +kernel
theorem dX5_standInRow_62 : decode cX5_standInRow 62 = .ok (.if_icmp .ge 43, 3) := by decide +kernel
theorem dX5_standInRow_65 : decode cX5_standInRow 65 = .ok (.iload 7, 2) := by decide +kernel
theorem dX5_standInRow_67 : decode cX5_standInRow 67 = .ok (.aload_n 0, 1) := by decide +kernel
theorem dX5_standInRow_68 : decode cX5_standInRow 68 = .ok (.iload 6, 2) := by decide +kernel
theorem dX5_standInRow_70 : decode cX5_standInRow 70 = .ok (.iload 8, 2) := by decide +kernel
theorem dX5_standInRow_72 : decode cX5_standInRow 72 = .ok (.invokevirtual 145, 3) := by decide +kernel
theorem dX5_standInRow_75 : decode cX5_standInRow 75 = .ok (.ifCond .eq 20, 3) := by decide +kernel
theorem dX5_standInRow_78 : decode cX5_standInRow 78 = .ok (.aload_n 0, 1) := by decide +kernel
theorem dX5_standInRow_79 : decode cX5_standInRow 79 = .ok (.getfield 22, 3) := by decide +kernel
theorem dX5_standInRow_82 : decode cX5_standInRow 82 = .ok (.iload 6, 2) := by decide +kernel
theorem dX5_standInRow_84 : decode cX5_standInRow 84 = .ok (.iconst 1, 1) := by decide +kernel
theorem dX5_standInRow_85 : decode cX5_standInRow 85 = .ok (.iload 8, 2) := by decide +kernel
theorem dX5_standInRow_87 : decode cX5_standInRow 87 = .ok (.ishl, 1) := by decide +kernel
theorem dX5_standInRow_88 : decode cX5_standInRow 88 = .ok (.ior, 1) := by decide +kernel
theorem dX5_standInRow_89 : decode cX5_standInRow 89 = .ok (.invokevirtual 83, 3) := by decide +kernel
theorem dX5_standInRow_92 : decode cX5_standInRow 92 = .ok (.goto 4, 3) := by decide +kernel
theorem dX5_standInRow_95 : decode cX5_standInRow 95 = .ok (.iconst 0, 1) := by decide +kernel
theorem dX5_standInRow_96 : decode cX5_standInRow 96 = .ok (.iadd, 1) := by decide +kernel
theorem dX5_standInRow_97 : decode cX5_standInRow 97 = .ok (.istore 7, 2) := by decide +kernel
theorem dX5_standInRow_99 : decode cX5_standInRow 99 = .ok (.iinc 8 1, 3) := by decide +kernel
theorem dX5_standInRow_102 : decode cX5_standInRow 102 = .ok (.goto (-46), 3) := by decide +kernel
theorem dX5_standInRow_105 : decode cX5_standInRow 105 = .ok (.aload_n 0, 1) := by decide +kernel
theorem dX5_standInRow_106 : decode cX5_standInRow 106 = .ok (.getfield 22, 3) := by decide +kernel
theorem dX5_standInRow_109 : decode cX5_standInRow 109 = .ok (.iload 6, 2) := by decide +kernel
theorem dX5_standInRow_111 : decode cX5_standInRow 111 = .ok (.iload 7, 2) := by decide +kernel
theorem dX5_standInRow_113 : decode cX5_standInRow 113 = .ok (.invokevirtual 79, 3) := by decide +kernel
theorem dX5_standInRow_116 : decode cX5_standInRow 116 = .ok (.iinc 6 (-1), 3) := by decide +kernel
theorem dX5_standInRow_119 : decode cX5_standInRow 119 = .ok (.goto (-74), 3) := by decide +kernel
theorem dX5_standInRow_122 : decode cX5_standInRow 122 = .ok (.iload 4, 2) := by decide +kernel
theorem dX5_standInRow_124 : decode cX5_standInRow 124 = .ok (.iconst (-1), 1) := by decide +kernel
theorem dX5_standInRow_125 : decode cX5_standInRow 125 = .ok (.if_icmp .ne 14, 3) := by decide +kernel
theorem dX5_standInRow_128 : decode cX5_standInRow 128 = .ok (.aload_n 0, 1) := by decide +kernel
theorem dX5_standInRow_129 : decode cX5_standInRow 129 = .ok (.getfield 22, 3) := by decide +kernel
theorem dX5_standInRow_132 : decode cX5_standInRow 132 = .ok (.iconst 0, 1) := by decide +kernel
theorem dX5_standInRow_133 : decode cX5_standInRow 133 = .ok (.invokevirtual 83, 3) := by decide +kernel
theorem dX5_standInRow_136 : decode cX5_standInRow 136 = .ok (.goto 10, 3) := by decide +kernel
theorem dX5_standInRow_139 : decode cX5_standInRow 139 = .ok (.aload_n 0, 1) := by decide +kernel
theorem dX5_standInRow_140 : decode cX5_standInRow 140 = .ok (.aload_n 1, 1) := by decide +kernel
theorem dX5_standInRow_141 : decode cX5_standInRow 141 = .ok (.iload 4, 2) := by decide +kernel
theorem dX5_standInRow_143 : decode cX5_standInRow 143 = .ok (.invokevirtual 149, 3) := by decide +kernel
theorem dX5_standInRow_146 : decode cX5_standInRow 146 = .ok (.ireturn, 1) := by decide +kernel
theorem dX5_tellsSayings_0 : decode cX5_tellsSayings 0 = .ok (.iconst 0, 1) := by decide +kernel
theorem dX5_tellsSayings_1 : decode cX5_tellsSayings 1 = .ok (.istore 4, 2) := by decide +kernel
theorem dX5_tellsSayings_3 : decode cX5_tellsSayings 3 = .ok (.iload 4, 2) := by decide +kernel
theorem dX5_tellsSayings_5 : decode cX5_tellsSayings 5 = .ok (.iconst 2, 1) := by decide +kernel
theorem dX5_tellsSayings_6 : decode cX5_tellsSayings 6 = .ok (.iadd, 1) := by decide +kernel
theorem dX5_tellsSayings_7 : decode cX5_tellsSayings 7 = .ok (.iload_n 3, 1) := by decide +kernel
theorem dX5_tellsSayings_8 : decode cX5_tellsSayings 8 = .ok (.if_icmp .ge 56, 3) := by decide +kernel
theorem dX5_tellsSayings_11 : decode cX5_tellsSayings 11 = .ok (.aload_n 1, 1) := by decide +kernel
theorem dX5_tellsSayings_12 : decode cX5_tellsSayings 12 = .ok (.aload_n 0, 1) := by decide +kernel
theorem dX5_tellsSayings_13 : decode cX5_tellsSayings 13 = .ok (.aload_n 2, 1) := by decide +kernel
theorem dX5_tellsSayings_14 : decode cX5_tellsSayings 14 = .ok (.iload 4, 2) := by decide +kernel
theorem dX5_tellsSayings_16 : decode cX5_tellsSayings 16 = .ok (.invokevirtual 129, 3) := by decide +kernel
theorem dX5_tellsSayings_19 : decode cX5_tellsSayings 19 = .ok (.invokevirtual 133, 3) := by decide +kernel
theorem dX5_tellsSayings_22 : decode cX5_tellsSayings 22 = .ok (.ifCond .eq 34, 3) := by decide +kernel
theorem dX5_tellsSayings_25 : decode cX5_tellsSayings 25 = .ok (.aload_n 1, 1) := by decide +kernel
theorem dX5_tellsSayings_26 : decode cX5_tellsSayings 26 = .ok (.aload_n 0, 1) := by decide +kernel
theorem dX5_tellsSayings_27 : decode cX5_tellsSayings 27 = .ok (.aload_n 2, 1) := by decide +kernel
theorem dX5_tellsSayings_28 : decode cX5_tellsSayings 28 = .ok (.iload 4, 2) := by decide +kernel
theorem dX5_tellsSayings_30 : decode cX5_tellsSayings 30 = .ok (.iconst 1, 1) := by decide +kernel
theorem dX5_tellsSayings_31 : decode cX5_tellsSayings 31 = .ok (.iadd, 1) := by decide +kernel
theorem dX5_tellsSayings_32 : decode cX5_tellsSayings 32 = .ok (.invokevirtual 129, 3) := by decide +kernel
theorem dX5_tellsSayings_35 : decode cX5_tellsSayings 35 = .ok (.invokevirtual 133, 3) := by decide +kernel
theorem dX5_tellsSayings_38 : decode cX5_tellsSayings 38 = .ok (.ifCond .eq 18, 3) := by decide +kernel
theorem dX5_tellsSayings_41 : decode cX5_tellsSayings 41 = .ok (.aload_n 1, 1) := by decide +kernel
theorem dX5_tellsSayings_42 : decode cX5_tellsSayings 42 = .ok (.aload_n 2, 1) := by decide +kernel
theorem dX5_tellsSayings_43 : decode cX5_tellsSayings 43 = .ok (.iload 4, 2) := by decide +kernel
theorem dX5_tellsSayings_45 : decode cX5_tellsSayings 45 = .ok (.iconst 2, 1) := by decide +kernel
theorem dX5_tellsSayings_46 : decode cX5_tellsSayings 46 = .ok (.iadd, 1) := by decide +kernel
theorem dX5_tellsSayings_47 : decode cX5_tellsSayings 47 = .ok (.invokevirtual 136, 3) := by decide +kernel
theorem dX5_tellsSayings_50 : decode cX5_tellsSayings 50 = .ok (.invokevirtual 158, 3) := by decide +kernel
theorem dX5_tellsSayings_53 : decode cX5_tellsSayings 53 = .ok (.ifCond .ne 5, 3) := by decide +kernel
theorem dX5_tellsSayings_56 : decode cX5_tellsSayings 56 = .ok (.iconst 0, 1) := by decide +kernel
theorem dX5_tellsSayings_57 : decode cX5_tellsSayings 57 = .ok (.ireturn, 1) := by decide +kernel
theorem dX5_tellsSayings_58 : decode cX5_tellsSayings 58 = .ok (.iinc 4 3, 3) := by decide +kernel
theorem dX5_tellsSayings_61 : decode cX5_tellsSayings 61 = .ok (.goto (-58), 3) := by decide +kernel
theorem dX5_tellsSayings_64 : decode cX5_tellsSayings 64 = .ok (.iload_n 3, 1) := by decide +kernel
theorem dX5_tellsSayings_65 : decode cX5_tellsSayings 65 = .ok (.iconst 3, 1) := by decide +kernel
theorem dX5_tellsSayings_66 : decode cX5_tellsSayings 66 = .ok (.irem, 1) := by decide +kernel
theorem dX5_tellsSayings_67 : decode cX5_tellsSayings 67 = .ok (.ifCond .ne 7, 3) := by decide +kernel
theorem dX5_tellsSayings_70 : decode cX5_tellsSayings 70 = .ok (.iconst 1, 1) := by decide +kernel
theorem dX5_tellsSayings_71 : decode cX5_tellsSayings 71 = .ok (.goto 4, 3) := by decide +kernel
theorem dX5_tellsSayings_74 : decode cX5_tellsSayings 74 = .ok (.iconst 0, 1) := by decide +kernel
theorem dX5_tellsSayings_75 : decode cX5_tellsSayings 75 = .ok (.ireturn, 1) := by decide +kernel
theorem dX5_liarsIn_0 : decode cX5_liarsIn 0 = .ok (.iconst 0, 1) := by decide +kernel
theorem dX5_liarsIn_1 : decode cX5_liarsIn 1 = .ok (.istore 5, 2) := by decide +kernel
theorem dX5_liarsIn_3 : decode cX5_liarsIn 3 = .ok (.iconst 0, 1) := by decide +kernel
theorem dX5_liarsIn_4 : decode cX5_liarsIn 4 = .ok (.istore 6, 2) := by decide +kernel
theorem dX5_liarsIn_6 : decode cX5_liarsIn 6 = .ok (.iload 6, 2) := by decide +kernel
theorem dX5_liarsIn_8 : decode cX5_liarsIn 8 = .ok (.iconst 2, 1) := by decide +kernel
theorem dX5_liarsIn_9 : decode cX5_liarsIn 9 = .ok (.iadd, 1) := by decide +kernel
theorem dX5_liarsIn_10 : decode cX5_liarsIn 10 = .ok (.iload_n 3, 1) := by decide +kernel
theorem dX5_liarsIn_11 : decode cX5_liarsIn 11 = .ok (.if_icmp .ge 49, 3) := by decide +kernel
theorem dX5_liarsIn_14 : decode cX5_liarsIn 14 = .ok (.aload_n 1, 1) := by decide +kernel
theorem dX5_liarsIn_15 : decode cX5_liarsIn 15 = .ok (.iload 4, 2) := by decide +kernel
theorem dX5_liarsIn_17 : decode cX5_liarsIn 17 = .ok (.aload_n 0, 1) := by decide +kernel
theorem dX5_liarsIn_18 : decode cX5_liarsIn 18 = .ok (.aload_n 2, 1) := by decide +kernel
theorem dX5_liarsIn_19 : decode cX5_liarsIn 19 = .ok (.iload 6, 2) := by decide +kernel
theorem dX5_liarsIn_21 : decode cX5_liarsIn 21 = .ok (.iconst 1, 1) := by decide +kernel
theorem dX5_liarsIn_22 : decode cX5_liarsIn 22 = .ok (.iadd, 1) := by decide +kernel
theorem dX5_liarsIn_23 : decode cX5_liarsIn 23 = .ok (.invokevirtual 129, 3) := by decide +kernel
theorem dX5_liarsIn_26 : decode cX5_liarsIn 26 = .ok (.invokevirtual 72, 3) := by decide +kernel
theorem dX5_liarsIn_29 : decode cX5_liarsIn 29 = .ok (.aload_n 2, 1) := by decide +kernel
theorem dX5_liarsIn_30 : decode cX5_liarsIn 30 = .ok (.iload 6, 2) := by decide +kernel
theorem dX5_liarsIn_32 : decode cX5_liarsIn 32 = .ok (.iconst 2, 1) := by decide +kernel
theorem dX5_liarsIn_33 : decode cX5_liarsIn 33 = .ok (.iadd, 1) := by decide +kernel
theorem dX5_liarsIn_34 : decode cX5_liarsIn 34 = .ok (.invokevirtual 136, 3) := by decide +kernel
theorem dX5_liarsIn_37 : decode cX5_liarsIn 37 = .ok (.if_icmp .eq 17, 3) := by decide +kernel
theorem dX5_liarsIn_40 : decode cX5_liarsIn 40 = .ok (.iload 5, 2) := by decide +kernel
theorem dX5_liarsIn_42 : decode cX5_liarsIn 42 = .ok (.iconst 1, 1) := by decide +kernel
theorem dX5_liarsIn_43 : decode cX5_liarsIn 43 = .ok (.aload_n 0, 1) := by decide +kernel
theorem dX5_liarsIn_44 : decode cX5_liarsIn 44 = .ok (.aload_n 2, 1) := by decide +kernel
theorem dX5_liarsIn_45 : decode cX5_liarsIn 45 = .ok (.iload 6, 2) := by decide +kernel
theorem dX5_liarsIn_47 : decode cX5_liarsIn 47 = .ok (.invokevirtual 129, 3) := by decide +kernel
theorem dX5_liarsIn_50 : decode cX5_liarsIn 50 = .ok (.ishl, 1) := by decide +kernel
theorem dX5_liarsIn_51 : decode cX5_liarsIn 51 = .ok (.ior, 1) := by decide +kernel
theorem dX5_liarsIn_52 : decode cX5_liarsIn 52 = .ok (.istore 5, 2) := by decide +kernel
theorem dX5_liarsIn_54 : decode cX5_liarsIn 54 = .ok (.iinc 6 3, 3) := by decide +kernel
theorem dX5_liarsIn_57 : decode cX5_liarsIn 57 = .ok (.goto (-51), 3) := by decide +kernel
theorem dX5_liarsIn_60 : decode cX5_liarsIn 60 = .ok (.iload 5, 2) := by decide +kernel
theorem dX5_liarsIn_62 : decode cX5_liarsIn 62 = .ok (.ireturn, 1) := by decide +kernel
theorem dX5_whoLied_0 : decode cX5_whoLied 0 = .ok (.iconst 0, 1) := by decide +kernel
theorem dX5_whoLied_1 : decode cX5_whoLied 1 = .ok (.istore 6, 2) := by decide +kernel
theorem dX5_whoLied_3 : decode cX5_whoLied 3 = .ok (.iconst 0, 1) := by decide +kernel
theorem dX5_whoLied_4 : decode cX5_whoLied 4 = .ok (.istore 7, 2) := by decide +kernel
theorem dX5_whoLied_6 : decode cX5_whoLied 6 = .ok (.iconst 0, 1) := by decide +kernel
theorem dX5_whoLied_7 : decode cX5_whoLied 7 = .ok (.istore 8, 2) := by decide +kernel
theorem dX5_whoLied_9 : decode cX5_whoLied 9 = .ok (.iload 8, 2) := by decide +kernel
theorem dX5_whoLied_11 : decode cX5_whoLied 11 = .ok (.aload_n 1, 1) := by decide +kernel
theorem dX5_whoLied_12 : decode cX5_whoLied 12 = .ok (.getfield 66, 3) := by decide +kernel
theorem dX5_whoLied_15 : decode cX5_whoLied 15 = .ok (.if_icmp .ge 62, 3) := by decide +kernel
theorem dX5_whoLied_18 : decode cX5_whoLied 18 = .ok (.aload_n 1, 1) := by decide +kernel
theorem dX5_whoLied_19 : decode cX5_whoLied 19 = .ok (.iload 8, 2) := by decide +kernel
theorem dX5_whoLied_21 : decode cX5_whoLied 21 = .ok (.invokevirtual 69, 3) := by decide +kernel
theorem dX5_whoLied_24 : decode cX5_whoLied 24 = .ok (.ifCond .eq 15, 3) := by decide +kernel
theorem dX5_whoLied_27 : decode cX5_whoLied 27 = .ok (.aload_n 0, 1) := by decide +kernel
theorem dX5_whoLied_28 : decode cX5_whoLied 28 = .ok (.aload_n 1, 1) := by decide +kernel
theorem dX5_whoLied_29 : decode cX5_whoLied 29 = .ok (.aload_n 2, 1) := by decide +kernel
theorem dX5_whoLied_30 : decode cX5_whoLied 30 = .ok (.iload_n 3, 1) := by decide +kernel
theorem dX5_whoLied_31 : decode cX5_whoLied 31 = .ok (.iload 8, 2) := by decide +kernel
theorem dX5_whoLied_33 : decode cX5_whoLied 33 = .ok (.invokevirtual 161, 3) := by decide +kernel
theorem dX5_whoLied_36 : decode cX5_whoLied 36 = .ok (.goto 4, 3) := by decide +kernel
theorem dX5_whoLied_39 : decode cX5_whoLied 39 = .ok (.iconst 0, 1) := by decide +kernel
theorem dX5_whoLied_40 : decode cX5_whoLied 40 = .ok (.istore 9, 2) := by decide +kernel
theorem dX5_whoLied_42 : decode cX5_whoLied 42 = .ok (.aload_n 1, 1) := by decide +kernel
theorem dX5_whoLied_43 : decode cX5_whoLied 43 = .ok (.iload 8, 2) := by decide +kernel
theorem dX5_whoLied_45 : decode cX5_whoLied 45 = .ok (.invokevirtual 69, 3) := by decide +kernel
theorem dX5_whoLied_48 : decode cX5_whoLied 48 = .ok (.ifCond .eq 23, 3) := by decide +kernel
theorem dX5_whoLied_51 : decode cX5_whoLied 51 = .ok (.iload 9, 2) := by decide +kernel
theorem dX5_whoLied_53 : decode cX5_whoLied 53 = .ok (.invokestatic 46, 3) := by decide +kernel
theorem dX5_whoLied_56 : decode cX5_whoLied 56 = .ok (.iload 4, 2) := by decide +kernel
theorem dX5_whoLied_58 : decode cX5_whoLied 58 = .ok (.if_icmp .gt 13, 3) := by decide +kernel
theorem dX5_whoLied_61 : decode cX5_whoLied 61 = .ok (.iinc 6 1, 3) := by decide +kernel
theorem dX5_whoLied_64 : decode cX5_whoLied 64 = .ok (.iload 7, 2) := by decide +kernel
theorem dX5_whoLied_66 : decode cX5_whoLied 66 = .ok (.iload 9, 2) := by decide +kernel
theorem dX5_whoLied_68 : decode cX5_whoLied 68 = .ok (.ior, 1) := by decide +kernel
theorem dX5_whoLied_69 : decode cX5_whoLied 69 = .ok (.istore 7, 2) := by decide +kernel
theorem dX5_whoLied_71 : decode cX5_whoLied 71 = .ok (.iinc 8 1, 3) := by decide +kernel
theorem dX5_whoLied_74 : decode cX5_whoLied 74 = .ok (.goto (-65), 3) := by decide +kernel
theorem dX5_whoLied_77 : decode cX5_whoLied 77 = .ok (.iload 5, 2) := by decide +kernel
theorem dX5_whoLied_79 : decode cX5_whoLied 79 = .ok (.ifCond .eq 8, 3) := by decide +kernel
theorem dX5_whoLied_82 : decode cX5_whoLied 82 = .ok (.iload 7, 2) := by decide +kernel
theorem dX5_whoLied_84 : decode cX5_whoLied 84 = .ok (.goto 5, 3) := by decide +kernel
theorem dX5_whoLied_87 : decode cX5_whoLied 87 = .ok (.iload 6, 2) := by decide +kernel
theorem dX5_whoLied_89 : decode cX5_whoLied 89 = .ok (.ireturn, 1) := by decide +kernel
theorem dX5_gatherFriends_0 : decode cX5_gatherFriends 0 = .ok (.iconst 0, 1) := by decide +kernel
theorem dX5_gatherFriends_1 : decode cX5_gatherFriends 1 = .ok (.istore_n 2, 1) := by decide +kernel
theorem dX5_gatherFriends_2 : decode cX5_gatherFriends 2 = .ok (.iload_n 2, 1) := by decide +kernel
theorem dX5_gatherFriends_3 : decode cX5_gatherFriends 3 = .ok (.aload_n 1, 1) := by decide +kernel
theorem dX5_gatherFriends_4 : decode cX5_gatherFriends 4 = .ok (.getfield 42, 3) := by decide +kernel
theorem dX5_gatherFriends_7 : decode cX5_gatherFriends 7 = .ok (.if_icmp .ge 26, 3) := by decide +kernel
theorem dX5_gatherFriends_10 : decode cX5_gatherFriends 10 = .ok (.aload_n 0, 1) := by decide +kernel
theorem dX5_gatherFriends_11 : decode cX5_gatherFriends 11 = .ok (.getfield 28, 3) := by decide +kernel
theorem dX5_gatherFriends_14 : decode cX5_gatherFriends 14 = .ok (.iload_n 2, 1) := by decide +kernel
theorem dX5_gatherFriends_15 : decode cX5_gatherFriends 15 = .ok (.aload_n 0, 1) := by decide +kernel
theorem dX5_gatherFriends_16 : decode cX5_gatherFriends 16 = .ok (.getfield 34, 3) := by decide +kernel
theorem dX5_gatherFriends_19 : decode cX5_gatherFriends 19 = .ok (.aload_n 1, 1) := by decide +kernel
theorem dX5_gatherFriends_20 : decode cX5_gatherFriends 20 = .ok (.iload_n 2, 1) := by decide +kernel
theorem dX5_gatherFriends_21 : decode cX5_gatherFriends 21 = .ok (.invokevirtual 184, 3) := by decide +kernel
theorem dX5_gatherFriends_24 : decode cX5_gatherFriends 24 = .ok (.invokevirtual 79, 3) := by decide +kernel
theorem dX5_gatherFriends_27 : decode cX5_gatherFriends 27 = .ok (.iinc 2 1, 3) := by decide +kernel
theorem dX5_gatherFriends_30 : decode cX5_gatherFriends 30 = .ok (.goto (-28), 3) := by decide +kernel
theorem dX5_gatherFriends_33 : decode cX5_gatherFriends 33 = .ok (.return_, 1) := by decide +kernel
theorem dX5_mayPair_0 : decode cX5_mayPair 0 = .ok (.iload_n 1, 1) := by decide +kernel
theorem dX5_mayPair_1 : decode cX5_mayPair 1 = .ok (.iload_n 3, 1) := by decide +kernel
theorem dX5_mayPair_2 : decode cX5_mayPair 2 = .ok (.ishr, 1) := by decide +kernel
theorem dX5_mayPair_3 : decode cX5_mayPair 3 = .ok (.iconst 1, 1) := by decide +kernel
theorem dX5_mayPair_4 : decode cX5_mayPair 4 = .ok (.iand, 1) := by decide +kernel
theorem dX5_mayPair_5 : decode cX5_mayPair 5 = .ok (.iconst 1, 1) := by decide +kernel
theorem dX5_mayPair_6 : decode cX5_mayPair 6 = .ok (.if_icmp .ne 39, 3) := by decide +kernel
theorem dX5_mayPair_9 : decode cX5_mayPair 9 = .ok (.aload_n 0, 1) := by decide +kernel
theorem dX5_mayPair_10 : decode cX5_mayPair 10 = .ok (.getfield 28, 3) := by decide +kernel
theorem dX5_mayPair_13 : decode cX5_mayPair 13 = .ok (.iload_n 2, 1) := by decide +kernel
theorem dX5_mayPair_14 : decode cX5_mayPair 14 = .ok (.invokevirtual 83, 3) := by decide +kernel
theorem dX5_mayPair_17 : decode cX5_mayPair 17 = .ok (.iload_n 3, 1) := by decide +kernel
theorem dX5_mayPair_18 : decode cX5_mayPair 18 = .ok (.ishr, 1) := by decide +kernel
theorem dX5_mayPair_19 : decode cX5_mayPair 19 = .ok (.iconst 1, 1) := by decide +kernel
theorem dX5_mayPair_20 : decode cX5_mayPair 20 = .ok (.iand, 1) := by decide +kernel
theorem dX5_mayPair_21 : decode cX5_mayPair 21 = .ok (.iconst 1, 1) := by decide +kernel
theorem dX5_mayPair_22 : decode cX5_mayPair 22 = .ok (.if_icmp .ne 23, 3) := by decide +kernel
theorem dX5_mayPair_25 : decode cX5_mayPair 25 = .ok (.aload_n 0, 1) := by decide +kernel
theorem dX5_mayPair_26 : decode cX5_mayPair 26 = .ok (.getfield 28, 3) := by decide +kernel
theorem dX5_mayPair_29 : decode cX5_mayPair 29 = .ok (.iload_n 3, 1) := by decide +kernel
theorem dX5_mayPair_30 : decode cX5_mayPair 30 = .ok (.invokevirtual 83, 3) := by decide +kernel
theorem dX5_mayPair_33 : decode cX5_mayPair 33 = .ok (.iload_n 2, 1) := by decide +kernel
theorem dX5_mayPair_34 : decode cX5_mayPair 34 = .ok (.ishr, 1) := by decide +kernel
theorem dX5_mayPair_35 : decode cX5_mayPair 35 = .ok (.iconst 1, 1) := by decide +kernel
theorem dX5_mayPair_36 : decode cX5_mayPair 36 = .ok (.iand, 1) := by decide +kernel
theorem dX5_mayPair_37 : decode cX5_mayPair 37 = .ok (.iconst 1, 1) := by decide +kernel
theorem dX5_mayPair_38 : decode cX5_mayPair 38 = .ok (.if_icmp .ne 7, 3) := by decide +kernel
theorem dX5_mayPair_41 : decode cX5_mayPair 41 = .ok (.iconst 1, 1) := by decide +kernel
theorem dX5_mayPair_42 : decode cX5_mayPair 42 = .ok (.goto 4, 3) := by decide +kernel
theorem dX5_mayPair_45 : decode cX5_mayPair 45 = .ok (.iconst 0, 1) := by decide +kernel
theorem dX5_mayPair_46 : decode cX5_mayPair 46 = .ok (.ireturn, 1) := by decide +kernel
theorem dX5_partnerOf_0 : decode cX5_partnerOf 0 = .ok (.iconst 1, 1) := by decide +kernel
theorem dX5_partnerOf_1 : decode cX5_partnerOf 1 = .ok (.aload_n 1, 1) := by decide +kernel
theorem dX5_partnerOf_2 : decode cX5_partnerOf 2 = .ok (.getfield 42, 3) := by decide +kernel
theorem dX5_partnerOf_5 : decode cX5_partnerOf 5 = .ok (.ishl, 1) := by decide +kernel
theorem dX5_partnerOf_6 : decode cX5_partnerOf 6 = .ok (.iconst 1, 1) := by decide +kernel
theorem dX5_partnerOf_7 : decode cX5_partnerOf 7 = .ok (.isub, 1) := by decide +kernel
theorem dX5_partnerOf_8 : decode cX5_partnerOf 8 = .ok (.istore_n 3, 1) := by decide +kernel
theorem dX5_partnerOf_9 : decode cX5_partnerOf 9 = .ok (.iconst 0, 1) := by decide +kernel
theorem dX5_partnerOf_10 : decode cX5_partnerOf 10 = .ok (.istore 4, 2) := by decide +kernel
theorem dX5_partnerOf_12 : decode cX5_partnerOf 12 = .ok (.iload 4, 2) := by decide +kernel
theorem dX5_partnerOf_14 : decode cX5_partnerOf 14 = .ok (.aload_n 1, 1) := by decide +kernel
theorem dX5_partnerOf_15 : decode cX5_partnerOf 15 = .ok (.getfield 42, 3) := by decide +kernel
theorem dX5_partnerOf_18 : decode cX5_partnerOf 18 = .ok (.if_icmp .ge 144, 3) := by decide +kernel
theorem dX5_partnerOf_21 : decode cX5_partnerOf 21 = .ok (.iload_n 3, 1) := by decide +kernel
theorem dX5_partnerOf_22 : decode cX5_partnerOf 22 = .ok (.iload 4, 2) := by decide +kernel
theorem dX5_partnerOf_24 : decode cX5_partnerOf 24 = .ok (.ishr, 1) := by decide +kernel
theorem dX5_partnerOf_25 : decode cX5_partnerOf 25 = .ok (.iconst 1, 1) := by decide +kernel
theorem dX5_partnerOf_26 : decode cX5_partnerOf 26 = .ok (.iand, 1) := by decide +kernel
theorem dX5_partnerOf_27 : decode cX5_partnerOf 27 = .ok (.ifCond .ne 6, 3) := by decide +kernel
theorem dX5_partnerOf_30 : decode cX5_partnerOf 30 = .ok (.goto 126, 3) := by decide +kernel
theorem dX5_partnerOf_33 : decode cX5_partnerOf 33 = .ok (.iconst (-1), 1) := by decide +kernel
theorem dX5_partnerOf_34 : decode cX5_partnerOf 34 = .ok (.istore 5, 2) := by decide +kernel
theorem dX5_partnerOf_36 : decode cX5_partnerOf 36 = .ok (.aload_n 1, 1) := by decide +kernel
theorem dX5_partnerOf_37 : decode cX5_partnerOf 37 = .ok (.getfield 42, 3) := by decide +kernel
theorem dX5_partnerOf_40 : decode cX5_partnerOf 40 = .ok (.iconst 1, 1) := by decide +kernel
theorem dX5_partnerOf_41 : decode cX5_partnerOf 41 = .ok (.isub, 1) := by decide +kernel
theorem dX5_partnerOf_42 : decode cX5_partnerOf 42 = .ok (.istore 6, 2) := by decide +kernel
theorem dX5_partnerOf_44 : decode cX5_partnerOf 44 = .ok (.iload 6, 2) := by decide +kernel
theorem dX5_partnerOf_46 : decode cX5_partnerOf 46 = .ok (.iload 4, 2) := by decide +kernel
theorem dX5_partnerOf_48 : decode cX5_partnerOf 48 = .ok (.if_icmp .le 58, 3) := by decide +kernel
theorem dX5_partnerOf_51 : decode cX5_partnerOf 51 = .ok (.aload_n 0, 1) := by decide +kernel
theorem dX5_partnerOf_52 : decode cX5_partnerOf 52 = .ok (.iload_n 3, 1) := by decide +kernel
theorem dX5_partnerOf_53 : decode cX5_partnerOf 53 = .ok (.iload 4, 2) := by decide +kernel
theorem dX5_partnerOf_55 : decode cX5_partnerOf 55 = .ok (.iload 6, 2) := by decide +kernel
theorem dX5_partnerOf_57 : decode cX5_partnerOf 57 = .ok (.invokevirtual 172, 3) := by decide +kernel
theorem dX5_partnerOf_60 : decode cX5_partnerOf 60 = .ok (.ifCond .eq 40, 3) := by decide +kernel
theorem dX5_partnerOf_63 : decode cX5_partnerOf 63 = .ok (.iconst 1, 1) := by decide +kernel
theorem dX5_partnerOf_64 : decode cX5_partnerOf 64 = .ok (.aload_n 0, 1) := by decide +kernel
theorem dX5_partnerOf_65 : decode cX5_partnerOf 65 = .ok (.getfield 22, 3) := by decide +kernel
theorem dX5_partnerOf_68 : decode cX5_partnerOf 68 = .ok (.iload_n 3, 1) := by decide +kernel
theorem dX5_partnerOf_69 : decode cX5_partnerOf 69 = .ok (.iconst 1, 1) := by decide +kernel
theorem dX5_partnerOf_70 : decode cX5_partnerOf 70 = .ok (.iload 4, 2) := by decide +kernel
theorem dX5_partnerOf_72 : decode cX5_partnerOf 72 = .ok (.ishl, 1) := by decide +kernel
theorem dX5_partnerOf_73 : decode cX5_partnerOf 73 = .ok (.iconst 1, 1) := by decide +kernel
theorem dX5_partnerOf_74 : decode cX5_partnerOf 74 = .ok (.iload 6, 2) := by decide +kernel
theorem dX5_partnerOf_76 : decode cX5_partnerOf 76 = .ok (.ishl, 1) := by decide +kernel
theorem dX5_partnerOf_77 : decode cX5_partnerOf 77 = .ok (.ior, 1) := by decide +kernel
theorem dX5_partnerOf_78 : decode cX5_partnerOf 78 = .ok (.iconst (-1), 1) := by decide +kernel
theorem dX5_partnerOf_79 : decode cX5_partnerOf 79 = .ok (.ixor, 1) := by decide +kernel
theorem dX5_partnerOf_80 : decode cX5_partnerOf 80 = .ok (.iand, 1) := by decide +kernel
theorem dX5_partnerOf_81 : decode cX5_partnerOf 81 = .ok (.invokevirtual 83, 3) := by decide +kernel
theorem dX5_partnerOf_84 : decode cX5_partnerOf 84 = .ok (.iadd, 1) := by decide +kernel
theorem dX5_partnerOf_85 : decode cX5_partnerOf 85 = .ok (.aload_n 0, 1) := by decide +kernel
theorem dX5_partnerOf_86 : decode cX5_partnerOf 86 = .ok (.getfield 22, 3) := by decide +kernel
theorem dX5_partnerOf_89 : decode cX5_partnerOf 89 = .ok (.iload_n 3, 1) := by decide +kernel
theorem dX5_partnerOf_90 : decode cX5_partnerOf 90 = .ok (.invokevirtual 83, 3) := by decide +kernel
theorem dX5_partnerOf_93 : decode cX5_partnerOf 93 = .ok (.if_icmp .ne 7, 3) := by decide +kernel
theorem dX5_partnerOf_96 : decode cX5_partnerOf 96 = .ok (.iload 6, 2) := by decide +kernel
theorem dX5_partnerOf_98 : decode cX5_partnerOf 98 = .ok (.istore 5, 2) := by decide +kernel
theorem dX5_partnerOf_100 : decode cX5_partnerOf 100 = .ok (.iinc 6 (-1), 3) := by decide +kernel
theorem dX5_partnerOf_103 : decode cX5_partnerOf 103 = .ok (.goto (-59), 3) := by decide +kernel
theorem dX5_partnerOf_106 : decode cX5_partnerOf 106 = .ok (.iload 4, 2) := by decide +kernel
theorem dX5_partnerOf_108 : decode cX5_partnerOf 108 = .ok (.iload_n 2, 1) := by decide +kernel
theorem dX5_partnerOf_109 : decode cX5_partnerOf 109 = .ok (.if_icmp .eq 9, 3) := by decide +kernel
theorem dX5_partnerOf_112 : decode cX5_partnerOf 112 = .ok (.iload 5, 2) := by decide +kernel
theorem dX5_partnerOf_114 : decode cX5_partnerOf 114 = .ok (.iload_n 2, 1) := by decide +kernel
theorem dX5_partnerOf_115 : decode cX5_partnerOf 115 = .ok (.if_icmp .ne 17, 3) := by decide +kernel
theorem dX5_partnerOf_118 : decode cX5_partnerOf 118 = .ok (.iload 4, 2) := by decide +kernel
theorem dX5_partnerOf_120 : decode cX5_partnerOf 120 = .ok (.iload_n 2, 1) := by decide +kernel
theorem dX5_partnerOf_121 : decode cX5_partnerOf 121 = .ok (.if_icmp .ne 8, 3) := by decide +kernel
theorem dX5_partnerOf_124 : decode cX5_partnerOf 124 = .ok (.iload 5, 2) := by decide +kernel
theorem dX5_partnerOf_126 : decode cX5_partnerOf 126 = .ok (.goto 5, 3) := by decide +kernel
theorem dX5_partnerOf_129 : decode cX5_partnerOf 129 = .ok (.iload 4, 2) := by decide +kernel
theorem dX5_partnerOf_131 : decode cX5_partnerOf 131 = .ok (.ireturn, 1) := by decide +kernel
theorem dX5_partnerOf_132 : decode cX5_partnerOf 132 = .ok (.iload_n 3, 1) := by decide +kernel
theorem dX5_partnerOf_133 : decode cX5_partnerOf 133 = .ok (.iconst 1, 1) := by decide +kernel
theorem dX5_partnerOf_134 : decode cX5_partnerOf 134 = .ok (.iload 4, 2) := by decide +kernel
theorem dX5_partnerOf_136 : decode cX5_partnerOf 136 = .ok (.ishl, 1) := by decide +kernel
theorem dX5_partnerOf_137 : decode cX5_partnerOf 137 = .ok (.iload 5, 2) := by decide +kernel
theorem dX5_partnerOf_139 : decode cX5_partnerOf 139 = .ok (.iconst (-1), 1) := by decide +kernel
theorem dX5_partnerOf_140 : decode cX5_partnerOf 140 = .ok (.if_icmp .ne 7, 3) := by decide +kernel
theorem dX5_partnerOf_143 : decode cX5_partnerOf 143 = .ok (.iconst 0, 1) := by decide +kernel
theorem dX5_partnerOf_144 : decode cX5_partnerOf 144 = .ok (.goto 7, 3) := by decide +kernel
theorem dX5_partnerOf_147 : decode cX5_partnerOf 147 = .ok (.iconst 1, 1) := by decide +kernel
theorem dX5_partnerOf_148 : decode cX5_partnerOf 148 = .ok (.iload 5, 2) := by decide +kernel
theorem dX5_partnerOf_150 : decode cX5_partnerOf 150 = .ok (.ishl, 1) := by decide +kernel
theorem dX5_partnerOf_151 : decode cX5_partnerOf 151 = .ok (.ior, 1) := by decide +kernel
theorem dX5_partnerOf_152 : decode cX5_partnerOf 152 = .ok (.iconst (-1), 1) := by decide +kernel
theorem dX5_partnerOf_153 : decode cX5_partnerOf 153 = .ok (.ixor, 1) := by decide +kernel
theorem dX5_partnerOf_154 : decode cX5_partnerOf 154 = .ok (.iand, 1) := by decide +kernel
theorem dX5_partnerOf_155 : decode cX5_partnerOf 155 = .ok (.istore_n 3, 1) := by decide +kernel
theorem dX5_partnerOf_156 : decode cX5_partnerOf 156 = .ok (.iinc 4 1, 3) := by decide +kernel
theorem dX5_partnerOf_159 : decode cX5_partnerOf 159 = .ok (.goto (-147), 3) := by decide +kernel
theorem dX5_partnerOf_162 : decode cX5_partnerOf 162 = .ok (.iconst (-1), 1) := by decide +kernel
theorem dX5_partnerOf_163 : decode cX5_partnerOf 163 = .ok (.ireturn, 1) := by decide +kernel
theorem dX5_marry_0 : decode cX5_marry 0 = .ok (.aload_n 0, 1) := by decide +kernel
theorem dX5_marry_1 : decode cX5_marry 1 = .ok (.aload_n 1, 1) := by decide +kernel
theorem dX5_marry_2 : decode cX5_marry 2 = .ok (.invokevirtual 165, 3) := by decide +kernel
theorem dX5_marry_5 : decode cX5_marry 5 = .ok (.iconst 1, 1) := by decide +kernel
theorem dX5_marry_6 : decode cX5_marry 6 = .ok (.aload_n 1, 1) := by decide +kernel
theorem dX5_marry_7 : decode cX5_marry 7 = .ok (.getfield 42, 3) := by decide +kernel
theorem dX5_marry_10 : decode cX5_marry 10 = .ok (.ishl, 1) := by decide +kernel
theorem dX5_marry_11 : decode cX5_marry 11 = .ok (.istore_n 3, 1) := by decide +kernel
theorem dX5_marry_12 : decode cX5_marry 12 = .ok (.aload_n 0, 1) := by decide +kernel
theorem dX5_marry_13 : decode cX5_marry 13 = .ok (.getfield 22, 3) := by decide +kernel
theorem dX5_marry_16 : decode cX5_marry 16 = .ok (.iconst 0, 1) := by decide +kernel
theorem dX5_marry_17 : decode cX5_marry 17 = .ok (.iconst 0, 1) := by decide +kernel
theorem dX5_marry_18 : decode cX5_marry 18 = .ok (.invokevirtual 79, 3) := by decide +kernel
theorem dX5_marry_21 : decode cX5_marry 21 = .ok (.iconst 1, 1) := by decide +kernel
theorem dX5_marry_22 : decode cX5_marry 22 = .ok (.istore 4, 2) := by decide +kernel
theorem dX5_marry_24 : decode cX5_marry 24 = .ok (.iload 4, 2) := by decide +kernel
theorem dX5_marry_26 : decode cX5_marry 26 = .ok (.iload_n 3, 1) := by decide +kernel
theorem dX5_marry_27 : decode cX5_marry 27 = .ok (.if_icmp .ge 109, 3) := by decide +kernel
theorem dX5_marry_30 : decode cX5_marry 30 = .ok (.iload 4, 2) := by decide +kernel
theorem dX5_marry_32 : decode cX5_marry 32 = .ok (.invokestatic 169, 3) := by decide +kernel
theorem dX5_marry_35 : decode cX5_marry 35 = .ok (.istore 5, 2) := by decide +kernel
theorem dX5_marry_37 : decode cX5_marry 37 = .ok (.aload_n 0, 1) := by decide +kernel
theorem dX5_marry_38 : decode cX5_marry 38 = .ok (.getfield 22, 3) := by decide +kernel
theorem dX5_marry_41 : decode cX5_marry 41 = .ok (.iload 4, 2) := by decide +kernel
theorem dX5_marry_43 : decode cX5_marry 43 = .ok (.iconst 1, 1) := by decide +kernel
theorem dX5_marry_44 : decode cX5_marry 44 = .ok (.iload 5, 2) := by decide +kernel
theorem dX5_marry_46 : decode cX5_marry 46 = .ok (.ishl, 1) := by decide +kernel
theorem dX5_marry_47 : decode cX5_marry 47 = .ok (.iconst (-1), 1) := by decide +kernel
theorem dX5_marry_48 : decode cX5_marry 48 = .ok (.ixor, 1) := by decide +kernel
theorem dX5_marry_49 : decode cX5_marry 49 = .ok (.iand, 1) := by decide +kernel
theorem dX5_marry_50 : decode cX5_marry 50 = .ok (.invokevirtual 83, 3) := by decide +kernel
theorem dX5_marry_53 : decode cX5_marry 53 = .ok (.istore 6, 2) := by decide +kernel
theorem dX5_marry_55 : decode cX5_marry 55 = .ok (.iload 5, 2) := by decide +kernel
theorem dX5_marry_57 : decode cX5_marry 57 = .ok (.iconst 1, 1) := by decide +kernel
theorem dX5_marry_58 : decode cX5_marry 58 = .ok (.iadd, 1) := by decide +kernel
theorem dX5_marry_59 : decode cX5_marry 59 = .ok (.istore 7, 2) := by decide +kernel
theorem dX5_marry_61 : decode cX5_marry 61 = .ok (.iload 7, 2) := by decide +kernel
theorem dX5_marry_63 : decode cX5_marry 63 = .ok (.aload_n 1, 1) := by decide +kernel
theorem dX5_marry_64 : decode cX5_marry 64 = .ok (.getfield 42, 3) := by decide +kernel
theorem dX5_marry_67 : decode cX5_marry 67 = .ok (.if_icmp .ge 52, 3) := by decide +kernel
theorem dX5_marry_70 : decode cX5_marry 70 = .ok (.aload_n 0, 1) := by decide +kernel
theorem dX5_marry_71 : decode cX5_marry 71 = .ok (.iload 4, 2) := by decide +kernel
theorem dX5_marry_73 : decode cX5_marry 73 = .ok (.iload 5, 2) := by decide +kernel
theorem dX5_marry_75 : decode cX5_marry 75 = .ok (.iload 7, 2) := by decide +kernel
theorem dX5_marry_77 : decode cX5_marry 77 = .ok (.invokevirtual 172, 3) := by decide +kernel
theorem dX5_marry_80 : decode cX5_marry 80 = .ok (.ifCond .eq 33, 3) := by decide +kernel
theorem dX5_marry_83 : decode cX5_marry 83 = .ok (.iload 6, 2) := by decide +kernel
theorem dX5_marry_85 : decode cX5_marry 85 = .ok (.iconst 1, 1) := by decide +kernel
theorem dX5_marry_86 : decode cX5_marry 86 = .ok (.aload_n 0, 1) := by decide +kernel
theorem dX5_marry_87 : decode cX5_marry 87 = .ok (.getfield 22, 3) := by decide +kernel
theorem dX5_marry_90 : decode cX5_marry 90 = .ok (.iload 4, 2) := by decide +kernel
theorem dX5_marry_92 : decode cX5_marry 92 = .ok (.iconst 1, 1) := by decide +kernel
theorem dX5_marry_93 : decode cX5_marry 93 = .ok (.iload 5, 2) := by decide +kernel
theorem dX5_marry_95 : decode cX5_marry 95 = .ok (.ishl, 1) := by decide +kernel
theorem dX5_marry_96 : decode cX5_marry 96 = .ok (.iconst 1, 1) := by decide +kernel
theorem dX5_marry_97 : decode cX5_marry 97 = .ok (.iload 7, 2) := by decide +kernel
theorem dX5_marry_99 : decode cX5_marry 99 = .ok (.ishl, 1) := by decide +kernel
theorem dX5_marry_100 : decode cX5_marry 100 = .ok (.ior, 1) := by decide +kernel
theorem dX5_marry_101 : decode cX5_marry 101 = .ok (.iconst (-1), 1) := by decide +kernel
theorem dX5_marry_102 : decode cX5_marry 102 = .ok (.ixor, 1) := by decide +kernel
theorem dX5_marry_103 : decode cX5_marry 103 = .ok (.iand, 1) := by decide +kernel
theorem dX5_marry_104 : decode cX5_marry 104 = .ok (.invokevirtual 83, 3) := by decide +kernel
theorem dX5_marry_107 : decode cX5_marry 107 = .ok (.iadd, 1) := by decide +kernel
theorem dX5_marry_108 : decode cX5_marry 108 = .ok (.invokestatic 176, 3) := by decide +kernel
theorem dX5_marry_111 : decode cX5_marry 111 = .ok (.istore 6, 2) := by decide +kernel
theorem dX5_marry_113 : decode cX5_marry 113 = .ok (.iinc 7 1, 3) := by decide +kernel
theorem dX5_marry_116 : decode cX5_marry 116 = .ok (.goto (-55), 3) := by decide +kernel
theorem dX5_marry_119 : decode cX5_marry 119 = .ok (.aload_n 0, 1) := by decide +kernel
theorem dX5_marry_120 : decode cX5_marry 120 = .ok (.getfield 22, 3) := by decide +kernel
theorem dX5_marry_123 : decode cX5_marry 123 = .ok (.iload 4, 2) := by decide +kernel
theorem dX5_marry_125 : decode cX5_marry 125 = .ok (.iload 6, 2) := by decide +kernel
theorem dX5_marry_127 : decode cX5_marry 127 = .ok (.invokevirtual 79, 3) := by decide +kernel
theorem dX5_marry_130 : decode cX5_marry 130 = .ok (.iinc 4 1, 3) := by decide +kernel
theorem dX5_marry_133 : decode cX5_marry 133 = .ok (.goto (-109), 3) := by decide +kernel
theorem dX5_marry_136 : decode cX5_marry 136 = .ok (.iload_n 2, 1) := by decide +kernel
theorem dX5_marry_137 : decode cX5_marry 137 = .ok (.iconst (-1), 1) := by decide +kernel
theorem dX5_marry_138 : decode cX5_marry 138 = .ok (.if_icmp .ne 16, 3) := by decide +kernel
theorem dX5_marry_141 : decode cX5_marry 141 = .ok (.aload_n 0, 1) := by decide +kernel
theorem dX5_marry_142 : decode cX5_marry 142 = .ok (.getfield 22, 3) := by decide +kernel
theorem dX5_marry_145 : decode cX5_marry 145 = .ok (.iload_n 3, 1) := by decide +kernel
theorem dX5_marry_146 : decode cX5_marry 146 = .ok (.iconst 1, 1) := by decide +kernel
theorem dX5_marry_147 : decode cX5_marry 147 = .ok (.isub, 1) := by decide +kernel
theorem dX5_marry_148 : decode cX5_marry 148 = .ok (.invokevirtual 83, 3) := by decide +kernel
theorem dX5_marry_151 : decode cX5_marry 151 = .ok (.goto 9, 3) := by decide +kernel
theorem dX5_marry_154 : decode cX5_marry 154 = .ok (.aload_n 0, 1) := by decide +kernel
theorem dX5_marry_155 : decode cX5_marry 155 = .ok (.aload_n 1, 1) := by decide +kernel
theorem dX5_marry_156 : decode cX5_marry 156 = .ok (.iload_n 2, 1) := by decide +kernel
theorem dX5_marry_157 : decode cX5_marry 157 = .ok (.invokevirtual 181, 3) := by decide +kernel
theorem dX5_marry_160 : decode cX5_marry 160 = .ok (.ireturn, 1) := by decide +kernel
theorem dX0_treatOne_0 : decode cX0_treatOne 0 = .ok (.aload_n 0, 1) := by decide +kernel
theorem dX0_treatOne_1 : decode cX0_treatOne 1 = .ok (.getfield 9, 3) := by decide +kernel
theorem dX0_treatOne_4 : decode cX0_treatOne 4 = .ok (.aload_n 1, 1) := by decide +kernel
theorem dX0_treatOne_5 : decode cX0_treatOne 5 = .ok (.iload_n 2, 1) := by decide +kernel
theorem dX0_treatOne_6 : decode cX0_treatOne 6 = .ok (.iload_n 3, 1) := by decide +kernel
theorem dX0_treatOne_7 : decode cX0_treatOne 7 = .ok (.invokevirtual 15, 3) := by decide +kernel
theorem dX0_treatOne_10 : decode cX0_treatOne 10 = .ok (.aload_n 0, 1) := by decide +kernel
theorem dX0_treatOne_11 : decode cX0_treatOne 11 = .ok (.getfield 9, 3) := by decide +kernel
theorem dX0_treatOne_14 : decode cX0_treatOne 14 = .ok (.aload_n 1, 1) := by decide +kernel
theorem dX0_treatOne_15 : decode cX0_treatOne 15 = .ok (.getfield 21, 3) := by decide +kernel
theorem dX0_treatOne_18 : decode cX0_treatOne 18 = .ok (.invokevirtual 27, 3) := by decide +kernel
theorem dX0_treatOne_21 : decode cX0_treatOne 21 = .ok (.istore 5, 2) := by decide +kernel
theorem dX0_treatOne_23 : decode cX0_treatOne 23 = .ok (.iconst 0, 1) := by decide +kernel
theorem dX0_treatOne_24 : decode cX0_treatOne 24 = .ok (.istore 6, 2) := by decide +kernel
theorem dX0_treatOne_26 : decode cX0_treatOne 26 = .ok (.iload 6, 2) := by decide +kernel
theorem dX0_treatOne_28 : decode cX0_treatOne 28 = .ok (.aload_n 1, 1) := by decide +kernel
theorem dX0_treatOne_29 : decode cX0_treatOne 29 = .ok (.getfield 31, 3) := by decide +kernel
theorem dX0_treatOne_32 : decode cX0_treatOne 32 = .ok (.if_icmp .ge 30, 3) := by decide +kernel
theorem dX0_treatOne_35 : decode cX0_treatOne 35 = .ok (.iload 4, 2) := by decide +kernel
theorem dX0_treatOne_37 : decode cX0_treatOne 37 = .ok (.ifCond .ne 9, 3) := by decide +kernel
theorem dX0_treatOne_40 : decode cX0_treatOne 40 = .ok (.iload 6, 2) := by decide +kernel
theorem dX0_treatOne_42 : decode cX0_treatOne 42 = .ok (.iload_n 3, 1) := by decide +kernel
theorem dX0_treatOne_43 : decode cX0_treatOne 43 = .ok (.if_icmp .ne 13, 3) := by decide +kernel
theorem dX0_treatOne_46 : decode cX0_treatOne 46 = .ok (.aload_n 0, 1) := by decide +kernel
theorem dX0_treatOne_47 : decode cX0_treatOne 47 = .ok (.getfield 9, 3) := by decide +kernel
theorem dX0_treatOne_50 : decode cX0_treatOne 50 = .ok (.aload_n 1, 1) := by decide +kernel
theorem dX0_treatOne_51 : decode cX0_treatOne 51 = .ok (.iload 6, 2) := by decide +kernel
theorem dX0_treatOne_53 : decode cX0_treatOne 53 = .ok (.invokevirtual 34, 3) := by decide +kernel
theorem dX0_treatOne_56 : decode cX0_treatOne 56 = .ok (.iinc 6 1, 3) := by decide +kernel
theorem dX0_treatOne_59 : decode cX0_treatOne 59 = .ok (.goto (-33), 3) := by decide +kernel
theorem dX0_treatOne_62 : decode cX0_treatOne 62 = .ok (.aload_n 1, 1) := by decide +kernel
theorem dX0_treatOne_63 : decode cX0_treatOne 63 = .ok (.iload 4, 2) := by decide +kernel
theorem dX0_treatOne_65 : decode cX0_treatOne 65 = .ok (.ifCond .eq 7, 3) := by decide +kernel
theorem dX0_treatOne_68 : decode cX0_treatOne 68 = .ok (.iconst 1, 1) := by decide +kernel
theorem dX0_treatOne_69 : decode cX0_treatOne 69 = .ok (.goto 4, 3) := by decide +kernel
theorem dX0_treatOne_72 : decode cX0_treatOne 72 = .ok (.iconst 0, 1) := by decide +kernel
theorem dX0_treatOne_73 : decode cX0_treatOne 73 = .ok (.iload_n 2, 1) := by decide +kernel
theorem dX0_treatOne_74 : decode cX0_treatOne 74 = .ok (.iload_n 3, 1) := by decide +kernel
theorem dX0_treatOne_75 : decode cX0_treatOne 75 = .ok (.iload 5, 2) := by decide +kernel
theorem dX0_treatOne_77 : decode cX0_treatOne 77 = .ok (.aload_n 0, 1) := by decide +kernel
theorem dX0_treatOne_78 : decode cX0_treatOne 78 = .ok (.getfield 9, 3) := by decide +kernel
theorem dX0_treatOne_81 : decode cX0_treatOne 81 = .ok (.aload_n 1, 1) := by decide +kernel
theorem dX0_treatOne_82 : decode cX0_treatOne 82 = .ok (.aload_n 1, 1) := by decide +kernel
theorem dX0_treatOne_83 : decode cX0_treatOne 83 = .ok (.getfield 38, 3) := by decide +kernel
theorem dX0_treatOne_86 : decode cX0_treatOne 86 = .ok (.invokevirtual 42, 3) := by decide +kernel
theorem dX0_treatOne_89 : decode cX0_treatOne 89 = .ok (.invokevirtual 46, 3) := by decide +kernel
theorem dX0_treatOne_92 : decode cX0_treatOne 92 = .ok (.iload 5, 2) := by decide +kernel
theorem dX0_treatOne_94 : decode cX0_treatOne 94 = .ok (.ireturn, 1) := by decide +kernel
theorem dX0_turnTo_0 : decode cX0_turnTo 0 = .ok (.aload_n 0, 1) := by decide +kernel
theorem dX0_turnTo_1 : decode cX0_turnTo 1 = .ok (.getfield 9, 3) := by decide +kernel
theorem dX0_turnTo_4 : decode cX0_turnTo 4 = .ok (.aload_n 1, 1) := by decide +kernel
theorem dX0_turnTo_5 : decode cX0_turnTo 5 = .ok (.iload_n 2, 1) := by decide +kernel
theorem dX0_turnTo_6 : decode cX0_turnTo 6 = .ok (.iload_n 3, 1) := by decide +kernel
theorem dX0_turnTo_7 : decode cX0_turnTo 7 = .ok (.invokevirtual 50, 3) := by decide +kernel
theorem dX0_turnTo_10 : decode cX0_turnTo 10 = .ok (.aload_n 1, 1) := by decide +kernel
theorem dX0_turnTo_11 : decode cX0_turnTo 11 = .ok (.aload_n 1, 1) := by decide +kernel
theorem dX0_turnTo_12 : decode cX0_turnTo 12 = .ok (.getfield 21, 3) := by decide +kernel
theorem dX0_turnTo_15 : decode cX0_turnTo 15 = .ok (.iload_n 3, 1) := by decide +kernel
theorem dX0_turnTo_16 : decode cX0_turnTo 16 = .ok (.invokevirtual 53, 3) := by decide +kernel
theorem dX0_turnTo_19 : decode cX0_turnTo 19 = .ok (.istore 4, 2) := by decide +kernel
theorem dX0_turnTo_21 : decode cX0_turnTo 21 = .ok (.aload_n 1, 1) := by decide +kernel
theorem dX0_turnTo_22 : decode cX0_turnTo 22 = .ok (.iconst 2, 1) := by decide +kernel
theorem dX0_turnTo_23 : decode cX0_turnTo 23 = .ok (.iload_n 2, 1) := by decide +kernel
theorem dX0_turnTo_24 : decode cX0_turnTo 24 = .ok (.iload_n 3, 1) := by decide +kernel
theorem dX0_turnTo_25 : decode cX0_turnTo 25 = .ok (.iload 4, 2) := by decide +kernel
theorem dX0_turnTo_27 : decode cX0_turnTo 27 = .ok (.aload_n 0, 1) := by decide +kernel
theorem dX0_turnTo_28 : decode cX0_turnTo 28 = .ok (.getfield 9, 3) := by decide +kernel
theorem dX0_turnTo_31 : decode cX0_turnTo 31 = .ok (.aload_n 1, 1) := by decide +kernel
theorem dX0_turnTo_32 : decode cX0_turnTo 32 = .ok (.aload_n 1, 1) := by decide +kernel
theorem dX0_turnTo_33 : decode cX0_turnTo 33 = .ok (.getfield 38, 3) := by decide +kernel
theorem dX0_turnTo_36 : decode cX0_turnTo 36 = .ok (.invokevirtual 42, 3) := by decide +kernel
theorem dX0_turnTo_39 : decode cX0_turnTo 39 = .ok (.invokevirtual 46, 3) := by decide +kernel
theorem dX0_turnTo_42 : decode cX0_turnTo 42 = .ok (.iload 4, 2) := by decide +kernel
theorem dX0_turnTo_44 : decode cX0_turnTo 44 = .ok (.ireturn, 1) := by decide +kernel
theorem dX0_heardByAll_0 : decode cX0_heardByAll 0 = .ok (.aload_n 0, 1) := by decide +kernel
theorem dX0_heardByAll_1 : decode cX0_heardByAll 1 = .ok (.getfield 9, 3) := by decide +kernel
theorem dX0_heardByAll_4 : decode cX0_heardByAll 4 = .ok (.aload_n 1, 1) := by decide +kernel
theorem dX0_heardByAll_5 : decode cX0_heardByAll 5 = .ok (.aload_n 1, 1) := by decide +kernel
theorem dX0_heardByAll_6 : decode cX0_heardByAll 6 = .ok (.getfield 38, 3) := by decide +kernel
theorem dX0_heardByAll_9 : decode cX0_heardByAll 9 = .ok (.invokevirtual 97, 3) := by decide +kernel
theorem dX0_heardByAll_12 : decode cX0_heardByAll 12 = .ok (.pop, 1) := by decide +kernel
theorem dX0_heardByAll_13 : decode cX0_heardByAll 13 = .ok (.aload_n 0, 1) := by decide +kernel
theorem dX0_heardByAll_14 : decode cX0_heardByAll 14 = .ok (.getfield 9, 3) := by decide +kernel
theorem dX0_heardByAll_17 : decode cX0_heardByAll 17 = .ok (.aload_n 1, 1) := by decide +kernel
theorem dX0_heardByAll_18 : decode cX0_heardByAll 18 = .ok (.getfield 21, 3) := by decide +kernel
theorem dX0_heardByAll_21 : decode cX0_heardByAll 21 = .ok (.invokevirtual 101, 3) := by decide +kernel
theorem dX0_heardByAll_24 : decode cX0_heardByAll 24 = .ok (.ireturn, 1) := by decide +kernel
theorem dX0_askOne_0 : decode cX0_askOne 0 = .ok (.aload_n 0, 1) := by decide +kernel
theorem dX0_askOne_1 : decode cX0_askOne 1 = .ok (.getfield 9, 3) := by decide +kernel
theorem dX0_askOne_4 : decode cX0_askOne 4 = .ok (.aload_n 1, 1) := by decide +kernel
theorem dX0_askOne_5 : decode cX0_askOne 5 = .ok (.iload_n 2, 1) := by decide +kernel
theorem dX0_askOne_6 : decode cX0_askOne 6 = .ok (.invokevirtual 57, 3) := by decide +kernel
theorem dX0_askOne_9 : decode cX0_askOne 9 = .ok (.aload_n 0, 1) := by decide +kernel
theorem dX0_askOne_10 : decode cX0_askOne 10 = .ok (.aload_n 1, 1) := by decide +kernel
theorem dX0_askOne_11 : decode cX0_askOne 11 = .ok (.invokevirtual 60, 3) := by decide +kernel
theorem dX0_askOne_14 : decode cX0_askOne 14 = .ok (.istore_n 3, 1) := by decide +kernel
theorem dX0_askOne_15 : decode cX0_askOne 15 = .ok (.aload_n 1, 1) := by decide +kernel
theorem dX0_askOne_16 : decode cX0_askOne 16 = .ok (.iconst 3, 1) := by decide +kernel
theorem dX0_askOne_17 : decode cX0_askOne 17 = .ok (.iload_n 2, 1) := by decide +kernel
theorem dX0_askOne_18 : decode cX0_askOne 18 = .ok (.iconst (-1), 1) := by decide +kernel
theorem dX0_askOne_19 : decode cX0_askOne 19 = .ok (.iload_n 3, 1) := by decide +kernel
theorem dX0_askOne_20 : decode cX0_askOne 20 = .ok (.aload_n 0, 1) := by decide +kernel
theorem dX0_askOne_21 : decode cX0_askOne 21 = .ok (.getfield 9, 3) := by decide +kernel
theorem dX0_askOne_24 : decode cX0_askOne 24 = .ok (.aload_n 1, 1) := by decide +kernel
theorem dX0_askOne_25 : decode cX0_askOne 25 = .ok (.aload_n 1, 1) := by decide +kernel
theorem dX0_askOne_26 : decode cX0_askOne 26 = .ok (.getfield 38, 3) := by decide +kernel
theorem dX0_askOne_29 : decode cX0_askOne 29 = .ok (.invokevirtual 42, 3) := by decide +kernel
theorem dX0_askOne_32 : decode cX0_askOne 32 = .ok (.invokevirtual 46, 3) := by decide +kernel
theorem dX0_askOne_35 : decode cX0_askOne 35 = .ok (.iload_n 3, 1) := by decide +kernel
theorem dX0_askOne_36 : decode cX0_askOne 36 = .ok (.iconst 1, 1) := by decide +kernel
theorem dX0_askOne_37 : decode cX0_askOne 37 = .ok (.if_icmp .ne 7, 3) := by decide +kernel
theorem dX0_askOne_40 : decode cX0_askOne 40 = .ok (.iconst 1, 1) := by decide +kernel
theorem dX0_askOne_41 : decode cX0_askOne 41 = .ok (.goto 4, 3) := by decide +kernel
theorem dX0_askOne_44 : decode cX0_askOne 44 = .ok (.iconst 0, 1) := by decide +kernel
theorem dX0_askOne_45 : decode cX0_askOne 45 = .ok (.ireturn, 1) := by decide +kernel
theorem dX0_askAll_0 : decode cX0_askAll 0 = .ok (.aload_n 0, 1) := by decide +kernel
theorem dX0_askAll_1 : decode cX0_askAll 1 = .ok (.getfield 9, 3) := by decide +kernel
theorem dX0_askAll_4 : decode cX0_askAll 4 = .ok (.aload_n 1, 1) := by decide +kernel
theorem dX0_askAll_5 : decode cX0_askAll 5 = .ok (.aload_n 1, 1) := by decide +kernel
theorem dX0_askAll_6 : decode cX0_askAll 6 = .ok (.getfield 38, 3) := by decide +kernel
theorem dX0_askAll_9 : decode cX0_askAll 9 = .ok (.invokevirtual 64, 3) := by decide +kernel
theorem dX0_askAll_12 : decode cX0_askAll 12 = .ok (.aload_n 0, 1) := by decide +kernel
theorem dX0_askAll_13 : decode cX0_askAll 13 = .ok (.aload_n 1, 1) := by decide +kernel
theorem dX0_askAll_14 : decode cX0_askAll 14 = .ok (.invokevirtual 60, 3) := by decide +kernel
theorem dX0_askAll_17 : decode cX0_askAll 17 = .ok (.istore_n 2, 1) := by decide +kernel
theorem dX0_askAll_18 : decode cX0_askAll 18 = .ok (.aload_n 1, 1) := by decide +kernel
theorem dX0_askAll_19 : decode cX0_askAll 19 = .ok (.dup, 1) := by decide +kernel
theorem dX0_askAll_20 : decode cX0_askAll 20 = .ok (.getfield 68, 3) := by decide +kernel
theorem dX0_askAll_23 : decode cX0_askAll 23 = .ok (.iconst 1, 1) := by decide +kernel
theorem dX0_askAll_24 : decode cX0_askAll 24 = .ok (.iadd, 1) := by decide +kernel
theorem dX0_askAll_25 : decode cX0_askAll 25 = .ok (.putfield 68, 3) := by decide +kernel
theorem dX0_askAll_28 : decode cX0_askAll 28 = .ok (.aload_n 1, 1) := by decide +kernel
theorem dX0_askAll_29 : decode cX0_askAll 29 = .ok (.iconst 4, 1) := by decide +kernel
theorem dX0_askAll_30 : decode cX0_askAll 30 = .ok (.iconst (-1), 1) := by decide +kernel
theorem dX0_askAll_31 : decode cX0_askAll 31 = .ok (.iconst (-1), 1) := by decide +kernel
theorem dX0_askAll_32 : decode cX0_askAll 32 = .ok (.iload_n 2, 1) := by decide +kernel
theorem dX0_askAll_33 : decode cX0_askAll 33 = .ok (.aload_n 0, 1) := by decide +kernel
theorem dX0_askAll_34 : decode cX0_askAll 34 = .ok (.getfield 9, 3) := by decide +kernel
theorem dX0_askAll_37 : decode cX0_askAll 37 = .ok (.aload_n 1, 1) := by decide +kernel
theorem dX0_askAll_38 : decode cX0_askAll 38 = .ok (.aload_n 1, 1) := by decide +kernel
theorem dX0_askAll_39 : decode cX0_askAll 39 = .ok (.getfield 38, 3) := by decide +kernel
theorem dX0_askAll_42 : decode cX0_askAll 42 = .ok (.invokevirtual 42, 3) := by decide +kernel
theorem dX0_askAll_45 : decode cX0_askAll 45 = .ok (.invokevirtual 46, 3) := by decide +kernel
theorem dX0_askAll_48 : decode cX0_askAll 48 = .ok (.iload_n 2, 1) := by decide +kernel
theorem dX0_askAll_49 : decode cX0_askAll 49 = .ok (.ireturn, 1) := by decide +kernel
theorem dX0_readOut_0 : decode cX0_readOut 0 = .ok (.aload_n 0, 1) := by decide +kernel
theorem dX0_readOut_1 : decode cX0_readOut 1 = .ok (.getfield 9, 3) := by decide +kernel
theorem dX0_readOut_4 : decode cX0_readOut 4 = .ok (.aload_n 1, 1) := by decide +kernel
theorem dX0_readOut_5 : decode cX0_readOut 5 = .ok (.iload_n 2, 1) := by decide +kernel
theorem dX0_readOut_6 : decode cX0_readOut 6 = .ok (.invokevirtual 71, 3) := by decide +kernel
theorem dX0_readOut_9 : decode cX0_readOut 9 = .ok (.aload_n 0, 1) := by decide +kernel
theorem dX0_readOut_10 : decode cX0_readOut 10 = .ok (.aload_n 1, 1) := by decide +kernel
theorem dX0_readOut_11 : decode cX0_readOut 11 = .ok (.invokevirtual 60, 3) := by decide +kernel
theorem dX0_readOut_14 : decode cX0_readOut 14 = .ok (.istore_n 3, 1) := by decide +kernel
theorem dX0_readOut_15 : decode cX0_readOut 15 = .ok (.aload_n 1, 1) := by decide +kernel
theorem dX0_readOut_16 : decode cX0_readOut 16 = .ok (.iconst 5, 1) := by decide +kernel
theorem dX0_readOut_17 : decode cX0_readOut 17 = .ok (.iload_n 2, 1) := by decide +kernel
theorem dX0_readOut_18 : decode cX0_readOut 18 = .ok (.iconst (-1), 1) := by decide +kernel
theorem dX0_readOut_19 : decode cX0_readOut 19 = .ok (.iload_n 3, 1) := by decide +kernel
theorem dX0_readOut_20 : decode cX0_readOut 20 = .ok (.aload_n 0, 1) := by decide +kernel
theorem dX0_readOut_21 : decode cX0_readOut 21 = .ok (.getfield 9, 3) := by decide +kernel
theorem dX0_readOut_24 : decode cX0_readOut 24 = .ok (.aload_n 1, 1) := by decide +kernel
theorem dX0_readOut_25 : decode cX0_readOut 25 = .ok (.aload_n 1, 1) := by decide +kernel
theorem dX0_readOut_26 : decode cX0_readOut 26 = .ok (.getfield 38, 3) := by decide +kernel
theorem dX0_readOut_29 : decode cX0_readOut 29 = .ok (.invokevirtual 42, 3) := by decide +kernel
theorem dX0_readOut_32 : decode cX0_readOut 32 = .ok (.invokevirtual 46, 3) := by decide +kernel
theorem dX0_readOut_35 : decode cX0_readOut 35 = .ok (.iload_n 3, 1) := by decide +kernel
theorem dX0_readOut_36 : decode cX0_readOut 36 = .ok (.ireturn, 1) := by decide +kernel
theorem dX0_claimMany_0 : decode cX0_claimMany 0 = .ok (.aload_n 0, 1) := by decide +kernel
theorem dX0_claimMany_1 : decode cX0_claimMany 1 = .ok (.getfield 9, 3) := by decide +kernel
theorem dX0_claimMany_4 : decode cX0_claimMany 4 = .ok (.aload_n 1, 1) := by decide +kernel
theorem dX0_claimMany_5 : decode cX0_claimMany 5 = .ok (.iload_n 2, 1) := by decide +kernel
theorem dX0_claimMany_6 : decode cX0_claimMany 6 = .ok (.iload_n 3, 1) := by decide +kernel
theorem dX0_claimMany_7 : decode cX0_claimMany 7 = .ok (.iconst 1, 1) := by decide +kernel
theorem dX0_claimMany_8 : decode cX0_claimMany 8 = .ok (.invokevirtual 74, 3) := by decide +kernel
theorem dX0_claimMany_11 : decode cX0_claimMany 11 = .ok (.aload_n 0, 1) := by decide +kernel
theorem dX0_claimMany_12 : decode cX0_claimMany 12 = .ok (.aload_n 1, 1) := by decide +kernel
theorem dX0_claimMany_13 : decode cX0_claimMany 13 = .ok (.invokevirtual 60, 3) := by decide +kernel
theorem dX0_claimMany_16 : decode cX0_claimMany 16 = .ok (.pop, 1) := by decide +kernel
theorem dX0_claimMany_17 : decode cX0_claimMany 17 = .ok (.aload_n 1, 1) := by decide +kernel
theorem dX0_claimMany_18 : decode cX0_claimMany 18 = .ok (.bipush 6, 2) := by decide +kernel
theorem dX0_claimMany_20 : decode cX0_claimMany 20 = .ok (.iload_n 3, 1) := by decide +kernel
theorem dX0_claimMany_21 : decode cX0_claimMany 21 = .ok (.iconst (-1), 1) := by decide +kernel
theorem dX0_claimMany_22 : decode cX0_claimMany 22 = .ok (.iload_n 2, 1) := by decide +kernel
theorem dX0_claimMany_23 : decode cX0_claimMany 23 = .ok (.aload_n 0, 1) := by decide +kernel
theorem dX0_claimMany_24 : decode cX0_claimMany 24 = .ok (.getfield 9, 3) := by decide +kernel
theorem dX0_claimMany_27 : decode cX0_claimMany 27 = .ok (.aload_n 1, 1) := by decide +kernel
theorem dX0_claimMany_28 : decode cX0_claimMany 28 = .ok (.aload_n 1, 1) := by decide +kernel
theorem dX0_claimMany_29 : decode cX0_claimMany 29 = .ok (.getfield 38, 3) := by decide +kernel
theorem dX0_claimMany_32 : decode cX0_claimMany 32 = .ok (.invokevirtual 42, 3) := by decide +kernel
theorem dX0_claimMany_35 : decode cX0_claimMany 35 = .ok (.invokevirtual 46, 3) := by decide +kernel
theorem dX0_claimMany_38 : decode cX0_claimMany 38 = .ok (.aload_n 1, 1) := by decide +kernel
theorem dX0_claimMany_39 : decode cX0_claimMany 39 = .ok (.aload_n 1, 1) := by decide +kernel
theorem dX0_claimMany_40 : decode cX0_claimMany 40 = .ok (.getfield 21, 3) := by decide +kernel
theorem dX0_claimMany_43 : decode cX0_claimMany 43 = .ok (.iload_n 3, 1) := by decide +kernel
theorem dX0_claimMany_44 : decode cX0_claimMany 44 = .ok (.invokevirtual 78, 3) := by decide +kernel
theorem dX0_claimMany_47 : decode cX0_claimMany 47 = .ok (.ireturn, 1) := by decide +kernel
theorem dX0_queryOne_0 : decode cX0_queryOne 0 = .ok (.aload_n 0, 1) := by decide +kernel
theorem dX0_queryOne_1 : decode cX0_queryOne 1 = .ok (.getfield 9, 3) := by decide +kernel
theorem dX0_queryOne_4 : decode cX0_queryOne 4 = .ok (.aload_n 1, 1) := by decide +kernel
theorem dX0_queryOne_5 : decode cX0_queryOne 5 = .ok (.aload_n 1, 1) := by decide +kernel
theorem dX0_queryOne_6 : decode cX0_queryOne 6 = .ok (.getfield 38, 3) := by decide +kernel
theorem dX0_queryOne_9 : decode cX0_queryOne 9 = .ok (.iload_n 2, 1) := by decide +kernel
theorem dX0_queryOne_10 : decode cX0_queryOne 10 = .ok (.iload_n 3, 1) := by decide +kernel
theorem dX0_queryOne_11 : decode cX0_queryOne 11 = .ok (.iload 4, 2) := by decide +kernel
theorem dX0_queryOne_13 : decode cX0_queryOne 13 = .ok (.invokevirtual 81, 3) := by decide +kernel
theorem dX0_queryOne_16 : decode cX0_queryOne 16 = .ok (.aload_n 0, 1) := by decide +kernel
theorem dX0_queryOne_17 : decode cX0_queryOne 17 = .ok (.aload_n 1, 1) := by decide +kernel
theorem dX0_queryOne_18 : decode cX0_queryOne 18 = .ok (.invokevirtual 60, 3) := by decide +kernel
theorem dX0_queryOne_21 : decode cX0_queryOne 21 = .ok (.istore 5, 2) := by decide +kernel
theorem dX0_queryOne_23 : decode cX0_queryOne 23 = .ok (.aload_n 1, 1) := by decide +kernel
theorem dX0_queryOne_24 : decode cX0_queryOne 24 = .ok (.bipush 7, 2) := by decide +kernel
theorem dX0_queryOne_26 : decode cX0_queryOne 26 = .ok (.iload_n 2, 1) := by decide +kernel
theorem dX0_queryOne_27 : decode cX0_queryOne 27 = .ok (.iload_n 3, 1) := by decide +kernel
theorem dX0_queryOne_28 : decode cX0_queryOne 28 = .ok (.iload 5, 2) := by decide +kernel
theorem dX0_queryOne_30 : decode cX0_queryOne 30 = .ok (.aload_n 0, 1) := by decide +kernel
theorem dX0_queryOne_31 : decode cX0_queryOne 31 = .ok (.getfield 9, 3) := by decide +kernel
theorem dX0_queryOne_34 : decode cX0_queryOne 34 = .ok (.aload_n 1, 1) := by decide +kernel
theorem dX0_queryOne_35 : decode cX0_queryOne 35 = .ok (.aload_n 1, 1) := by decide +kernel
theorem dX0_queryOne_36 : decode cX0_queryOne 36 = .ok (.getfield 38, 3) := by decide +kernel
theorem dX0_queryOne_39 : decode cX0_queryOne 39 = .ok (.invokevirtual 42, 3) := by decide +kernel
theorem dX0_queryOne_42 : decode cX0_queryOne 42 = .ok (.invokevirtual 46, 3) := by decide +kernel
theorem dX0_queryOne_45 : decode cX0_queryOne 45 = .ok (.iload 5, 2) := by decide +kernel
theorem dX0_queryOne_47 : decode cX0_queryOne 47 = .ok (.ireturn, 1) := by decide +kernel
theorem dX0_strollBy_0 : decode cX0_strollBy 0 = .ok (.aload_n 1, 1) := by decide +kernel
theorem dX0_strollBy_1 : decode cX0_strollBy 1 = .ok (.getfield 31, 3) := by decide +kernel
theorem dX0_strollBy_4 : decode cX0_strollBy 4 = .ok (.iconst 1, 1) := by decide +kernel
theorem dX0_strollBy_5 : decode cX0_strollBy 5 = .ok (.if_icmp .ge 5, 3) := by decide +kernel
theorem dX0_strollBy_8 : decode cX0_strollBy 8 = .ok (.iconst 0, 1) := by decide +kernel
theorem dX0_strollBy_9 : decode cX0_strollBy 9 = .ok (.ireturn, 1) := by decide +kernel
theorem dX0_strollBy_10 : decode cX0_strollBy 10 = .ok (.iconst 0, 1) := by decide +kernel
theorem dX0_strollBy_11 : decode cX0_strollBy 11 = .ok (.istore_n 3, 1) := by decide +kernel
theorem dX0_strollBy_12 : decode cX0_strollBy 12 = .ok (.iconst 0, 1) := by decide +kernel
theorem dX0_strollBy_13 : decode cX0_strollBy 13 = .ok (.istore 4, 2) := by decide +kernel
theorem dX0_strollBy_15 : decode cX0_strollBy 15 = .ok (.iload 4, 2) := by decide +kernel
theorem dX0_strollBy_17 : decode cX0_strollBy 17 = .ok (.iload_n 2, 1) := by decide +kernel
theorem dX0_strollBy_18 : decode cX0_strollBy 18 = .ok (.if_icmp .ge 63, 3) := by decide +kernel
theorem dX0_strollBy_21 : decode cX0_strollBy 21 = .ok (.aload_n 1, 1) := by decide +kernel
theorem dX0_strollBy_22 : decode cX0_strollBy 22 = .ok (.invokevirtual 85, 3) := by decide +kernel
theorem dX0_strollBy_25 : decode cX0_strollBy 25 = .ok (.aload_n 1, 1) := by decide +kernel
theorem dX0_strollBy_26 : decode cX0_strollBy 26 = .ok (.getfield 31, 3) := by decide +kernel
theorem dX0_strollBy_29 : decode cX0_strollBy 29 = .ok (.irem, 1) := by decide +kernel
theorem dX0_strollBy_30 : decode cX0_strollBy 30 = .ok (.istore 5, 2) := by decide +kernel
theorem dX0_strollBy_32 : decode cX0_strollBy 32 = .ok (.aload_n 1, 1) := by decide +kernel
theorem dX0_strollBy_33 : decode cX0_strollBy 33 = .ok (.invokevirtual 85, 3) := by decide +kernel
theorem dX0_strollBy_36 : decode cX0_strollBy 36 = .ok (.aload_n 1, 1) := by decide +kernel
theorem dX0_strollBy_37 : decode cX0_strollBy 37 = .ok (.getfield 31, 3) := by decide +kernel
theorem dX0_strollBy_40 : decode cX0_strollBy 40 = .ok (.irem, 1) := by decide +kernel
theorem dX0_strollBy_41 : decode cX0_strollBy 41 = .ok (.istore 6, 2) := by decide +kernel
theorem dX0_strollBy_43 : decode cX0_strollBy 43 = .ok (.iload 5, 2) := by decide +kernel
theorem dX0_strollBy_45 : decode cX0_strollBy 45 = .ok (.iload 6, 2) := by decide +kernel
theorem dX0_strollBy_47 : decode cX0_strollBy 47 = .ok (.if_icmp .eq 28, 3) := by decide +kernel
theorem dX0_strollBy_50 : decode cX0_strollBy 50 = .ok (.aload_n 1, 1) := by decide +kernel
theorem dX0_strollBy_51 : decode cX0_strollBy 51 = .ok (.iload 5, 2) := by decide +kernel
theorem dX0_strollBy_53 : decode cX0_strollBy 53 = .ok (.iload 6, 2) := by decide +kernel
theorem dX0_strollBy_55 : decode cX0_strollBy 55 = .ok (.invokevirtual 89, 3) := by decide +kernel
theorem dX0_strollBy_58 : decode cX0_strollBy 58 = .ok (.ifCond .eq 17, 3) := by decide +kernel
theorem dX0_strollBy_61 : decode cX0_strollBy 61 = .ok (.aload_n 0, 1) := by decide +kernel
theorem dX0_strollBy_62 : decode cX0_strollBy 62 = .ok (.aload_n 1, 1) := by decide +kernel
theorem dX0_strollBy_63 : decode cX0_strollBy 63 = .ok (.iload 5, 2) := by decide +kernel
theorem dX0_strollBy_65 : decode cX0_strollBy 65 = .ok (.iload 6, 2) := by decide +kernel
theorem dX0_strollBy_67 : decode cX0_strollBy 67 = .ok (.iconst 0, 1) := by decide +kernel
theorem dX0_strollBy_68 : decode cX0_strollBy 68 = .ok (.invokevirtual 93, 3) := by decide +kernel
theorem dX0_strollBy_71 : decode cX0_strollBy 71 = .ok (.pop, 1) := by decide +kernel
theorem dX0_strollBy_72 : decode cX0_strollBy 72 = .ok (.iinc 3 1, 3) := by decide +kernel
theorem dX0_strollBy_75 : decode cX0_strollBy 75 = .ok (.iinc 4 1, 3) := by decide +kernel
theorem dX0_strollBy_78 : decode cX0_strollBy 78 = .ok (.goto (-63), 3) := by decide +kernel
theorem dX0_strollBy_81 : decode cX0_strollBy 81 = .ok (.iload_n 3, 1) := by decide +kernel
theorem dX0_strollBy_82 : decode cX0_strollBy 82 = .ok (.ireturn, 1) := by decide +kernel
theorem dX10_feed_0 : decode cX10_feed 0 = .ok (.aload_n 0, 1) := by decide +kernel
theorem dX10_feed_1 : decode cX10_feed 1 = .ok (.getfield 10, 3) := by decide +kernel
theorem dX10_feed_4 : decode cX10_feed 4 = .ok (.bipush 20, 2) := by decide +kernel
theorem dX10_feed_6 : decode cX10_feed 6 = .ok (.invokevirtual 71, 3) := by decide +kernel
theorem dX10_feed_9 : decode cX10_feed 9 = .ok (.ifCond .ne 5, 3) := by decide +kernel
theorem dX10_feed_12 : decode cX10_feed 12 = .ok (.iconst (-1), 1) := by decide +kernel
theorem dX10_feed_13 : decode cX10_feed 13 = .ok (.ireturn, 1) := by decide +kernel
theorem dX10_feed_14 : decode cX10_feed 14 = .ok (.aload_n 0, 1) := by decide +kernel
theorem dX10_feed_15 : decode cX10_feed 15 = .ok (.getfield 10, 3) := by decide +kernel
theorem dX10_feed_18 : decode cX10_feed 18 = .ok (.iload_n 1, 1) := by decide +kernel
theorem dX10_feed_19 : decode cX10_feed 19 = .ok (.invokevirtual 75, 3) := by decide +kernel
theorem dX10_feed_22 : decode cX10_feed 22 = .ok (.aload_n 0, 1) := by decide +kernel
theorem dX10_feed_23 : decode cX10_feed 23 = .ok (.getfield 10, 3) := by decide +kernel
theorem dX10_feed_26 : decode cX10_feed 26 = .ok (.iload_n 2, 1) := by decide +kernel
theorem dX10_feed_27 : decode cX10_feed 27 = .ok (.invokevirtual 75, 3) := by decide +kernel
theorem dX10_feed_30 : decode cX10_feed 30 = .ok (.aload_n 0, 1) := by decide +kernel
theorem dX10_feed_31 : decode cX10_feed 31 = .ok (.getfield 10, 3) := by decide +kernel
theorem dX10_feed_34 : decode cX10_feed 34 = .ok (.iload_n 3, 1) := by decide +kernel
theorem dX10_feed_35 : decode cX10_feed 35 = .ok (.invokevirtual 75, 3) := by decide +kernel
theorem dX10_feed_38 : decode cX10_feed 38 = .ok (.aload_n 0, 1) := by decide +kernel
theorem dX10_feed_39 : decode cX10_feed 39 = .ok (.getfield 10, 3) := by decide +kernel
theorem dX10_feed_42 : decode cX10_feed 42 = .ok (.iload 4, 2) := by decide +kernel
theorem dX10_feed_44 : decode cX10_feed 44 = .ok (.invokevirtual 75, 3) := by decide +kernel
theorem dX10_feed_47 : decode cX10_feed 47 = .ok (.aload_n 0, 1) := by decide +kernel
theorem dX10_feed_48 : decode cX10_feed 48 = .ok (.getfield 10, 3) := by decide +kernel
theorem dX10_feed_51 : decode cX10_feed 51 = .ok (.iload 5, 2) := by decide +kernel
theorem dX10_feed_53 : decode cX10_feed 53 = .ok (.invokevirtual 75, 3) := by decide +kernel
theorem dX10_feed_56 : decode cX10_feed 56 = .ok (.aload_n 0, 1) := by decide +kernel
theorem dX10_feed_57 : decode cX10_feed 57 = .ok (.getfield 10, 3) := by decide +kernel
theorem dX10_feed_60 : decode cX10_feed 60 = .ok (.invokevirtual 79, 3) := by decide +kernel
theorem dX10_feed_63 : decode cX10_feed 63 = .ok (.ireturn, 1) := by decide +kernel
theorem dX10_end_0 : decode cX10_end 0 = .ok (.aload_n 0, 1) := by decide +kernel
theorem dX10_end_1 : decode cX10_end 1 = .ok (.getfield 10, 3) := by decide +kernel
theorem dX10_end_4 : decode cX10_end 4 = .ok (.iload_n 1, 1) := by decide +kernel
theorem dX10_end_5 : decode cX10_end 5 = .ok (.invokevirtual 83, 3) := by decide +kernel
theorem dX10_end_8 : decode cX10_end 8 = .ok (.ireturn, 1) := by decide +kernel
theorem dX8_byteAt_0 : decode cX8_byteAt 0 = .ok (.aload_n 0, 1) := by decide +kernel
theorem dX8_byteAt_1 : decode cX8_byteAt 1 = .ok (.getfield 44, 3) := by decide +kernel
theorem dX8_byteAt_4 : decode cX8_byteAt 4 = .ok (.ifnonnull 7, 3) := by decide +kernel
theorem dX8_byteAt_7 : decode cX8_byteAt 7 = .ok (.iconst 0, 1) := by decide +kernel
theorem dX8_byteAt_8 : decode cX8_byteAt 8 = .ok (.goto 11, 3) := by decide +kernel
theorem dX8_byteAt_11 : decode cX8_byteAt 11 = .ok (.aload_n 0, 1) := by decide +kernel
theorem dX8_byteAt_12 : decode cX8_byteAt 12 = .ok (.getfield 44, 3) := by decide +kernel
theorem dX8_byteAt_15 : decode cX8_byteAt 15 = .ok (.iload_n 1, 1) := by decide +kernel
theorem dX8_byteAt_16 : decode cX8_byteAt 16 = .ok (.invokevirtual 143, 3) := by decide +kernel
theorem dX8_byteAt_19 : decode cX8_byteAt 19 = .ok (.ireturn, 1) := by decide +kernel
theorem dX8_isLetter_0 : decode cX8_isLetter 0 = .ok (.iload_n 0, 1) := by decide +kernel
theorem dX8_isLetter_1 : decode cX8_isLetter 1 = .ok (.bipush 97, 2) := by decide +kernel
theorem dX8_isLetter_3 : decode cX8_isLetter 3 = .ok (.if_icmp .lt 13, 3) := by decide +kernel
theorem dX8_isLetter_6 : decode cX8_isLetter 6 = .ok (.iload_n 0, 1) := by decide +kernel
theorem dX8_isLetter_7 : decode cX8_isLetter 7 = .ok (.bipush 122, 2) := by decide +kernel
theorem dX8_isLetter_9 : decode cX8_isLetter 9 = .ok (.if_icmp .gt 7, 3) := by decide +kernel
theorem dX8_isLetter_12 : decode cX8_isLetter 12 = .ok (.iconst 1, 1) := by decide +kernel
theorem dX8_isLetter_13 : decode cX8_isLetter 13 = .ok (.goto 4, 3) := by decide +kernel
theorem dX8_isLetter_16 : decode cX8_isLetter 16 = .ok (.iconst 0, 1) := by decide +kernel
theorem dX8_isLetter_17 : decode cX8_isLetter 17 = .ok (.ireturn, 1) := by decide +kernel
theorem dX8_isDigit_0 : decode cX8_isDigit 0 = .ok (.iload_n 0, 1) := by decide +kernel
theorem dX8_isDigit_1 : decode cX8_isDigit 1 = .ok (.bipush 48, 2) := by decide +kernel
theorem dX8_isDigit_3 : decode cX8_isDigit 3 = .ok (.if_icmp .lt 13, 3) := by decide +kernel
theorem dX8_isDigit_6 : decode cX8_isDigit 6 = .ok (.iload_n 0, 1) := by decide +kernel
theorem dX8_isDigit_7 : decode cX8_isDigit 7 = .ok (.bipush 57, 2) := by decide +kernel
theorem dX8_isDigit_9 : decode cX8_isDigit 9 = .ok (.if_icmp .gt 7, 3) := by decide +kernel
theorem dX8_isDigit_12 : decode cX8_isDigit 12 = .ok (.iconst 1, 1) := by decide +kernel
theorem dX8_isDigit_13 : decode cX8_isDigit 13 = .ok (.goto 4, 3) := by decide +kernel
theorem dX8_isDigit_16 : decode cX8_isDigit 16 = .ok (.iconst 0, 1) := by decide +kernel
theorem dX8_isDigit_17 : decode cX8_isDigit 17 = .ok (.ireturn, 1) := by decide +kernel
theorem dX8_endOfThing_0 : decode cX8_endOfThing 0 = .ok (.iload_n 1, 1) := by decide +kernel
theorem dX8_endOfThing_1 : decode cX8_endOfThing 1 = .ok (.iconst 1, 1) := by decide +kernel
theorem dX8_endOfThing_2 : decode cX8_endOfThing 2 = .ok (.iadd, 1) := by decide +kernel
theorem dX8_endOfThing_3 : decode cX8_endOfThing 3 = .ok (.istore_n 2, 1) := by decide +kernel
theorem dX8_endOfThing_4 : decode cX8_endOfThing 4 = .ok (.aload_n 0, 1) := by decide +kernel
theorem dX8_endOfThing_5 : decode cX8_endOfThing 5 = .ok (.iload_n 1, 1) := by decide +kernel
theorem dX8_endOfThing_6 : decode cX8_endOfThing 6 = .ok (.invokevirtual 58, 3) := by decide +kernel
theorem dX8_endOfThing_9 : decode cX8_endOfThing 9 = .ok (.invokestatic 77, 3) := by decide +kernel
theorem dX8_endOfThing_12 : decode cX8_endOfThing 12 = .ok (.ifCond .eq 28, 3) := by decide +kernel
theorem dX8_endOfThing_15 : decode cX8_endOfThing 15 = .ok (.iload_n 2, 1) := by decide +kernel
theorem dX8_endOfThing_16 : decode cX8_endOfThing 16 = .ok (.aload_n 0, 1) := by decide +kernel
theorem dX8_endOfThing_17 : decode cX8_endOfThing 17 = .ok (.getfield 48, 3) := by decide +kernel
theorem dX8_endOfThing_20 : decode cX8_endOfThing 20 = .ok (.if_icmp .ge 56, 3) := by decide +kernel
theorem dX8_endOfThing_23 : decode cX8_endOfThing 23 = .ok (.aload_n 0, 1) := by decide +kernel
theorem dX8_endOfThing_24 : decode cX8_endOfThing 24 = .ok (.iload_n 2, 1) := by decide +kernel
theorem dX8_endOfThing_25 : decode cX8_endOfThing 25 = .ok (.invokevirtual 58, 3) := by decide +kernel
theorem dX8_endOfThing_28 : decode cX8_endOfThing 28 = .ok (.invokestatic 77, 3) := by decide +kernel
theorem dX8_endOfThing_31 : decode cX8_endOfThing 31 = .ok (.ifCond .eq 45, 3) := by decide +kernel
theorem dX8_endOfThing_34 : decode cX8_endOfThing 34 = .ok (.iinc 2 1, 3) := by decide +kernel
theorem dX8_endOfThing_37 : decode cX8_endOfThing 37 = .ok (.goto (-22), 3) := by decide +kernel
theorem dX8_endOfThing_40 : decode cX8_endOfThing 40 = .ok (.aload_n 0, 1) := by decide +kernel
theorem dX8_endOfThing_41 : decode cX8_endOfThing 41 = .ok (.iload_n 1, 1) := by decide +kernel
theorem dX8_endOfThing_42 : decode cX8_endOfThing 42 = .ok (.invokevirtual 58, 3) := by decide +kernel
theorem dX8_endOfThing_45 : decode cX8_endOfThing 45 = .ok (.invokestatic 80, 3) := by decide +kernel
theorem dX8_endOfThing_48 : decode cX8_endOfThing 48 = .ok (.ifCond .eq 28, 3) := by decide +kernel
theorem dX8_endOfThing_51 : decode cX8_endOfThing 51 = .ok (.iload_n 2, 1) := by decide +kernel
theorem dX8_endOfThing_52 : decode cX8_endOfThing 52 = .ok (.aload_n 0, 1) := by decide +kernel
theorem dX8_endOfThing_53 : decode cX8_endOfThing 53 = .ok (.getfield 48, 3) := by decide +kernel
theorem dX8_endOfThing_56 : decode cX8_endOfThing 56 = .ok (.if_icmp .ge 20, 3) := by decide +kernel
theorem dX8_endOfThing_59 : decode cX8_endOfThing 59 = .ok (.aload_n 0, 1) := by decide +kernel
theorem dX8_endOfThing_60 : decode cX8_endOfThing 60 = .ok (.iload_n 2, 1) := by decide +kernel
theorem dX8_endOfThing_61 : decode cX8_endOfThing 61 = .ok (.invokevirtual 58, 3) := by decide +kernel
theorem dX8_endOfThing_64 : decode cX8_endOfThing 64 = .ok (.invokestatic 80, 3) := by decide +kernel
theorem dX8_endOfThing_67 : decode cX8_endOfThing 67 = .ok (.ifCond .eq 9, 3) := by decide +kernel
theorem dX8_endOfThing_70 : decode cX8_endOfThing 70 = .ok (.iinc 2 1, 3) := by decide +kernel
theorem dX8_endOfThing_73 : decode cX8_endOfThing 73 = .ok (.goto (-22), 3) := by decide +kernel
theorem dX8_endOfThing_76 : decode cX8_endOfThing 76 = .ok (.iload_n 2, 1) := by decide +kernel
theorem dX8_endOfThing_77 : decode cX8_endOfThing 77 = .ok (.ireturn, 1) := by decide +kernel
theorem dX8_isWord_0 : decode cX8_isWord 0 = .ok (.iload_n 2, 1) := by decide +kernel
theorem dX8_isWord_1 : decode cX8_isWord 1 = .ok (.iload_n 1, 1) := by decide +kernel
theorem dX8_isWord_2 : decode cX8_isWord 2 = .ok (.isub, 1) := by decide +kernel
theorem dX8_isWord_3 : decode cX8_isWord 3 = .ok (.aload_n 3, 1) := by decide +kernel
theorem dX8_isWord_4 : decode cX8_isWord 4 = .ok (.invokevirtual 134, 3) := by decide +kernel
theorem dX8_isWord_7 : decode cX8_isWord 7 = .ok (.if_icmp .eq 5, 3) := by decide +kernel
theorem dX8_isWord_10 : decode cX8_isWord 10 = .ok (.iconst 0, 1) := by decide +kernel
theorem dX8_isWord_11 : decode cX8_isWord 11 = .ok (.ireturn, 1) := by decide +kernel
theorem dX8_isWord_12 : decode cX8_isWord 12 = .ok (.iconst 0, 1) := by decide +kernel
theorem dX8_isWord_13 : decode cX8_isWord 13 = .ok (.istore 4, 2) := by decide +kernel
theorem dX8_isWord_15 : decode cX8_isWord 15 = .ok (.iload 4, 2) := by decide +kernel
theorem dX8_isWord_17 : decode cX8_isWord 17 = .ok (.aload_n 3, 1) := by decide +kernel
theorem dX8_isWord_18 : decode cX8_isWord 18 = .ok (.invokevirtual 134, 3) := by decide +kernel
theorem dX8_isWord_21 : decode cX8_isWord 21 = .ok (.if_icmp .ge 28, 3) := by decide +kernel
theorem dX8_isWord_24 : decode cX8_isWord 24 = .ok (.aload_n 0, 1) := by decide +kernel
theorem dX8_isWord_25 : decode cX8_isWord 25 = .ok (.iload_n 1, 1) := by decide +kernel
theorem dX8_isWord_26 : decode cX8_isWord 26 = .ok (.iload 4, 2) := by decide +kernel
theorem dX8_isWord_28 : decode cX8_isWord 28 = .ok (.iadd, 1) := by decide +kernel
theorem dX8_isWord_29 : decode cX8_isWord 29 = .ok (.invokevirtual 58, 3) := by decide +kernel
theorem dX8_isWord_32 : decode cX8_isWord 32 = .ok (.aload_n 3, 1) := by decide +kernel
theorem dX8_isWord_33 : decode cX8_isWord 33 = .ok (.iload 4, 2) := by decide +kernel
theorem dX8_isWord_35 : decode cX8_isWord 35 = .ok (.invokevirtual 139, 3) := by decide +kernel
theorem dX8_isWord_38 : decode cX8_isWord 38 = .ok (.if_icmp .eq 5, 3) := by decide +kernel
theorem dX8_isWord_41 : decode cX8_isWord 41 = .ok (.iconst 0, 1) := by decide +kernel
theorem dX8_isWord_42 : decode cX8_isWord 42 = .ok (.ireturn, 1) := by decide +kernel
theorem dX8_isWord_43 : decode cX8_isWord 43 = .ok (.iinc 4 1, 3) := by decide +kernel
theorem dX8_isWord_46 : decode cX8_isWord 46 = .ok (.goto (-31), 3) := by decide +kernel
theorem dX8_isWord_49 : decode cX8_isWord 49 = .ok (.iconst 1, 1) := by decide +kernel
theorem dX8_isWord_50 : decode cX8_isWord 50 = .ok (.ireturn, 1) := by decide +kernel
theorem dX8_kindOfWord_0 : decode cX8_kindOfWord 0 = .ok (.aload_n 0, 1) := by decide +kernel
theorem dX8_kindOfWord_1 : decode cX8_kindOfWord 1 = .ok (.iload_n 1, 1) := by decide +kernel
theorem dX8_kindOfWord_2 : decode cX8_kindOfWord 2 = .ok (.iload_n 2, 1) := by decide +kernel
theorem dX8_kindOfWord_3 : decode cX8_kindOfWord 3 = .ok (.ldc 92, 2) := by decide +kernel
theorem dX8_kindOfWord_5 : decode cX8_kindOfWord 5 = .ok (.invokevirtual 94, 3) := by decide +kernel
theorem dX8_kindOfWord_8 : decode cX8_kindOfWord 8 = .ok (.ifCond .eq 7, 3) := by decide +kernel
theorem dX8_kindOfWord_11 : decode cX8_kindOfWord 11 = .ok (.sipush 301, 3) := by decide +kernel
theorem dX8_kindOfWord_14 : decode cX8_kindOfWord 14 = .ok (.ireturn, 1) := by decide +kernel
theorem dX8_kindOfWord_15 : decode cX8_kindOfWord 15 = .ok (.aload_n 0, 1) := by decide +kernel
theorem dX8_kindOfWord_16 : decode cX8_kindOfWord 16 = .ok (.iload_n 1, 1) := by decide +kernel
theorem dX8_kindOfWord_17 : decode cX8_kindOfWord 17 = .ok (.iload_n 2, 1) := by decide +kernel
theorem dX8_kindOfWord_18 : decode cX8_kindOfWord 18 = .ok (.ldc 98, 2) := by decide +kernel
theorem dX8_kindOfWord_20 : decode cX8_kindOfWord 20 = .ok (.invokevirtual 94, 3) := by decide +kernel
theorem dX8_kindOfWord_23 : decode cX8_kindOfWord 23 = .ok (.ifCond .eq 7, 3) := by decide +kernel
theorem dX8_kindOfWord_26 : decode cX8_kindOfWord 26 = .ok (.sipush 302, 3) := by decide +kernel
theorem dX8_kindOfWord_29 : decode cX8_kindOfWord 29 = .ok (.ireturn, 1) := by decide +kernel
theorem dX8_kindOfWord_30 : decode cX8_kindOfWord 30 = .ok (.aload_n 0, 1) := by decide +kernel
theorem dX8_kindOfWord_31 : decode cX8_kindOfWord 31 = .ok (.iload_n 1, 1) := by decide +kernel
theorem dX8_kindOfWord_32 : decode cX8_kindOfWord 32 = .ok (.iload_n 2, 1) := by decide +kernel
theorem dX8_kindOfWord_33 : decode cX8_kindOfWord 33 = .ok (.ldc 100, 2) := by decide +kernel
theorem dX8_kindOfWord_35 : decode cX8_kindOfWord 35 = .ok (.invokevirtual 94, 3) := by decide +kernel
theorem dX8_kindOfWord_38 : decode cX8_kindOfWord 38 = .ok (.ifCond .eq 7, 3) := by decide +kernel
theorem dX8_kindOfWord_41 : decode cX8_kindOfWord 41 = .ok (.sipush 303, 3) := by decide +kernel
theorem dX8_kindOfWord_44 : decode cX8_kindOfWord 44 = .ok (.ireturn, 1) := by decide +kernel
theorem dX8_kindOfWord_45 : decode cX8_kindOfWord 45 = .ok (.aload_n 0, 1) := by decide +kernel
theorem dX8_kindOfWord_46 : decode cX8_kindOfWord 46 = .ok (.iload_n 1, 1) := by decide +kernel
theorem dX8_kindOfWord_47 : decode cX8_kindOfWord 47 = .ok (.iload_n 2, 1) := by decide +kernel
theorem dX8_kindOfWord_48 : decode cX8_kindOfWord 48 = .ok (.ldc 102, 2) := by decide +kernel
theorem dX8_kindOfWord_50 : decode cX8_kindOfWord 50 = .ok (.invokevirtual 94, 3) := by decide +kernel
theorem dX8_kindOfWord_53 : decode cX8_kindOfWord 53 = .ok (.ifCond .eq 7, 3) := by decide +kernel
theorem dX8_kindOfWord_56 : decode cX8_kindOfWord 56 = .ok (.sipush 304, 3) := by decide +kernel
theorem dX8_kindOfWord_59 : decode cX8_kindOfWord 59 = .ok (.ireturn, 1) := by decide +kernel
theorem dX8_kindOfWord_60 : decode cX8_kindOfWord 60 = .ok (.aload_n 0, 1) := by decide +kernel
theorem dX8_kindOfWord_61 : decode cX8_kindOfWord 61 = .ok (.iload_n 1, 1) := by decide +kernel
theorem dX8_kindOfWord_62 : decode cX8_kindOfWord 62 = .ok (.iload_n 2, 1) := by decide +kernel
theorem dX8_kindOfWord_63 : decode cX8_kindOfWord 63 = .ok (.ldc 104, 2) := by decide +kernel
theorem dX8_kindOfWord_65 : decode cX8_kindOfWord 65 = .ok (.invokevirtual 94, 3) := by decide +kernel
theorem dX8_kindOfWord_68 : decode cX8_kindOfWord 68 = .ok (.ifCond .eq 7, 3) := by decide +kernel
theorem dX8_kindOfWord_71 : decode cX8_kindOfWord 71 = .ok (.sipush 305, 3) := by decide +kernel
theorem dX8_kindOfWord_74 : decode cX8_kindOfWord 74 = .ok (.ireturn, 1) := by decide +kernel
theorem dX8_kindOfWord_75 : decode cX8_kindOfWord 75 = .ok (.aload_n 0, 1) := by decide +kernel
theorem dX8_kindOfWord_76 : decode cX8_kindOfWord 76 = .ok (.iload_n 1, 1) := by decide +kernel
theorem dX8_kindOfWord_77 : decode cX8_kindOfWord 77 = .ok (.iload_n 2, 1) := by decide +kernel
theorem dX8_kindOfWord_78 : decode cX8_kindOfWord 78 = .ok (.ldc 106, 2) := by decide +kernel
theorem dX8_kindOfWord_80 : decode cX8_kindOfWord 80 = .ok (.invokevirtual 94, 3) := by decide +kernel
theorem dX8_kindOfWord_83 : decode cX8_kindOfWord 83 = .ok (.ifCond .eq 7, 3) := by decide +kernel
theorem dX8_kindOfWord_86 : decode cX8_kindOfWord 86 = .ok (.sipush 306, 3) := by decide +kernel
theorem dX8_kindOfWord_89 : decode cX8_kindOfWord 89 = .ok (.ireturn, 1) := by decide +kernel
theorem dX8_kindOfWord_90 : decode cX8_kindOfWord 90 = .ok (.aload_n 0, 1) := by decide +kernel
theorem dX8_kindOfWord_91 : decode cX8_kindOfWord 91 = .ok (.iload_n 1, 1) := by decide +kernel
theorem dX8_kindOfWord_92 : decode cX8_kindOfWord 92 = .ok (.iload_n 2, 1) := by decide +kernel
theorem dX8_kindOfWord_93 : decode cX8_kindOfWord 93 = .ok (.ldc 108, 2) := by decide +kernel
theorem dX8_kindOfWord_95 : decode cX8_kindOfWord 95 = .ok (.invokevirtual 94, 3) := by decide +kernel
theorem dX8_kindOfWord_98 : decode cX8_kindOfWord 98 = .ok (.ifCond .eq 7, 3) := by decide +kernel
theorem dX8_kindOfWord_101 : decode cX8_kindOfWord 101 = .ok (.sipush 307, 3) := by decide +kernel
theorem dX8_kindOfWord_104 : decode cX8_kindOfWord 104 = .ok (.ireturn, 1) := by decide +kernel
theorem dX8_kindOfWord_105 : decode cX8_kindOfWord 105 = .ok (.aload_n 0, 1) := by decide +kernel
theorem dX8_kindOfWord_106 : decode cX8_kindOfWord 106 = .ok (.iload_n 1, 1) := by decide +kernel
theorem dX8_kindOfWord_107 : decode cX8_kindOfWord 107 = .ok (.iload_n 2, 1) := by decide +kernel
theorem dX8_kindOfWord_108 : decode cX8_kindOfWord 108 = .ok (.ldc 110, 2) := by decide +kernel
theorem dX8_kindOfWord_110 : decode cX8_kindOfWord 110 = .ok (.invokevirtual 94, 3) := by decide +kernel
theorem dX8_kindOfWord_113 : decode cX8_kindOfWord 113 = .ok (.ifCond .eq 7, 3) := by decide +kernel
theorem dX8_kindOfWord_116 : decode cX8_kindOfWord 116 = .ok (.sipush 308, 3) := by decide +kernel
theorem dX8_kindOfWord_119 : decode cX8_kindOfWord 119 = .ok (.ireturn, 1) := by decide +kernel
theorem dX8_kindOfWord_120 : decode cX8_kindOfWord 120 = .ok (.aload_n 0, 1) := by decide +kernel
theorem dX8_kindOfWord_121 : decode cX8_kindOfWord 121 = .ok (.iload_n 1, 1) := by decide +kernel
theorem dX8_kindOfWord_122 : decode cX8_kindOfWord 122 = .ok (.iload_n 2, 1) := by decide +kernel
theorem dX8_kindOfWord_123 : decode cX8_kindOfWord 123 = .ok (.ldc 112, 2) := by decide +kernel
theorem dX8_kindOfWord_125 : decode cX8_kindOfWord 125 = .ok (.invokevirtual 94, 3) := by decide +kernel
theorem dX8_kindOfWord_128 : decode cX8_kindOfWord 128 = .ok (.ifCond .eq 7, 3) := by decide +kernel
theorem dX8_kindOfWord_131 : decode cX8_kindOfWord 131 = .ok (.sipush 309, 3) := by decide +kernel
theorem dX8_kindOfWord_134 : decode cX8_kindOfWord 134 = .ok (.ireturn, 1) := by decide +kernel
theorem dX8_kindOfWord_135 : decode cX8_kindOfWord 135 = .ok (.aload_n 0, 1) := by decide +kernel
theorem dX8_kindOfWord_136 : decode cX8_kindOfWord 136 = .ok (.iload_n 1, 1) := by decide +kernel
theorem dX8_kindOfWord_137 : decode cX8_kindOfWord 137 = .ok (.iload_n 2, 1) := by decide +kernel
theorem dX8_kindOfWord_138 : decode cX8_kindOfWord 138 = .ok (.ldc 114, 2) := by decide +kernel
theorem dX8_kindOfWord_140 : decode cX8_kindOfWord 140 = .ok (.invokevirtual 94, 3) := by decide +kernel
theorem dX8_kindOfWord_143 : decode cX8_kindOfWord 143 = .ok (.ifCond .eq 7, 3) := by decide +kernel
theorem dX8_kindOfWord_146 : decode cX8_kindOfWord 146 = .ok (.sipush 310, 3) := by decide +kernel
theorem dX8_kindOfWord_149 : decode cX8_kindOfWord 149 = .ok (.ireturn, 1) := by decide +kernel
theorem dX8_kindOfWord_150 : decode cX8_kindOfWord 150 = .ok (.aload_n 0, 1) := by decide +kernel
theorem dX8_kindOfWord_151 : decode cX8_kindOfWord 151 = .ok (.iload_n 1, 1) := by decide +kernel
theorem dX8_kindOfWord_152 : decode cX8_kindOfWord 152 = .ok (.iload_n 2, 1) := by decide +kernel
theorem dX8_kindOfWord_153 : decode cX8_kindOfWord 153 = .ok (.ldc 116, 2) := by decide +kernel
theorem dX8_kindOfWord_155 : decode cX8_kindOfWord 155 = .ok (.invokevirtual 94, 3) := by decide +kernel
theorem dX8_kindOfWord_158 : decode cX8_kindOfWord 158 = .ok (.ifCond .eq 7, 3) := by decide +kernel
theorem dX8_kindOfWord_161 : decode cX8_kindOfWord 161 = .ok (.sipush 311, 3) := by decide +kernel
theorem dX8_kindOfWord_164 : decode cX8_kindOfWord 164 = .ok (.ireturn, 1) := by decide +kernel
theorem dX8_kindOfWord_165 : decode cX8_kindOfWord 165 = .ok (.aload_n 0, 1) := by decide +kernel
theorem dX8_kindOfWord_166 : decode cX8_kindOfWord 166 = .ok (.iload_n 1, 1) := by decide +kernel
theorem dX8_kindOfWord_167 : decode cX8_kindOfWord 167 = .ok (.iload_n 2, 1) := by decide +kernel
theorem dX8_kindOfWord_168 : decode cX8_kindOfWord 168 = .ok (.ldc 118, 2) := by decide +kernel
theorem dX8_kindOfWord_170 : decode cX8_kindOfWord 170 = .ok (.invokevirtual 94, 3) := by decide +kernel
theorem dX8_kindOfWord_173 : decode cX8_kindOfWord 173 = .ok (.ifCond .eq 7, 3) := by decide +kernel
theorem dX8_kindOfWord_176 : decode cX8_kindOfWord 176 = .ok (.sipush 312, 3) := by decide +kernel
theorem dX8_kindOfWord_179 : decode cX8_kindOfWord 179 = .ok (.ireturn, 1) := by decide +kernel
theorem dX8_kindOfWord_180 : decode cX8_kindOfWord 180 = .ok (.aload_n 0, 1) := by decide +kernel
theorem dX8_kindOfWord_181 : decode cX8_kindOfWord 181 = .ok (.iload_n 1, 1) := by decide +kernel
theorem dX8_kindOfWord_182 : decode cX8_kindOfWord 182 = .ok (.iload_n 2, 1) := by decide +kernel
theorem dX8_kindOfWord_183 : decode cX8_kindOfWord 183 = .ok (.ldc 120, 2) := by decide +kernel
theorem dX8_kindOfWord_185 : decode cX8_kindOfWord 185 = .ok (.invokevirtual 94, 3) := by decide +kernel
theorem dX8_kindOfWord_188 : decode cX8_kindOfWord 188 = .ok (.ifCond .eq 7, 3) := by decide +kernel
theorem dX8_kindOfWord_191 : decode cX8_kindOfWord 191 = .ok (.sipush 313, 3) := by decide +kernel
theorem dX8_kindOfWord_194 : decode cX8_kindOfWord 194 = .ok (.ireturn, 1) := by decide +kernel
theorem dX8_kindOfWord_195 : decode cX8_kindOfWord 195 = .ok (.aload_n 0, 1) := by decide +kernel
theorem dX8_kindOfWord_196 : decode cX8_kindOfWord 196 = .ok (.iload_n 1, 1) := by decide +kernel
theorem dX8_kindOfWord_197 : decode cX8_kindOfWord 197 = .ok (.iload_n 2, 1) := by decide +kernel
theorem dX8_kindOfWord_198 : decode cX8_kindOfWord 198 = .ok (.ldc 122, 2) := by decide +kernel
theorem dX8_kindOfWord_200 : decode cX8_kindOfWord 200 = .ok (.invokevirtual 94, 3) := by decide +kernel
theorem dX8_kindOfWord_203 : decode cX8_kindOfWord 203 = .ok (.ifCond .eq 7, 3) := by decide +kernel
theorem dX8_kindOfWord_206 : decode cX8_kindOfWord 206 = .ok (.sipush 314, 3) := by decide +kernel
theorem dX8_kindOfWord_209 : decode cX8_kindOfWord 209 = .ok (.ireturn, 1) := by decide +kernel
theorem dX8_kindOfWord_210 : decode cX8_kindOfWord 210 = .ok (.aload_n 0, 1) := by decide +kernel
theorem dX8_kindOfWord_211 : decode cX8_kindOfWord 211 = .ok (.iload_n 1, 1) := by decide +kernel
theorem dX8_kindOfWord_212 : decode cX8_kindOfWord 212 = .ok (.iload_n 2, 1) := by decide +kernel
theorem dX8_kindOfWord_213 : decode cX8_kindOfWord 213 = .ok (.ldc 124, 2) := by decide +kernel
theorem dX8_kindOfWord_215 : decode cX8_kindOfWord 215 = .ok (.invokevirtual 94, 3) := by decide +kernel
theorem dX8_kindOfWord_218 : decode cX8_kindOfWord 218 = .ok (.ifCond .eq 7, 3) := by decide +kernel
theorem dX8_kindOfWord_221 : decode cX8_kindOfWord 221 = .ok (.sipush 315, 3) := by decide +kernel
theorem dX8_kindOfWord_224 : decode cX8_kindOfWord 224 = .ok (.ireturn, 1) := by decide +kernel
theorem dX8_kindOfWord_225 : decode cX8_kindOfWord 225 = .ok (.aload_n 0, 1) := by decide +kernel
theorem dX8_kindOfWord_226 : decode cX8_kindOfWord 226 = .ok (.iload_n 1, 1) := by decide +kernel
theorem dX8_kindOfWord_227 : decode cX8_kindOfWord 227 = .ok (.iload_n 2, 1) := by decide +kernel
theorem dX8_kindOfWord_228 : decode cX8_kindOfWord 228 = .ok (.ldc 126, 2) := by decide +kernel
theorem dX8_kindOfWord_230 : decode cX8_kindOfWord 230 = .ok (.invokevirtual 94, 3) := by decide +kernel
theorem dX8_kindOfWord_233 : decode cX8_kindOfWord 233 = .ok (.ifCond .eq 7, 3) := by decide +kernel
theorem dX8_kindOfWord_236 : decode cX8_kindOfWord 236 = .ok (.sipush 316, 3) := by decide +kernel
theorem dX8_kindOfWord_239 : decode cX8_kindOfWord 239 = .ok (.ireturn, 1) := by decide +kernel
theorem dX8_kindOfWord_240 : decode cX8_kindOfWord 240 = .ok (.aload_n 0, 1) := by decide +kernel
theorem dX8_kindOfWord_241 : decode cX8_kindOfWord 241 = .ok (.iload_n 1, 1) := by decide +kernel
theorem dX8_kindOfWord_242 : decode cX8_kindOfWord 242 = .ok (.iload_n 2, 1) := by decide +kernel
theorem dX8_kindOfWord_243 : decode cX8_kindOfWord 243 = .ok (.ldc 128, 2) := by decide +kernel
theorem dX8_kindOfWord_245 : decode cX8_kindOfWord 245 = .ok (.invokevirtual 94, 3) := by decide +kernel
theorem dX8_kindOfWord_248 : decode cX8_kindOfWord 248 = .ok (.ifCond .eq 7, 3) := by decide +kernel
theorem dX8_kindOfWord_251 : decode cX8_kindOfWord 251 = .ok (.sipush 317, 3) := by decide +kernel
theorem dX8_kindOfWord_254 : decode cX8_kindOfWord 254 = .ok (.ireturn, 1) := by decide +kernel
theorem dX8_kindOfWord_255 : decode cX8_kindOfWord 255 = .ok (.aload_n 0, 1) := by decide +kernel
theorem dX8_kindOfWord_256 : decode cX8_kindOfWord 256 = .ok (.iload_n 1, 1) := by decide +kernel
theorem dX8_kindOfWord_257 : decode cX8_kindOfWord 257 = .ok (.iload_n 2, 1) := by decide +kernel
theorem dX8_kindOfWord_258 : decode cX8_kindOfWord 258 = .ok (.ldc 130, 2) := by decide +kernel
theorem dX8_kindOfWord_260 : decode cX8_kindOfWord 260 = .ok (.invokevirtual 94, 3) := by decide +kernel
theorem dX8_kindOfWord_263 : decode cX8_kindOfWord 263 = .ok (.ifCond .eq 7, 3) := by decide +kernel
theorem dX8_kindOfWord_266 : decode cX8_kindOfWord 266 = .ok (.sipush 318, 3) := by decide +kernel
theorem dX8_kindOfWord_269 : decode cX8_kindOfWord 269 = .ok (.ireturn, 1) := by decide +kernel
theorem dX8_kindOfWord_270 : decode cX8_kindOfWord 270 = .ok (.aload_n 0, 1) := by decide +kernel
theorem dX8_kindOfWord_271 : decode cX8_kindOfWord 271 = .ok (.iload_n 1, 1) := by decide +kernel
theorem dX8_kindOfWord_272 : decode cX8_kindOfWord 272 = .ok (.iload_n 2, 1) := by decide +kernel
theorem dX8_kindOfWord_273 : decode cX8_kindOfWord 273 = .ok (.ldc 132, 2) := by decide +kernel
theorem dX8_kindOfWord_275 : decode cX8_kindOfWord 275 = .ok (.invokevirtual 94, 3) := by decide +kernel
theorem dX8_kindOfWord_278 : decode cX8_kindOfWord 278 = .ok (.ifCond .eq 9, 3) := by decide +kernel
theorem dX8_kindOfWord_281 : decode cX8_kindOfWord 281 = .ok (.sipush 319, 3) := by decide +kernel
theorem dX8_kindOfWord_284 : decode cX8_kindOfWord 284 = .ok (.goto 4, 3) := by decide +kernel
theorem dX8_kindOfWord_287 : decode cX8_kindOfWord 287 = .ok (.iconst 1, 1) := by decide +kernel
theorem dX8_kindOfWord_288 : decode cX8_kindOfWord 288 = .ok (.ireturn, 1) := by decide +kernel
theorem dX8_valueOf_0 : decode cX8_valueOf 0 = .ok (.iconst 0, 1) := by decide +kernel
theorem dX8_valueOf_1 : decode cX8_valueOf 1 = .ok (.istore_n 3, 1) := by decide +kernel
theorem dX8_valueOf_2 : decode cX8_valueOf 2 = .ok (.iload_n 1, 1) := by decide +kernel
theorem dX8_valueOf_3 : decode cX8_valueOf 3 = .ok (.istore 4, 2) := by decide +kernel
theorem dX8_valueOf_5 : decode cX8_valueOf 5 = .ok (.iload 4, 2) := by decide +kernel
theorem dX8_valueOf_7 : decode cX8_valueOf 7 = .ok (.iload_n 2, 1) := by decide +kernel
theorem dX8_valueOf_8 : decode cX8_valueOf 8 = .ok (.if_icmp .ge 24, 3) := by decide +kernel
theorem dX8_valueOf_11 : decode cX8_valueOf 11 = .ok (.iload_n 3, 1) := by decide +kernel
theorem dX8_valueOf_12 : decode cX8_valueOf 12 = .ok (.bipush 10, 2) := by decide +kernel
theorem dX8_valueOf_14 : decode cX8_valueOf 14 = .ok (.imul, 1) := by decide +kernel
theorem dX8_valueOf_15 : decode cX8_valueOf 15 = .ok (.aload_n 0, 1) := by decide +kernel
theorem dX8_valueOf_16 : decode cX8_valueOf 16 = .ok (.iload 4, 2) := by decide +kernel
theorem dX8_valueOf_18 : decode cX8_valueOf 18 = .ok (.invokevirtual 58, 3) := by decide +kernel
theorem dX8_valueOf_21 : decode cX8_valueOf 21 = .ok (.iadd, 1) := by decide +kernel
theorem dX8_valueOf_22 : decode cX8_valueOf 22 = .ok (.bipush 48, 2) := by decide +kernel
theorem dX8_valueOf_24 : decode cX8_valueOf 24 = .ok (.isub, 1) := by decide +kernel
theorem dX8_valueOf_25 : decode cX8_valueOf 25 = .ok (.istore_n 3, 1) := by decide +kernel
theorem dX8_valueOf_26 : decode cX8_valueOf 26 = .ok (.iinc 4 1, 3) := by decide +kernel
theorem dX8_valueOf_29 : decode cX8_valueOf 29 = .ok (.goto (-24), 3) := by decide +kernel
theorem dX8_valueOf_32 : decode cX8_valueOf 32 = .ok (.iload_n 3, 1) := by decide +kernel
theorem dX8_valueOf_33 : decode cX8_valueOf 33 = .ok (.ireturn, 1) := by decide +kernel
theorem dX8_keep_0 : decode cX8_keep 0 = .ok (.aload_n 0, 1) := by decide +kernel
theorem dX8_keep_1 : decode cX8_keep 1 = .ok (.getfield 51, 3) := by decide +kernel
theorem dX8_keep_4 : decode cX8_keep 4 = .ok (.aload_n 0, 1) := by decide +kernel
theorem dX8_keep_5 : decode cX8_keep 5 = .ok (.getfield 11, 3) := by decide +kernel
theorem dX8_keep_8 : decode cX8_keep 8 = .ok (.arraylength, 1) := by decide +kernel
theorem dX8_keep_9 : decode cX8_keep 9 = .ok (.if_icmp .ge 27, 3) := by decide +kernel
theorem dX8_keep_12 : decode cX8_keep 12 = .ok (.aload_n 0, 1) := by decide +kernel
theorem dX8_keep_13 : decode cX8_keep 13 = .ok (.getfield 51, 3) := by decide +kernel
theorem dX8_keep_16 : decode cX8_keep 16 = .ok (.aload_n 0, 1) := by decide +kernel
theorem dX8_keep_17 : decode cX8_keep 17 = .ok (.getfield 17, 3) := by decide +kernel
theorem dX8_keep_20 : decode cX8_keep 20 = .ok (.arraylength, 1) := by decide +kernel
theorem dX8_keep_21 : decode cX8_keep 21 = .ok (.if_icmp .ge 15, 3) := by decide +kernel
theorem dX8_keep_24 : decode cX8_keep 24 = .ok (.aload_n 0, 1) := by decide +kernel
theorem dX8_keep_25 : decode cX8_keep 25 = .ok (.getfield 51, 3) := by decide +kernel
theorem dX8_keep_28 : decode cX8_keep 28 = .ok (.aload_n 0, 1) := by decide +kernel
theorem dX8_keep_29 : decode cX8_keep 29 = .ok (.getfield 20, 3) := by decide +kernel
theorem dX8_keep_32 : decode cX8_keep 32 = .ok (.arraylength, 1) := by decide +kernel
theorem dX8_keep_33 : decode cX8_keep 33 = .ok (.if_icmp .lt 4, 3) := by decide +kernel
theorem dX8_keep_36 : decode cX8_keep 36 = .ok (.return_, 1) := by decide +kernel
theorem dX8_keep_37 : decode cX8_keep 37 = .ok (.aload_n 0, 1) := by decide +kernel
theorem dX8_keep_38 : decode cX8_keep 38 = .ok (.getfield 17, 3) := by decide +kernel
theorem dX8_keep_41 : decode cX8_keep 41 = .ok (.aload_n 0, 1) := by decide +kernel
theorem dX8_keep_42 : decode cX8_keep 42 = .ok (.getfield 51, 3) := by decide +kernel
theorem dX8_keep_45 : decode cX8_keep 45 = .ok (.iload_n 1, 1) := by decide +kernel
theorem dX8_keep_46 : decode cX8_keep 46 = .ok (.iastore, 1) := by decide +kernel
theorem dX8_keep_47 : decode cX8_keep 47 = .ok (.aload_n 0, 1) := by decide +kernel
theorem dX8_keep_48 : decode cX8_keep 48 = .ok (.getfield 20, 3) := by decide +kernel
theorem dX8_keep_51 : decode cX8_keep 51 = .ok (.aload_n 0, 1) := by decide +kernel
theorem dX8_keep_52 : decode cX8_keep 52 = .ok (.getfield 51, 3) := by decide +kernel
theorem dX8_keep_55 : decode cX8_keep 55 = .ok (.iconst 0, 1) := by decide +kernel
theorem dX8_keep_56 : decode cX8_keep 56 = .ok (.iastore, 1) := by decide +kernel
theorem dX8_keep_57 : decode cX8_keep 57 = .ok (.aload_n 0, 1) := by decide +kernel
theorem dX8_keep_58 : decode cX8_keep 58 = .ok (.iload_n 1, 1) := by decide +kernel
theorem dX8_keep_59 : decode cX8_keep 59 = .ok (.invokevirtual 58, 3) := by decide +kernel
theorem dX8_keep_62 : decode cX8_keep 62 = .ok (.invokestatic 77, 3) := by decide +kernel
theorem dX8_keep_65 : decode cX8_keep 65 = .ok (.ifCond .eq 21, 3) := by decide +kernel
theorem dX8_keep_68 : decode cX8_keep 68 = .ok (.aload_n 0, 1) := by decide +kernel
theorem dX8_keep_69 : decode cX8_keep 69 = .ok (.getfield 11, 3) := by decide +kernel
theorem dX8_keep_72 : decode cX8_keep 72 = .ok (.aload_n 0, 1) := by decide +kernel
theorem dX8_keep_73 : decode cX8_keep 73 = .ok (.getfield 51, 3) := by decide +kernel
theorem dX8_keep_76 : decode cX8_keep 76 = .ok (.aload_n 0, 1) := by decide +kernel
theorem dX8_keep_77 : decode cX8_keep 77 = .ok (.iload_n 1, 1) := by decide +kernel
theorem dX8_keep_78 : decode cX8_keep 78 = .ok (.iload_n 2, 1) := by decide +kernel
theorem dX8_keep_79 : decode cX8_keep 79 = .ok (.invokevirtual 83, 3) := by decide +kernel
theorem dX8_keep_82 : decode cX8_keep 82 = .ok (.iastore, 1) := by decide +kernel
theorem dX8_keep_83 : decode cX8_keep 83 = .ok (.goto 87, 3) := by decide +kernel
theorem dX8_keep_86 : decode cX8_keep 86 = .ok (.aload_n 0, 1) := by decide +kernel
theorem dX8_keep_87 : decode cX8_keep 87 = .ok (.iload_n 1, 1) := by decide +kernel
theorem dX8_keep_88 : decode cX8_keep 88 = .ok (.invokevirtual 58, 3) := by decide +kernel
theorem dX8_keep_91 : decode cX8_keep 91 = .ok (.invokestatic 80, 3) := by decide +kernel
theorem dX8_keep_94 : decode cX8_keep 94 = .ok (.ifCond .eq 48, 3) := by decide +kernel
theorem dX8_keep_97 : decode cX8_keep 97 = .ok (.aload_n 0, 1) := by decide +kernel
theorem dX8_keep_98 : decode cX8_keep 98 = .ok (.getfield 11, 3) := by decide +kernel
theorem dX8_keep_101 : decode cX8_keep 101 = .ok (.aload_n 0, 1) := by decide +kernel
theorem dX8_keep_102 : decode cX8_keep 102 = .ok (.getfield 51, 3) := by decide +kernel
theorem dX8_keep_105 : decode cX8_keep 105 = .ok (.iload_n 2, 1) := by decide +kernel
theorem dX8_keep_106 : decode cX8_keep 106 = .ok (.iload_n 1, 1) := by decide +kernel
theorem dX8_keep_107 : decode cX8_keep 107 = .ok (.isub, 1) := by decide +kernel
theorem dX8_keep_108 : decode cX8_keep 108 = .ok (.iconst 3, 1) := by decide +kernel
theorem dX8_keep_109 : decode cX8_keep 109 = .ok (.if_icmp .gt 7, 3) := by decide +kernel
theorem dX8_keep_112 : decode cX8_keep 112 = .ok (.iconst 2, 1) := by decide +kernel
theorem dX8_keep_113 : decode cX8_keep 113 = .ok (.goto 4, 3) := by decide +kernel
theorem dX8_keep_116 : decode cX8_keep 116 = .ok (.iconst 1, 1) := by decide +kernel
theorem dX8_keep_117 : decode cX8_keep 117 = .ok (.iastore, 1) := by decide +kernel
theorem dX8_keep_118 : decode cX8_keep 118 = .ok (.aload_n 0, 1) := by decide +kernel
theorem dX8_keep_119 : decode cX8_keep 119 = .ok (.getfield 20, 3) := by decide +kernel
theorem dX8_keep_122 : decode cX8_keep 122 = .ok (.aload_n 0, 1) := by decide +kernel
theorem dX8_keep_123 : decode cX8_keep 123 = .ok (.getfield 51, 3) := by decide +kernel
theorem dX8_keep_126 : decode cX8_keep 126 = .ok (.aload_n 0, 1) := by decide +kernel
theorem dX8_keep_127 : decode cX8_keep 127 = .ok (.iload_n 1, 1) := by decide +kernel
theorem dX8_keep_128 : decode cX8_keep 128 = .ok (.iload_n 2, 1) := by decide +kernel
theorem dX8_keep_129 : decode cX8_keep 129 = .ok (.iload_n 1, 1) := by decide +kernel
theorem dX8_keep_130 : decode cX8_keep 130 = .ok (.iconst 3, 1) := by decide +kernel
theorem dX8_keep_131 : decode cX8_keep 131 = .ok (.iadd, 1) := by decide +kernel
theorem dX8_keep_132 : decode cX8_keep 132 = .ok (.invokestatic 86, 3) := by decide +kernel
theorem dX8_keep_135 : decode cX8_keep 135 = .ok (.invokevirtual 89, 3) := by decide +kernel
theorem dX8_keep_138 : decode cX8_keep 138 = .ok (.iastore, 1) := by decide +kernel
theorem dX8_keep_139 : decode cX8_keep 139 = .ok (.goto 31, 3) := by decide +kernel
theorem dX8_keep_142 : decode cX8_keep 142 = .ok (.aload_n 0, 1) := by decide +kernel
theorem dX8_keep_143 : decode cX8_keep 143 = .ok (.getfield 11, 3) := by decide +kernel
theorem dX8_keep_146 : decode cX8_keep 146 = .ok (.aload_n 0, 1) := by decide +kernel
theorem dX8_keep_147 : decode cX8_keep 147 = .ok (.getfield 51, 3) := by decide +kernel
theorem dX8_keep_150 : decode cX8_keep 150 = .ok (.aload_n 0, 1) := by decide +kernel
theorem dX8_keep_151 : decode cX8_keep 151 = .ok (.iload_n 1, 1) := by decide +kernel
theorem dX8_keep_152 : decode cX8_keep 152 = .ok (.invokevirtual 58, 3) := by decide +kernel
theorem dX8_keep_155 : decode cX8_keep 155 = .ok (.bipush 32, 2) := by decide +kernel
theorem dX8_keep_157 : decode cX8_keep 157 = .ok (.if_icmp .le 11, 3) := by decide +kernel
theorem dX8_keep_160 : decode cX8_keep 160 = .ok (.aload_n 0, 1) := by decide +kernel
theorem dX8_keep_161 : decode cX8_keep 161 = .ok (.iload_n 1, 1) := by decide +kernel
theorem dX8_keep_162 : decode cX8_keep 162 = .ok (.invokevirtual 58, 3) := by decide +kernel
theorem dX8_keep_165 : decode cX8_keep 165 = .ok (.goto 4, 3) := by decide +kernel
theorem dX8_keep_168 : decode cX8_keep 168 = .ok (.iconst 1, 1) := by decide +kernel
theorem dX8_keep_169 : decode cX8_keep 169 = .ok (.iastore, 1) := by decide +kernel
theorem dX8_keep_170 : decode cX8_keep 170 = .ok (.aload_n 0, 1) := by decide +kernel
theorem dX8_keep_171 : decode cX8_keep 171 = .ok (.dup, 1) := by decide +kernel
theorem dX8_keep_172 : decode cX8_keep 172 = .ok (.getfield 51, 3) := by decide +kernel
theorem dX8_keep_175 : decode cX8_keep 175 = .ok (.iconst 1, 1) := by decide +kernel
theorem dX8_keep_176 : decode cX8_keep 176 = .ok (.iadd, 1) := by decide +kernel
theorem dX8_keep_177 : decode cX8_keep 177 = .ok (.putfield 51, 3) := by decide +kernel
theorem dX8_keep_180 : decode cX8_keep 180 = .ok (.return_, 1) := by decide +kernel
theorem dX8_step_0 : decode cX8_step 0 = .ok (.aload_n 0, 1) := by decide +kernel
theorem dX8_step_1 : decode cX8_step 1 = .ok (.getfield 71, 3) := by decide +kernel
theorem dX8_step_4 : decode cX8_step 4 = .ok (.aload_n 0, 1) := by decide +kernel
theorem dX8_step_5 : decode cX8_step 5 = .ok (.getfield 51, 3) := by decide +kernel
theorem dX8_step_8 : decode cX8_step 8 = .ok (.if_icmp .ge 91, 3) := by decide +kernel
theorem dX8_step_11 : decode cX8_step 11 = .ok (.aload_n 0, 1) := by decide +kernel
theorem dX8_step_12 : decode cX8_step 12 = .ok (.getfield 71, 3) := by decide +kernel
theorem dX8_step_15 : decode cX8_step 15 = .ok (.aload_n 0, 1) := by decide +kernel
theorem dX8_step_16 : decode cX8_step 16 = .ok (.getfield 11, 3) := by decide +kernel
theorem dX8_step_19 : decode cX8_step 19 = .ok (.arraylength, 1) := by decide +kernel
theorem dX8_step_20 : decode cX8_step 20 = .ok (.if_icmp .ge 79, 3) := by decide +kernel
theorem dX8_step_23 : decode cX8_step 23 = .ok (.aload_n 0, 1) := by decide +kernel
theorem dX8_step_24 : decode cX8_step 24 = .ok (.getfield 71, 3) := by decide +kernel
theorem dX8_step_27 : decode cX8_step 27 = .ok (.aload_n 0, 1) := by decide +kernel
theorem dX8_step_28 : decode cX8_step 28 = .ok (.getfield 17, 3) := by decide +kernel
theorem dX8_step_31 : decode cX8_step 31 = .ok (.arraylength, 1) := by decide +kernel
theorem dX8_step_32 : decode cX8_step 32 = .ok (.if_icmp .ge 67, 3) := by decide +kernel
theorem dX8_step_35 : decode cX8_step 35 = .ok (.aload_n 0, 1) := by decide +kernel
theorem dX8_step_36 : decode cX8_step 36 = .ok (.getfield 71, 3) := by decide +kernel
theorem dX8_step_39 : decode cX8_step 39 = .ok (.aload_n 0, 1) := by decide +kernel
theorem dX8_step_40 : decode cX8_step 40 = .ok (.getfield 20, 3) := by decide +kernel
theorem dX8_step_43 : decode cX8_step 43 = .ok (.arraylength, 1) := by decide +kernel
theorem dX8_step_44 : decode cX8_step 44 = .ok (.if_icmp .ge 55, 3) := by decide +kernel
theorem dX8_step_47 : decode cX8_step 47 = .ok (.aload_n 0, 1) := by decide +kernel
theorem dX8_step_48 : decode cX8_step 48 = .ok (.aload_n 0, 1) := by decide +kernel
theorem dX8_step_49 : decode cX8_step 49 = .ok (.getfield 11, 3) := by decide +kernel
theorem dX8_step_52 : decode cX8_step 52 = .ok (.aload_n 0, 1) := by decide +kernel
theorem dX8_step_53 : decode cX8_step 53 = .ok (.getfield 71, 3) := by decide +kernel
theorem dX8_step_56 : decode cX8_step 56 = .ok (.iaload, 1) := by decide +kernel
theorem dX8_step_57 : decode cX8_step 57 = .ok (.putfield 27, 3) := by decide +kernel
theorem dX8_step_60 : decode cX8_step 60 = .ok (.aload_n 0, 1) := by decide +kernel
theorem dX8_step_61 : decode cX8_step 61 = .ok (.aload_n 0, 1) := by decide +kernel
theorem dX8_step_62 : decode cX8_step 62 = .ok (.getfield 17, 3) := by decide +kernel
theorem dX8_step_65 : decode cX8_step 65 = .ok (.aload_n 0, 1) := by decide +kernel
theorem dX8_step_66 : decode cX8_step 66 = .ok (.getfield 71, 3) := by decide +kernel
theorem dX8_step_69 : decode cX8_step 69 = .ok (.iaload, 1) := by decide +kernel
theorem dX8_step_70 : decode cX8_step 70 = .ok (.putfield 38, 3) := by decide +kernel
theorem dX8_step_73 : decode cX8_step 73 = .ok (.aload_n 0, 1) := by decide +kernel
theorem dX8_step_74 : decode cX8_step 74 = .ok (.aload_n 0, 1) := by decide +kernel
theorem dX8_step_75 : decode cX8_step 75 = .ok (.getfield 20, 3) := by decide +kernel
theorem dX8_step_78 : decode cX8_step 78 = .ok (.aload_n 0, 1) := by decide +kernel
theorem dX8_step_79 : decode cX8_step 79 = .ok (.getfield 71, 3) := by decide +kernel
theorem dX8_step_82 : decode cX8_step 82 = .ok (.iaload, 1) := by decide +kernel
theorem dX8_step_83 : decode cX8_step 83 = .ok (.putfield 144, 3) := by decide +kernel
theorem dX8_step_86 : decode cX8_step 86 = .ok (.aload_n 0, 1) := by decide +kernel
theorem dX8_step_87 : decode cX8_step 87 = .ok (.dup, 1) := by decide +kernel
theorem dX8_step_88 : decode cX8_step 88 = .ok (.getfield 71, 3) := by decide +kernel
theorem dX8_step_91 : decode cX8_step 91 = .ok (.iconst 1, 1) := by decide +kernel
theorem dX8_step_92 : decode cX8_step 92 = .ok (.iadd, 1) := by decide +kernel
theorem dX8_step_93 : decode cX8_step 93 = .ok (.putfield 71, 3) := by decide +kernel
theorem dX8_step_96 : decode cX8_step 96 = .ok (.goto 16, 3) := by decide +kernel
theorem dX8_step_99 : decode cX8_step 99 = .ok (.aload_n 0, 1) := by decide +kernel
theorem dX8_step_100 : decode cX8_step 100 = .ok (.iconst 0, 1) := by decide +kernel
theorem dX8_step_101 : decode cX8_step 101 = .ok (.putfield 27, 3) := by decide +kernel
theorem dX8_step_104 : decode cX8_step 104 = .ok (.aload_n 0, 1) := by decide +kernel
theorem dX8_step_105 : decode cX8_step 105 = .ok (.aload_n 0, 1) := by decide +kernel
theorem dX8_step_106 : decode cX8_step 106 = .ok (.getfield 48, 3) := by decide +kernel
theorem dX8_step_109 : decode cX8_step 109 = .ok (.putfield 38, 3) := by decide +kernel
theorem dX8_step_112 : decode cX8_step 112 = .ok (.return_, 1) := by decide +kernel
theorem dX8_open_0 : decode cX8_open 0 = .ok (.aload_n 0, 1) := by decide +kernel
theorem dX8_open_1 : decode cX8_open 1 = .ok (.aload_n 1, 1) := by decide +kernel
theorem dX8_open_2 : decode cX8_open 2 = .ok (.putfield 44, 3) := by decide +kernel
theorem dX8_open_5 : decode cX8_open 5 = .ok (.aload_n 0, 1) := by decide +kernel
theorem dX8_open_6 : decode cX8_open 6 = .ok (.iload_n 2, 1) := by decide +kernel
theorem dX8_open_7 : decode cX8_open 7 = .ok (.putfield 48, 3) := by decide +kernel
theorem dX8_open_10 : decode cX8_open 10 = .ok (.aload_n 0, 1) := by decide +kernel
theorem dX8_open_11 : decode cX8_open 11 = .ok (.iconst (-1), 1) := by decide +kernel
theorem dX8_open_12 : decode cX8_open 12 = .ok (.putfield 23, 3) := by decide +kernel
theorem dX8_open_15 : decode cX8_open 15 = .ok (.aload_n 0, 1) := by decide +kernel
theorem dX8_open_16 : decode cX8_open 16 = .ok (.iconst 0, 1) := by decide +kernel
theorem dX8_open_17 : decode cX8_open 17 = .ok (.putfield 51, 3) := by decide +kernel
theorem dX8_open_20 : decode cX8_open 20 = .ok (.iconst 0, 1) := by decide +kernel
theorem dX8_open_21 : decode cX8_open 21 = .ok (.istore_n 3, 1) := by decide +kernel
theorem dX8_open_22 : decode cX8_open 22 = .ok (.iload_n 3, 1) := by decide +kernel
theorem dX8_open_23 : decode cX8_open 23 = .ok (.aload_n 0, 1) := by decide +kernel
theorem dX8_open_24 : decode cX8_open 24 = .ok (.getfield 48, 3) := by decide +kernel
theorem dX8_open_27 : decode cX8_open 27 = .ok (.if_icmp .ge 39, 3) := by decide +kernel
theorem dX8_open_30 : decode cX8_open 30 = .ok (.aload_n 0, 1) := by decide +kernel
theorem dX8_open_31 : decode cX8_open 31 = .ok (.iload_n 3, 1) := by decide +kernel
theorem dX8_open_32 : decode cX8_open 32 = .ok (.invokevirtual 54, 3) := by decide +kernel
theorem dX8_open_35 : decode cX8_open 35 = .ok (.istore 4, 2) := by decide +kernel
theorem dX8_open_37 : decode cX8_open 37 = .ok (.aload_n 0, 1) := by decide +kernel
theorem dX8_open_38 : decode cX8_open 38 = .ok (.iload_n 3, 1) := by decide +kernel
theorem dX8_open_39 : decode cX8_open 39 = .ok (.invokevirtual 58, 3) := by decide +kernel
theorem dX8_open_42 : decode cX8_open 42 = .ok (.bipush 32, 2) := by decide +kernel
theorem dX8_open_44 : decode cX8_open 44 = .ok (.if_icmp .eq 10, 3) := by decide +kernel
theorem dX8_open_47 : decode cX8_open 47 = .ok (.aload_n 0, 1) := by decide +kernel
theorem dX8_open_48 : decode cX8_open 48 = .ok (.iload_n 3, 1) := by decide +kernel
theorem dX8_open_49 : decode cX8_open 49 = .ok (.iload 4, 2) := by decide +kernel
theorem dX8_open_51 : decode cX8_open 51 = .ok (.invokevirtual 61, 3) := by decide +kernel
theorem dX8_open_54 : decode cX8_open 54 = .ok (.iload 4, 2) := by decide +kernel
theorem dX8_open_56 : decode cX8_open 56 = .ok (.iload_n 3, 1) := by decide +kernel
theorem dX8_open_57 : decode cX8_open 57 = .ok (.iconst 1, 1) := by decide +kernel
theorem dX8_open_58 : decode cX8_open 58 = .ok (.iadd, 1) := by decide +kernel
theorem dX8_open_59 : decode cX8_open 59 = .ok (.invokestatic 65, 3) := by decide +kernel
theorem dX8_open_62 : decode cX8_open 62 = .ok (.istore_n 3, 1) := by decide +kernel
theorem dX8_open_63 : decode cX8_open 63 = .ok (.goto (-41), 3) := by decide +kernel
theorem dX8_open_66 : decode cX8_open 66 = .ok (.aload_n 0, 1) := by decide +kernel
theorem dX8_open_67 : decode cX8_open 67 = .ok (.iconst 0, 1) := by decide +kernel
theorem dX8_open_68 : decode cX8_open 68 = .ok (.putfield 71, 3) := by decide +kernel
theorem dX8_open_71 : decode cX8_open 71 = .ok (.aload_n 0, 1) := by decide +kernel
theorem dX8_open_72 : decode cX8_open 72 = .ok (.invokevirtual 74, 3) := by decide +kernel
theorem dX8_open_75 : decode cX8_open 75 = .ok (.return_, 1) := by decide +kernel
theorem dX9_aimAt_0 : decode cX9_aimAt 0 = .ok (.aload_n 0, 1) := by decide +kernel
theorem dX9_aimAt_1 : decode cX9_aimAt 1 = .ok (.aload_n 1, 1) := by decide +kernel
theorem dX9_aimAt_2 : decode cX9_aimAt 2 = .ok (.putfield 15, 3) := by decide +kernel
theorem dX9_aimAt_5 : decode cX9_aimAt 5 = .ok (.return_, 1) := by decide +kernel
theorem dX8_wrongAt_0 : decode cX8_wrongAt 0 = .ok (.aload_n 0, 1) := by decide +kernel
theorem dX8_wrongAt_1 : decode cX8_wrongAt 1 = .ok (.iload_n 1, 1) := by decide +kernel
theorem dX8_wrongAt_2 : decode cX8_wrongAt 2 = .ok (.putfield 23, 3) := by decide +kernel
theorem dX8_wrongAt_5 : decode cX8_wrongAt 5 = .ok (.iconst 0, 1) := by decide +kernel
theorem dX8_wrongAt_6 : decode cX8_wrongAt 6 = .ok (.ireturn, 1) := by decide +kernel
theorem dX8_takeNumber_0 : decode cX8_takeNumber 0 = .ok (.aload_n 0, 1) := by decide +kernel
theorem dX8_takeNumber_1 : decode cX8_takeNumber 1 = .ok (.getfield 27, 3) := by decide +kernel
theorem dX8_takeNumber_4 : decode cX8_takeNumber 4 = .ok (.iconst 2, 1) := by decide +kernel
theorem dX8_takeNumber_5 : decode cX8_takeNumber 5 = .ok (.if_icmp .ne 19, 3) := by decide +kernel
theorem dX8_takeNumber_8 : decode cX8_takeNumber 8 = .ok (.aload_n 0, 1) := by decide +kernel
theorem dX8_takeNumber_9 : decode cX8_takeNumber 9 = .ok (.getfield 144, 3) := by decide +kernel
theorem dX8_takeNumber_12 : decode cX8_takeNumber 12 = .ok (.iload_n 1, 1) := by decide +kernel
theorem dX8_takeNumber_13 : decode cX8_takeNumber 13 = .ok (.if_icmp .lt 11, 3) := by decide +kernel
theorem dX8_takeNumber_16 : decode cX8_takeNumber 16 = .ok (.aload_n 0, 1) := by decide +kernel
theorem dX8_takeNumber_17 : decode cX8_takeNumber 17 = .ok (.getfield 144, 3) := by decide +kernel
theorem dX8_takeNumber_20 : decode cX8_takeNumber 20 = .ok (.iload_n 2, 1) := by decide +kernel
theorem dX8_takeNumber_21 : decode cX8_takeNumber 21 = .ok (.if_icmp .le 12, 3) := by decide +kernel
theorem dX8_takeNumber_24 : decode cX8_takeNumber 24 = .ok (.aload_n 0, 1) := by decide +kernel
theorem dX8_takeNumber_25 : decode cX8_takeNumber 25 = .ok (.aload_n 0, 1) := by decide +kernel
theorem dX8_takeNumber_26 : decode cX8_takeNumber 26 = .ok (.getfield 38, 3) := by decide +kernel
theorem dX8_takeNumber_29 : decode cX8_takeNumber 29 = .ok (.invokevirtual 41, 3) := by decide +kernel
theorem dX8_takeNumber_32 : decode cX8_takeNumber 32 = .ok (.ireturn, 1) := by decide +kernel
theorem dX8_takeNumber_33 : decode cX8_takeNumber 33 = .ok (.aload_n 0, 1) := by decide +kernel
theorem dX8_takeNumber_34 : decode cX8_takeNumber 34 = .ok (.invokevirtual 74, 3) := by decide +kernel
theorem dX8_takeNumber_37 : decode cX8_takeNumber 37 = .ok (.iconst 1, 1) := by decide +kernel
theorem dX8_takeNumber_38 : decode cX8_takeNumber 38 = .ok (.ireturn, 1) := by decide +kernel
theorem dX9_readValues_0 : decode cX9_readValues 0 = .ok (.aload_n 0, 1) := by decide +kernel
theorem dX9_readValues_1 : decode cX9_readValues 1 = .ok (.getfield 15, 3) := by decide +kernel
theorem dX9_readValues_4 : decode cX9_readValues 4 = .ok (.getfield 50, 3) := by decide +kernel
theorem dX9_readValues_7 : decode cX9_readValues 7 = .ok (.ifCond .ne 13, 3) := by decide +kernel
theorem dX9_readValues_10 : decode cX9_readValues 10 = .ok (.aload_n 0, 1) := by decide +kernel
theorem dX9_readValues_11 : decode cX9_readValues 11 = .ok (.getfield 15, 3) := by decide +kernel
theorem dX9_readValues_14 : decode cX9_readValues 14 = .ok (.getfield 56, 3) := by decide +kernel
theorem dX9_readValues_17 : decode cX9_readValues 17 = .ok (.ifCond .le 9, 3) := by decide +kernel
theorem dX9_readValues_20 : decode cX9_readValues 20 = .ok (.aload_n 0, 1) := by decide +kernel
theorem dX9_readValues_21 : decode cX9_readValues 21 = .ok (.iload_n 1, 1) := by decide +kernel
theorem dX9_readValues_22 : decode cX9_readValues 22 = .ok (.invokevirtual 26, 3) := by decide +kernel
theorem dX9_readValues_25 : decode cX9_readValues 25 = .ok (.ireturn, 1) := by decide +kernel
theorem dX9_readValues_26 : decode cX9_readValues 26 = .ok (.aload_n 0, 1) := by decide +kernel
theorem dX9_readValues_27 : decode cX9_readValues 27 = .ok (.getfield 59, 3) := by decide +kernel
theorem dX9_readValues_30 : decode cX9_readValues 30 = .ok (.istore_n 2, 1) := by decide +kernel
theorem dX9_readValues_31 : decode cX9_readValues 31 = .ok (.aload_n 0, 1) := by decide +kernel
theorem dX9_readValues_32 : decode cX9_readValues 32 = .ok (.iconst 2, 1) := by decide +kernel
theorem dX9_readValues_33 : decode cX9_readValues 33 = .ok (.iconst 4, 1) := by decide +kernel
theorem dX9_readValues_34 : decode cX9_readValues 34 = .ok (.invokevirtual 62, 3) := by decide +kernel
theorem dX9_readValues_37 : decode cX9_readValues 37 = .ok (.ifCond .ne 5, 3) := by decide +kernel
theorem dX9_readValues_40 : decode cX9_readValues 40 = .ok (.iconst 0, 1) := by decide +kernel
theorem dX9_readValues_41 : decode cX9_readValues 41 = .ok (.ireturn, 1) := by decide +kernel
theorem dX9_readValues_42 : decode cX9_readValues 42 = .ok (.aload_n 0, 1) := by decide +kernel
theorem dX9_readValues_43 : decode cX9_readValues 43 = .ok (.getfield 15, 3) := by decide +kernel
theorem dX9_readValues_46 : decode cX9_readValues 46 = .ok (.iload_n 2, 1) := by decide +kernel
theorem dX9_readValues_47 : decode cX9_readValues 47 = .ok (.putfield 66, 3) := by decide +kernel
theorem dX9_readValues_50 : decode cX9_readValues 50 = .ok (.iconst 1, 1) := by decide +kernel
theorem dX9_readValues_51 : decode cX9_readValues 51 = .ok (.ireturn, 1) := by decide +kernel
theorem dX9_readPerson_0 : decode cX9_readPerson 0 = .ok (.aload_n 0, 1) := by decide +kernel
theorem dX9_readPerson_1 : decode cX9_readPerson 1 = .ok (.getfield 15, 3) := by decide +kernel
theorem dX9_readPerson_4 : decode cX9_readPerson 4 = .ok (.getfield 50, 3) := by decide +kernel
theorem dX9_readPerson_7 : decode cX9_readPerson 7 = .ok (.ifCond .ne 13, 3) := by decide +kernel
theorem dX9_readPerson_10 : decode cX9_readPerson 10 = .ok (.aload_n 0, 1) := by decide +kernel
theorem dX9_readPerson_11 : decode cX9_readPerson 11 = .ok (.getfield 15, 3) := by decide +kernel
theorem dX9_readPerson_14 : decode cX9_readPerson 14 = .ok (.invokevirtual 69, 3) := by decide +kernel
theorem dX9_readPerson_17 : decode cX9_readPerson 17 = .ok (.ifCond .ne 9, 3) := by decide +kernel
theorem dX9_readPerson_20 : decode cX9_readPerson 20 = .ok (.aload_n 0, 1) := by decide +kernel
theorem dX9_readPerson_21 : decode cX9_readPerson 21 = .ok (.iload_n 1, 1) := by decide +kernel
theorem dX9_readPerson_22 : decode cX9_readPerson 22 = .ok (.invokevirtual 26, 3) := by decide +kernel
theorem dX9_readPerson_25 : decode cX9_readPerson 25 = .ok (.ireturn, 1) := by decide +kernel
theorem dX9_readPerson_26 : decode cX9_readPerson 26 = .ok (.aload_n 0, 1) := by decide +kernel
theorem dX9_readPerson_27 : decode cX9_readPerson 27 = .ok (.getfield 59, 3) := by decide +kernel
theorem dX9_readPerson_30 : decode cX9_readPerson 30 = .ok (.istore_n 2, 1) := by decide +kernel
theorem dX9_readPerson_31 : decode cX9_readPerson 31 = .ok (.aload_n 0, 1) := by decide +kernel
theorem dX9_readPerson_32 : decode cX9_readPerson 32 = .ok (.iconst 0, 1) := by decide +kernel
theorem dX9_readPerson_33 : decode cX9_readPerson 33 = .ok (.aload_n 0, 1) := by decide +kernel
theorem dX9_readPerson_34 : decode cX9_readPerson 34 = .ok (.getfield 15, 3) := by decide +kernel
theorem dX9_readPerson_37 : decode cX9_readPerson 37 = .ok (.getfield 66, 3) := by decide +kernel
theorem dX9_readPerson_40 : decode cX9_readPerson 40 = .ok (.iconst 1, 1) := by decide +kernel
theorem dX9_readPerson_41 : decode cX9_readPerson 41 = .ok (.isub, 1) := by decide +kernel
theorem dX9_readPerson_42 : decode cX9_readPerson 42 = .ok (.invokevirtual 62, 3) := by decide +kernel
theorem dX9_readPerson_45 : decode cX9_readPerson 45 = .ok (.ifCond .ne 5, 3) := by decide +kernel
theorem dX9_readPerson_48 : decode cX9_readPerson 48 = .ok (.iconst 0, 1) := by decide +kernel
theorem dX9_readPerson_49 : decode cX9_readPerson 49 = .ok (.ireturn, 1) := by decide +kernel
theorem dX9_readPerson_50 : decode cX9_readPerson 50 = .ok (.aload_n 0, 1) := by decide +kernel
theorem dX9_readPerson_51 : decode cX9_readPerson 51 = .ok (.getfield 15, 3) := by decide +kernel
theorem dX9_readPerson_54 : decode cX9_readPerson 54 = .ok (.iload_n 2, 1) := by decide +kernel
theorem dX9_readPerson_55 : decode cX9_readPerson 55 = .ok (.invokevirtual 72, 3) := by decide +kernel
theorem dX9_readPerson_58 : decode cX9_readPerson 58 = .ok (.iconst 1, 1) := by decide +kernel
theorem dX9_readPerson_59 : decode cX9_readPerson 59 = .ok (.ireturn, 1) := by decide +kernel
theorem dX9_readTwo_0 : decode cX9_readTwo 0 = .ok (.aload_n 0, 1) := by decide +kernel
theorem dX9_readTwo_1 : decode cX9_readTwo 1 = .ok (.aload_n 0, 1) := by decide +kernel
theorem dX9_readTwo_2 : decode cX9_readTwo 2 = .ok (.getfield 59, 3) := by decide +kernel
theorem dX9_readTwo_5 : decode cX9_readTwo 5 = .ok (.putfield 79, 3) := by decide +kernel
theorem dX9_readTwo_8 : decode cX9_readTwo 8 = .ok (.aload_n 0, 1) := by decide +kernel
theorem dX9_readTwo_9 : decode cX9_readTwo 9 = .ok (.iconst 0, 1) := by decide +kernel
theorem dX9_readTwo_10 : decode cX9_readTwo 10 = .ok (.aload_n 0, 1) := by decide +kernel
theorem dX9_readTwo_11 : decode cX9_readTwo 11 = .ok (.getfield 15, 3) := by decide +kernel
theorem dX9_readTwo_14 : decode cX9_readTwo 14 = .ok (.getfield 56, 3) := by decide +kernel
theorem dX9_readTwo_17 : decode cX9_readTwo 17 = .ok (.iconst 1, 1) := by decide +kernel
theorem dX9_readTwo_18 : decode cX9_readTwo 18 = .ok (.isub, 1) := by decide +kernel
theorem dX9_readTwo_19 : decode cX9_readTwo 19 = .ok (.invokevirtual 62, 3) := by decide +kernel
theorem dX9_readTwo_22 : decode cX9_readTwo 22 = .ok (.ifCond .ne 5, 3) := by decide +kernel
theorem dX9_readTwo_25 : decode cX9_readTwo 25 = .ok (.iconst 0, 1) := by decide +kernel
theorem dX9_readTwo_26 : decode cX9_readTwo 26 = .ok (.ireturn, 1) := by decide +kernel
theorem dX9_readTwo_27 : decode cX9_readTwo 27 = .ok (.aload_n 0, 1) := by decide +kernel
theorem dX9_readTwo_28 : decode cX9_readTwo 28 = .ok (.aload_n 0, 1) := by decide +kernel
theorem dX9_readTwo_29 : decode cX9_readTwo 29 = .ok (.getfield 59, 3) := by decide +kernel
theorem dX9_readTwo_32 : decode cX9_readTwo 32 = .ok (.putfield 82, 3) := by decide +kernel
theorem dX9_readTwo_35 : decode cX9_readTwo 35 = .ok (.aload_n 0, 1) := by decide +kernel
theorem dX9_readTwo_36 : decode cX9_readTwo 36 = .ok (.getfield 19, 3) := by decide +kernel
theorem dX9_readTwo_39 : decode cX9_readTwo 39 = .ok (.istore_n 1, 1) := by decide +kernel
theorem dX9_readTwo_40 : decode cX9_readTwo 40 = .ok (.aload_n 0, 1) := by decide +kernel
theorem dX9_readTwo_41 : decode cX9_readTwo 41 = .ok (.iconst 0, 1) := by decide +kernel
theorem dX9_readTwo_42 : decode cX9_readTwo 42 = .ok (.aload_n 0, 1) := by decide +kernel
theorem dX9_readTwo_43 : decode cX9_readTwo 43 = .ok (.getfield 15, 3) := by decide +kernel
theorem dX9_readTwo_46 : decode cX9_readTwo 46 = .ok (.getfield 56, 3) := by decide +kernel
theorem dX9_readTwo_49 : decode cX9_readTwo 49 = .ok (.iconst 1, 1) := by decide +kernel
theorem dX9_readTwo_50 : decode cX9_readTwo 50 = .ok (.isub, 1) := by decide +kernel
theorem dX9_readTwo_51 : decode cX9_readTwo 51 = .ok (.invokevirtual 62, 3) := by decide +kernel
theorem dX9_readTwo_54 : decode cX9_readTwo 54 = .ok (.ifCond .eq 26, 3) := by decide +kernel
theorem dX9_readTwo_57 : decode cX9_readTwo 57 = .ok (.aload_n 0, 1) := by decide +kernel
theorem dX9_readTwo_58 : decode cX9_readTwo 58 = .ok (.getfield 79, 3) := by decide +kernel
theorem dX9_readTwo_61 : decode cX9_readTwo 61 = .ok (.aload_n 0, 1) := by decide +kernel
theorem dX9_readTwo_62 : decode cX9_readTwo 62 = .ok (.getfield 82, 3) := by decide +kernel
theorem dX9_readTwo_65 : decode cX9_readTwo 65 = .ok (.if_icmp .ne 11, 3) := by decide +kernel
theorem dX9_readTwo_68 : decode cX9_readTwo 68 = .ok (.aload_n 0, 1) := by decide +kernel
theorem dX9_readTwo_69 : decode cX9_readTwo 69 = .ok (.iload_n 1, 1) := by decide +kernel
theorem dX9_readTwo_70 : decode cX9_readTwo 70 = .ok (.invokevirtual 26, 3) := by decide +kernel
theorem dX9_readTwo_73 : decode cX9_readTwo 73 = .ok (.ifCond .eq 7, 3) := by decide +kernel
theorem dX9_readTwo_76 : decode cX9_readTwo 76 = .ok (.iconst 1, 1) := by decide +kernel
theorem dX9_readTwo_77 : decode cX9_readTwo 77 = .ok (.goto 4, 3) := by decide +kernel
theorem dX9_readTwo_80 : decode cX9_readTwo 80 = .ok (.iconst 0, 1) := by decide +kernel
theorem dX9_readTwo_81 : decode cX9_readTwo 81 = .ok (.ireturn, 1) := by decide +kernel
theorem dX9_readSees_0 : decode cX9_readSees 0 = .ok (.aload_n 0, 1) := by decide +kernel
theorem dX9_readSees_1 : decode cX9_readSees 1 = .ok (.invokevirtual 76, 3) := by decide +kernel
theorem dX9_readSees_4 : decode cX9_readSees 4 = .ok (.ifCond .ne 5, 3) := by decide +kernel
theorem dX9_readSees_7 : decode cX9_readSees 7 = .ok (.iconst 0, 1) := by decide +kernel
theorem dX9_readSees_8 : decode cX9_readSees 8 = .ok (.ireturn, 1) := by decide +kernel
theorem dX9_readSees_9 : decode cX9_readSees 9 = .ok (.aload_n 0, 1) := by decide +kernel
theorem dX9_readSees_10 : decode cX9_readSees 10 = .ok (.getfield 9, 3) := by decide +kernel
theorem dX9_readSees_13 : decode cX9_readSees 13 = .ok (.aload_n 0, 1) := by decide +kernel
theorem dX9_readSees_14 : decode cX9_readSees 14 = .ok (.getfield 15, 3) := by decide +kernel
theorem dX9_readSees_17 : decode cX9_readSees 17 = .ok (.aload_n 0, 1) := by decide +kernel
theorem dX9_readSees_18 : decode cX9_readSees 18 = .ok (.getfield 79, 3) := by decide +kernel
theorem dX9_readSees_21 : decode cX9_readSees 21 = .ok (.aload_n 0, 1) := by decide +kernel
theorem dX9_readSees_22 : decode cX9_readSees 22 = .ok (.getfield 82, 3) := by decide +kernel
theorem dX9_readSees_25 : decode cX9_readSees 25 = .ok (.invokevirtual 85, 3) := by decide +kernel
theorem dX9_readSees_28 : decode cX9_readSees 28 = .ok (.aload_n 0, 1) := by decide +kernel
theorem dX9_readSees_29 : decode cX9_readSees 29 = .ok (.getfield 15, 3) := by decide +kernel
theorem dX9_readSees_32 : decode cX9_readSees 32 = .ok (.iconst 1, 1) := by decide +kernel
theorem dX9_readSees_33 : decode cX9_readSees 33 = .ok (.putfield 50, 3) := by decide +kernel
theorem dX9_readSees_36 : decode cX9_readSees 36 = .ok (.iconst 1, 1) := by decide +kernel
theorem dX9_readSees_37 : decode cX9_readSees 37 = .ok (.ireturn, 1) := by decide +kernel
theorem dX8_take_0 : decode cX8_take 0 = .ok (.aload_n 0, 1) := by decide +kernel
theorem dX8_take_1 : decode cX8_take 1 = .ok (.getfield 27, 3) := by decide +kernel
theorem dX8_take_4 : decode cX8_take 4 = .ok (.iload_n 1, 1) := by decide +kernel
theorem dX8_take_5 : decode cX8_take 5 = .ok (.if_icmp .eq 12, 3) := by decide +kernel
theorem dX8_take_8 : decode cX8_take 8 = .ok (.aload_n 0, 1) := by decide +kernel
theorem dX8_take_9 : decode cX8_take 9 = .ok (.aload_n 0, 1) := by decide +kernel
theorem dX8_take_10 : decode cX8_take 10 = .ok (.getfield 38, 3) := by decide +kernel
theorem dX8_take_13 : decode cX8_take 13 = .ok (.invokevirtual 41, 3) := by decide +kernel
theorem dX8_take_16 : decode cX8_take 16 = .ok (.ireturn, 1) := by decide +kernel
theorem dX8_take_17 : decode cX8_take 17 = .ok (.aload_n 0, 1) := by decide +kernel
theorem dX8_take_18 : decode cX8_take 18 = .ok (.invokevirtual 74, 3) := by decide +kernel
theorem dX8_take_21 : decode cX8_take 21 = .ok (.iconst 1, 1) := by decide +kernel
theorem dX8_take_22 : decode cX8_take 22 = .ok (.ireturn, 1) := by decide +kernel
theorem dX9_tellAll_0 : decode cX9_tellAll 0 = .ok (.aload_n 0, 1) := by decide +kernel
theorem dX9_tellAll_1 : decode cX9_tellAll 1 = .ok (.getfield 9, 3) := by decide +kernel
theorem dX9_tellAll_4 : decode cX9_tellAll 4 = .ok (.aload_n 0, 1) := by decide +kernel
theorem dX9_tellAll_5 : decode cX9_tellAll 5 = .ok (.getfield 15, 3) := by decide +kernel
theorem dX9_tellAll_8 : decode cX9_tellAll 8 = .ok (.getfield 104, 3) := by decide +kernel
theorem dX9_tellAll_11 : decode cX9_tellAll 11 = .ok (.invokevirtual 107, 3) := by decide +kernel
theorem dX9_tellAll_14 : decode cX9_tellAll 14 = .ok (.ifCond .ne 9, 3) := by decide +kernel
theorem dX9_tellAll_17 : decode cX9_tellAll 17 = .ok (.aload_n 0, 1) := by decide +kernel
theorem dX9_tellAll_18 : decode cX9_tellAll 18 = .ok (.iload_n 1, 1) := by decide +kernel
theorem dX9_tellAll_19 : decode cX9_tellAll 19 = .ok (.invokevirtual 26, 3) := by decide +kernel
theorem dX9_tellAll_22 : decode cX9_tellAll 22 = .ok (.ireturn, 1) := by decide +kernel
theorem dX9_tellAll_23 : decode cX9_tellAll 23 = .ok (.aload_n 0, 1) := by decide +kernel
theorem dX9_tellAll_24 : decode cX9_tellAll 24 = .ok (.getfield 9, 3) := by decide +kernel
theorem dX9_tellAll_27 : decode cX9_tellAll 27 = .ok (.aload_n 0, 1) := by decide +kernel
theorem dX9_tellAll_28 : decode cX9_tellAll 28 = .ok (.getfield 15, 3) := by decide +kernel
theorem dX9_tellAll_31 : decode cX9_tellAll 31 = .ok (.aload_n 0, 1) := by decide +kernel
theorem dX9_tellAll_32 : decode cX9_tellAll 32 = .ok (.getfield 15, 3) := by decide +kernel
theorem dX9_tellAll_35 : decode cX9_tellAll 35 = .ok (.getfield 111, 3) := by decide +kernel
theorem dX9_tellAll_38 : decode cX9_tellAll 38 = .ok (.invokevirtual 115, 3) := by decide +kernel
theorem dX9_tellAll_41 : decode cX9_tellAll 41 = .ok (.pop, 1) := by decide +kernel
theorem dX9_tellAll_42 : decode cX9_tellAll 42 = .ok (.aload_n 0, 1) := by decide +kernel
theorem dX9_tellAll_43 : decode cX9_tellAll 43 = .ok (.getfield 15, 3) := by decide +kernel
theorem dX9_tellAll_46 : decode cX9_tellAll 46 = .ok (.iconst 1, 1) := by decide +kernel
theorem dX9_tellAll_47 : decode cX9_tellAll 47 = .ok (.putfield 50, 3) := by decide +kernel
theorem dX9_tellAll_50 : decode cX9_tellAll 50 = .ok (.iconst 1, 1) := by decide +kernel
theorem dX9_tellAll_51 : decode cX9_tellAll 51 = .ok (.ireturn, 1) := by decide +kernel
theorem dX9_readLimit_0 : decode cX9_readLimit 0 = .ok (.aload_n 0, 1) := by decide +kernel
theorem dX9_readLimit_1 : decode cX9_readLimit 1 = .ok (.getfield 59, 3) := by decide +kernel
theorem dX9_readLimit_4 : decode cX9_readLimit 4 = .ok (.istore_n 3, 1) := by decide +kernel
theorem dX9_readLimit_5 : decode cX9_readLimit 5 = .ok (.aload_n 0, 1) := by decide +kernel
theorem dX9_readLimit_6 : decode cX9_readLimit 6 = .ok (.iconst 0, 1) := by decide +kernel
theorem dX9_readLimit_7 : decode cX9_readLimit 7 = .ok (.bipush 9, 2) := by decide +kernel
theorem dX9_readLimit_9 : decode cX9_readLimit 9 = .ok (.invokevirtual 62, 3) := by decide +kernel
theorem dX9_readLimit_12 : decode cX9_readLimit 12 = .ok (.ifCond .eq 13, 3) := by decide +kernel
theorem dX9_readLimit_15 : decode cX9_readLimit 15 = .ok (.aload_n 0, 1) := by decide +kernel
theorem dX9_readLimit_16 : decode cX9_readLimit 16 = .ok (.sipush 306, 3) := by decide +kernel
theorem dX9_readLimit_19 : decode cX9_readLimit 19 = .ok (.invokevirtual 91, 3) := by decide +kernel
theorem dX9_readLimit_22 : decode cX9_readLimit 22 = .ok (.ifCond .ne 5, 3) := by decide +kernel
theorem dX9_readLimit_25 : decode cX9_readLimit 25 = .ok (.iconst 0, 1) := by decide +kernel
theorem dX9_readLimit_26 : decode cX9_readLimit 26 = .ok (.ireturn, 1) := by decide +kernel
theorem dX9_readLimit_27 : decode cX9_readLimit 27 = .ok (.aload_n 0, 1) := by decide +kernel
theorem dX9_readLimit_28 : decode cX9_readLimit 28 = .ok (.getfield 59, 3) := by decide +kernel
theorem dX9_readLimit_31 : decode cX9_readLimit 31 = .ok (.istore 4, 2) := by decide +kernel
theorem dX9_readLimit_33 : decode cX9_readLimit 33 = .ok (.aload_n 0, 1) := by decide +kernel
theorem dX9_readLimit_34 : decode cX9_readLimit 34 = .ok (.iconst 0, 1) := by decide +kernel
theorem dX9_readLimit_35 : decode cX9_readLimit 35 = .ok (.aload_n 0, 1) := by decide +kernel
theorem dX9_readLimit_36 : decode cX9_readLimit 36 = .ok (.getfield 15, 3) := by decide +kernel
theorem dX9_readLimit_39 : decode cX9_readLimit 39 = .ok (.getfield 66, 3) := by decide +kernel
theorem dX9_readLimit_42 : decode cX9_readLimit 42 = .ok (.iconst 1, 1) := by decide +kernel
theorem dX9_readLimit_43 : decode cX9_readLimit 43 = .ok (.isub, 1) := by decide +kernel
theorem dX9_readLimit_44 : decode cX9_readLimit 44 = .ok (.invokevirtual 62, 3) := by decide +kernel
theorem dX9_readLimit_47 : decode cX9_readLimit 47 = .ok (.ifCond .ne 5, 3) := by decide +kernel
theorem dX9_readLimit_50 : decode cX9_readLimit 50 = .ok (.iconst 0, 1) := by decide +kernel
theorem dX9_readLimit_51 : decode cX9_readLimit 51 = .ok (.ireturn, 1) := by decide +kernel
theorem dX9_readLimit_52 : decode cX9_readLimit 52 = .ok (.aload_n 0, 1) := by decide +kernel
theorem dX9_readLimit_53 : decode cX9_readLimit 53 = .ok (.getfield 9, 3) := by decide +kernel
theorem dX9_readLimit_56 : decode cX9_readLimit 56 = .ok (.aload_n 0, 1) := by decide +kernel
theorem dX9_readLimit_57 : decode cX9_readLimit 57 = .ok (.getfield 15, 3) := by decide +kernel
theorem dX9_readLimit_60 : decode cX9_readLimit 60 = .ok (.iload_n 3, 1) := by decide +kernel
theorem dX9_readLimit_61 : decode cX9_readLimit 61 = .ok (.iload 4, 2) := by decide +kernel
theorem dX9_readLimit_63 : decode cX9_readLimit 63 = .ok (.iload_n 2, 1) := by decide +kernel
theorem dX9_readLimit_64 : decode cX9_readLimit 64 = .ok (.invokevirtual 94, 3) := by decide +kernel
theorem dX9_readLimit_67 : decode cX9_readLimit 67 = .ok (.aload_n 0, 1) := by decide +kernel
theorem dX9_readLimit_68 : decode cX9_readLimit 68 = .ok (.iload_n 1, 1) := by decide +kernel
theorem dX9_readLimit_69 : decode cX9_readLimit 69 = .ok (.invokevirtual 98, 3) := by decide +kernel
theorem dX9_readLimit_72 : decode cX9_readLimit 72 = .ok (.ireturn, 1) := by decide +kernel
theorem dX9_readMatch_0 : decode cX9_readMatch 0 = .ok (.aload_n 0, 1) := by decide +kernel
theorem dX9_readMatch_1 : decode cX9_readMatch 1 = .ok (.invokevirtual 76, 3) := by decide +kernel
theorem dX9_readMatch_4 : decode cX9_readMatch 4 = .ok (.ifCond .ne 5, 3) := by decide +kernel
theorem dX9_readMatch_7 : decode cX9_readMatch 7 = .ok (.iconst 0, 1) := by decide +kernel
theorem dX9_readMatch_8 : decode cX9_readMatch 8 = .ok (.ireturn, 1) := by decide +kernel
theorem dX9_readMatch_9 : decode cX9_readMatch 9 = .ok (.aload_n 0, 1) := by decide +kernel
theorem dX9_readMatch_10 : decode cX9_readMatch 10 = .ok (.getfield 9, 3) := by decide +kernel
theorem dX9_readMatch_13 : decode cX9_readMatch 13 = .ok (.aload_n 0, 1) := by decide +kernel
theorem dX9_readMatch_14 : decode cX9_readMatch 14 = .ok (.getfield 15, 3) := by decide +kernel
theorem dX9_readMatch_17 : decode cX9_readMatch 17 = .ok (.aload_n 0, 1) := by decide +kernel
theorem dX9_readMatch_18 : decode cX9_readMatch 18 = .ok (.getfield 79, 3) := by decide +kernel
theorem dX9_readMatch_21 : decode cX9_readMatch 21 = .ok (.aload_n 0, 1) := by decide +kernel
theorem dX9_readMatch_22 : decode cX9_readMatch 22 = .ok (.getfield 82, 3) := by decide +kernel
theorem dX9_readMatch_25 : decode cX9_readMatch 25 = .ok (.iload_n 2, 1) := by decide +kernel
theorem dX9_readMatch_26 : decode cX9_readMatch 26 = .ok (.invokevirtual 101, 3) := by decide +kernel
theorem dX9_readMatch_29 : decode cX9_readMatch 29 = .ok (.aload_n 0, 1) := by decide +kernel
theorem dX9_readMatch_30 : decode cX9_readMatch 30 = .ok (.iload_n 1, 1) := by decide +kernel
theorem dX9_readMatch_31 : decode cX9_readMatch 31 = .ok (.invokevirtual 98, 3) := by decide +kernel
theorem dX9_readMatch_34 : decode cX9_readMatch 34 = .ok (.ireturn, 1) := by decide +kernel
theorem dX9_readLine_0 : decode cX9_readLine 0 = .ok (.aload_n 0, 1) := by decide +kernel
theorem dX9_readLine_1 : decode cX9_readLine 1 = .ok (.getfield 19, 3) := by decide +kernel
theorem dX9_readLine_4 : decode cX9_readLine 4 = .ok (.istore_n 1, 1) := by decide +kernel
theorem dX9_readLine_5 : decode cX9_readLine 5 = .ok (.aload_n 0, 1) := by decide +kernel
theorem dX9_readLine_6 : decode cX9_readLine 6 = .ok (.getfield 23, 3) := by decide +kernel
theorem dX9_readLine_9 : decode cX9_readLine 9 = .ok (.istore_n 2, 1) := by decide +kernel
theorem dX9_readLine_10 : decode cX9_readLine 10 = .ok (.aload_n 0, 1) := by decide +kernel
theorem dX9_readLine_11 : decode cX9_readLine 11 = .ok (.getfield 15, 3) := by decide +kernel
theorem dX9_readLine_14 : decode cX9_readLine 14 = .ok (.ifnull 10, 3) := by decide +kernel
theorem dX9_readLine_17 : decode cX9_readLine 17 = .ok (.iload_n 2, 1) := by decide +kernel
theorem dX9_readLine_18 : decode cX9_readLine 18 = .ok (.sipush 301, 3) := by decide +kernel
theorem dX9_readLine_21 : decode cX9_readLine 21 = .ok (.if_icmp .ge 9, 3) := by decide +kernel
theorem dX9_readLine_24 : decode cX9_readLine 24 = .ok (.aload_n 0, 1) := by decide +kernel
theorem dX9_readLine_25 : decode cX9_readLine 25 = .ok (.iload_n 1, 1) := by decide +kernel
theorem dX9_readLine_26 : decode cX9_readLine 26 = .ok (.invokevirtual 26, 3) := by decide +kernel
theorem dX9_readLine_29 : decode cX9_readLine 29 = .ok (.ireturn, 1) := by decide +kernel
theorem dX9_readLine_30 : decode cX9_readLine 30 = .ok (.aload_n 0, 1) := by decide +kernel
theorem dX9_readLine_31 : decode cX9_readLine 31 = .ok (.invokevirtual 30, 3) := by decide +kernel
theorem dX9_readLine_34 : decode cX9_readLine 34 = .ok (.iload_n 2, 1) := by decide +kernel
theorem dX9_readLine_35 : decode cX9_readLine 35 = .ok (.tableswitch 98 301 308 #[45, 51, 57, 62, 62, 98, 80, 80], 45) := by decide +kernel
theorem dX9_readLine_80 : decode cX9_readLine 80 = .ok (.aload_n 0, 1) := by decide +kernel
theorem dX9_readLine_81 : decode cX9_readLine 81 = .ok (.iload_n 1, 1) := by decide +kernel
theorem dX9_readLine_82 : decode cX9_readLine 82 = .ok (.invokevirtual 33, 3) := by decide +kernel
theorem dX9_readLine_85 : decode cX9_readLine 85 = .ok (.ireturn, 1) := by decide +kernel
theorem dX9_readLine_86 : decode cX9_readLine 86 = .ok (.aload_n 0, 1) := by decide +kernel
theorem dX9_readLine_87 : decode cX9_readLine 87 = .ok (.iload_n 1, 1) := by decide +kernel
theorem dX9_readLine_88 : decode cX9_readLine 88 = .ok (.invokevirtual 36, 3) := by decide +kernel
theorem dX9_readLine_91 : decode cX9_readLine 91 = .ok (.ireturn, 1) := by decide +kernel
theorem dX9_readLine_92 : decode cX9_readLine 92 = .ok (.aload_n 0, 1) := by decide +kernel
theorem dX9_readLine_93 : decode cX9_readLine 93 = .ok (.invokevirtual 39, 3) := by decide +kernel
theorem dX9_readLine_96 : decode cX9_readLine 96 = .ok (.ireturn, 1) := by decide +kernel
theorem dX9_readLine_97 : decode cX9_readLine 97 = .ok (.aload_n 0, 1) := by decide +kernel
theorem dX9_readLine_98 : decode cX9_readLine 98 = .ok (.iload_n 1, 1) := by decide +kernel
theorem dX9_readLine_99 : decode cX9_readLine 99 = .ok (.iload_n 2, 1) := by decide +kernel
theorem dX9_readLine_100 : decode cX9_readLine 100 = .ok (.sipush 304, 3) := by decide +kernel
theorem dX9_readLine_103 : decode cX9_readLine 103 = .ok (.if_icmp .ne 7, 3) := by decide +kernel
theorem dX9_readLine_106 : decode cX9_readLine 106 = .ok (.iconst 1, 1) := by decide +kernel
theorem dX9_readLine_107 : decode cX9_readLine 107 = .ok (.goto 4, 3) := by decide +kernel
theorem dX9_readLine_110 : decode cX9_readLine 110 = .ok (.iconst 0, 1) := by decide +kernel
theorem dX9_readLine_111 : decode cX9_readLine 111 = .ok (.invokevirtual 43, 3) := by decide +kernel
theorem dX9_readLine_114 : decode cX9_readLine 114 = .ok (.ireturn, 1) := by decide +kernel
theorem dX9_readLine_115 : decode cX9_readLine 115 = .ok (.aload_n 0, 1) := by decide +kernel
theorem dX9_readLine_116 : decode cX9_readLine 116 = .ok (.iload_n 1, 1) := by decide +kernel
theorem dX9_readLine_117 : decode cX9_readLine 117 = .ok (.iload_n 2, 1) := by decide +kernel
theorem dX9_readLine_118 : decode cX9_readLine 118 = .ok (.sipush 307, 3) := by decide +kernel
theorem dX9_readLine_121 : decode cX9_readLine 121 = .ok (.if_icmp .ne 7, 3) := by decide +kernel
theorem dX9_readLine_124 : decode cX9_readLine 124 = .ok (.iconst 1, 1) := by decide +kernel
theorem dX9_readLine_125 : decode cX9_readLine 125 = .ok (.goto 4, 3) := by decide +kernel
theorem dX9_readLine_128 : decode cX9_readLine 128 = .ok (.iconst 0, 1) := by decide +kernel
theorem dX9_readLine_129 : decode cX9_readLine 129 = .ok (.invokevirtual 47, 3) := by decide +kernel
theorem dX9_readLine_132 : decode cX9_readLine 132 = .ok (.ireturn, 1) := by decide +kernel
theorem dX9_readLine_133 : decode cX9_readLine 133 = .ok (.aload_n 0, 1) := by decide +kernel
theorem dX9_readLine_134 : decode cX9_readLine 134 = .ok (.iload_n 1, 1) := by decide +kernel
theorem dX9_readLine_135 : decode cX9_readLine 135 = .ok (.invokevirtual 26, 3) := by decide +kernel
theorem dX9_readLine_138 : decode cX9_readLine 138 = .ok (.ireturn, 1) := by decide +kernel
theorem dX8_readLines_0 : decode cX8_readLines 0 = .ok (.aload_n 0, 1) := by decide +kernel
theorem dX8_readLines_1 : decode cX8_readLines 1 = .ok (.getfield 27, 3) := by decide +kernel
theorem dX8_readLines_4 : decode cX8_readLines 4 = .ok (.ifCond .ne 5, 3) := by decide +kernel
theorem dX8_readLines_7 : decode cX8_readLines 7 = .ok (.iconst 0, 1) := by decide +kernel
theorem dX8_readLines_8 : decode cX8_readLines 8 = .ok (.ireturn, 1) := by decide +kernel
theorem dX8_readLines_9 : decode cX8_readLines 9 = .ok (.iconst 1, 1) := by decide +kernel
theorem dX8_readLines_10 : decode cX8_readLines 10 = .ok (.istore_n 2, 1) := by decide +kernel
theorem dX8_readLines_11 : decode cX8_readLines 11 = .ok (.iload_n 2, 1) := by decide +kernel
theorem dX8_readLines_12 : decode cX8_readLines 12 = .ok (.iload_n 1, 1) := by decide +kernel
theorem dX8_readLines_13 : decode cX8_readLines 13 = .ok (.if_icmp .gt 38, 3) := by decide +kernel
theorem dX8_readLines_16 : decode cX8_readLines 16 = .ok (.aload_n 0, 1) := by decide +kernel
theorem dX8_readLines_17 : decode cX8_readLines 17 = .ok (.invokevirtual 30, 3) := by decide +kernel
theorem dX8_readLines_20 : decode cX8_readLines 20 = .ok (.ifCond .ne 5, 3) := by decide +kernel
theorem dX8_readLines_23 : decode cX8_readLines 23 = .ok (.iconst (-1), 1) := by decide +kernel
theorem dX8_readLines_24 : decode cX8_readLines 24 = .ok (.ireturn, 1) := by decide +kernel
theorem dX8_readLines_25 : decode cX8_readLines 25 = .ok (.aload_n 0, 1) := by decide +kernel
theorem dX8_readLines_26 : decode cX8_readLines 26 = .ok (.getfield 27, 3) := by decide +kernel
theorem dX8_readLines_29 : decode cX8_readLines 29 = .ok (.ifCond .ne 5, 3) := by decide +kernel
theorem dX8_readLines_32 : decode cX8_readLines 32 = .ok (.iload_n 2, 1) := by decide +kernel
theorem dX8_readLines_33 : decode cX8_readLines 33 = .ok (.ireturn, 1) := by decide +kernel
theorem dX8_readLines_34 : decode cX8_readLines 34 = .ok (.aload_n 0, 1) := by decide +kernel
theorem dX8_readLines_35 : decode cX8_readLines 35 = .ok (.bipush 59, 2) := by decide +kernel
theorem dX8_readLines_37 : decode cX8_readLines 37 = .ok (.invokevirtual 34, 3) := by decide +kernel
theorem dX8_readLines_40 : decode cX8_readLines 40 = .ok (.ifCond .ne 5, 3) := by decide +kernel
theorem dX8_readLines_43 : decode cX8_readLines 43 = .ok (.iconst (-1), 1) := by decide +kernel
theorem dX8_readLines_44 : decode cX8_readLines 44 = .ok (.ireturn, 1) := by decide +kernel
theorem dX8_readLines_45 : decode cX8_readLines 45 = .ok (.iinc 2 1, 3) := by decide +kernel
theorem dX8_readLines_48 : decode cX8_readLines 48 = .ok (.goto (-37), 3) := by decide +kernel
theorem dX8_readLines_51 : decode cX8_readLines 51 = .ok (.aload_n 0, 1) := by decide +kernel
theorem dX8_readLines_52 : decode cX8_readLines 52 = .ok (.aload_n 0, 1) := by decide +kernel
theorem dX8_readLines_53 : decode cX8_readLines 53 = .ok (.getfield 38, 3) := by decide +kernel
theorem dX8_readLines_56 : decode cX8_readLines 56 = .ok (.invokevirtual 41, 3) := by decide +kernel
theorem dX8_readLines_59 : decode cX8_readLines 59 = .ok (.pop, 1) := by decide +kernel
theorem dX8_readLines_60 : decode cX8_readLines 60 = .ok (.iconst (-1), 1) := by decide +kernel
theorem dX8_readLines_61 : decode cX8_readLines 61 = .ok (.ireturn, 1) := by decide +kernel
theorem dX8_wrong_0 : decode cX8_wrong 0 = .ok (.aload_n 0, 1) := by decide +kernel
theorem dX8_wrong_1 : decode cX8_wrong 1 = .ok (.getfield 23, 3) := by decide +kernel
theorem dX8_wrong_4 : decode cX8_wrong 4 = .ok (.ireturn, 1) := by decide +kernel
theorem dX10_forgetPast_0 : decode cX10_forgetPast 0 = .ok (.aload_n 0, 1) := by decide +kernel
theorem dX10_forgetPast_1 : decode cX10_forgetPast 1 = .ok (.iconst 0, 1) := by decide +kernel
theorem dX10_forgetPast_2 : decode cX10_forgetPast 2 = .ok (.putfield 364, 3) := by decide +kernel
theorem dX10_forgetPast_5 : decode cX10_forgetPast 5 = .ok (.return_, 1) := by decide +kernel
theorem dX10_village_0 : decode cX10_village 0 = .ok (.aload_n 0, 1) := by decide +kernel
theorem dX10_village_1 : decode cX10_village 1 = .ok (.getfield 10, 3) := by decide +kernel
theorem dX10_village_4 : decode cX10_village 4 = .ok (.invokevirtual 86, 3) := by decide +kernel
theorem dX10_village_7 : decode cX10_village 7 = .ok (.istore_n 1, 1) := by decide +kernel
theorem dX10_village_8 : decode cX10_village 8 = .ok (.aload_n 0, 1) := by decide +kernel
theorem dX10_village_9 : decode cX10_village 9 = .ok (.getfield 64, 3) := by decide +kernel
theorem dX10_village_12 : decode cX10_village 12 = .ok (.aload_n 0, 1) := by decide +kernel
theorem dX10_village_13 : decode cX10_village 13 = .ok (.getfield 60, 3) := by decide +kernel
theorem dX10_village_16 : decode cX10_village 16 = .ok (.invokevirtual 89, 3) := by decide +kernel
theorem dX10_village_19 : decode cX10_village 19 = .ok (.aload_n 0, 1) := by decide +kernel
theorem dX10_village_20 : decode cX10_village 20 = .ok (.getfield 42, 3) := by decide +kernel
theorem dX10_village_23 : decode cX10_village 23 = .ok (.aload_n 0, 1) := by decide +kernel
theorem dX10_village_24 : decode cX10_village 24 = .ok (.getfield 10, 3) := by decide +kernel
theorem dX10_village_27 : decode cX10_village 27 = .ok (.iload_n 1, 1) := by decide +kernel
theorem dX10_village_28 : decode cX10_village 28 = .ok (.invokevirtual 93, 3) := by decide +kernel
theorem dX10_village_31 : decode cX10_village 31 = .ok (.aload_n 0, 1) := by decide +kernel
theorem dX10_village_32 : decode cX10_village 32 = .ok (.getfield 42, 3) := by decide +kernel
theorem dX10_village_35 : decode cX10_village 35 = .ok (.aload_n 0, 1) := by decide +kernel
theorem dX10_village_36 : decode cX10_village 36 = .ok (.getfield 64, 3) := by decide +kernel
theorem dX10_village_39 : decode cX10_village 39 = .ok (.invokevirtual 97, 3) := by decide +kernel
theorem dX10_village_42 : decode cX10_village 42 = .ok (.aload_n 0, 1) := by decide +kernel
theorem dX10_village_43 : decode cX10_village 43 = .ok (.getfield 42, 3) := by decide +kernel
theorem dX10_village_46 : decode cX10_village 46 = .ok (.bipush 14, 2) := by decide +kernel
theorem dX10_village_48 : decode cX10_village 48 = .ok (.invokevirtual 100, 3) := by decide +kernel
theorem dX10_village_51 : decode cX10_village 51 = .ok (.istore_n 2, 1) := by decide +kernel
theorem dX10_village_52 : decode cX10_village 52 = .ok (.aload_n 0, 1) := by decide +kernel
theorem dX10_village_53 : decode cX10_village 53 = .ok (.aload_n 0, 1) := by decide +kernel
theorem dX10_village_54 : decode cX10_village 54 = .ok (.getfield 42, 3) := by decide +kernel
theorem dX10_village_57 : decode cX10_village 57 = .ok (.invokevirtual 104, 3) := by decide +kernel
theorem dX10_village_60 : decode cX10_village 60 = .ok (.putfield 67, 3) := by decide +kernel
theorem dX10_village_63 : decode cX10_village 63 = .ok (.iload_n 2, 1) := by decide +kernel
theorem dX10_village_64 : decode cX10_village 64 = .ok (.iconst (-1), 1) := by decide +kernel
theorem dX10_village_65 : decode cX10_village 65 = .ok (.if_icmp .ne 13, 3) := by decide +kernel
theorem dX10_village_68 : decode cX10_village 68 = .ok (.new 107, 3) := by decide +kernel
theorem dX10_village_71 : decode cX10_village 71 = .ok (.dup, 1) := by decide +kernel
theorem dX10_village_72 : decode cX10_village 72 = .ok (.ldc 109, 2) := by decide +kernel
theorem dX10_village_74 : decode cX10_village 74 = .ok (.invokespecial 111, 3) := by decide +kernel
theorem dX10_village_77 : decode cX10_village 77 = .ok (.athrow, 1) := by decide +kernel
theorem dX10_village_78 : decode cX10_village 78 = .ok (.aload_n 0, 1) := by decide +kernel
theorem dX10_village_79 : decode cX10_village 79 = .ok (.getfield 60, 3) := by decide +kernel
theorem dX10_village_82 : decode cX10_village 82 = .ok (.getfield 114, 3) := by decide +kernel
theorem dX10_village_85 : decode cX10_village 85 = .ok (.bipush 12, 2) := by decide +kernel
theorem dX10_village_87 : decode cX10_village 87 = .ok (.if_icmp .lt 13, 3) := by decide +kernel
theorem dX10_village_90 : decode cX10_village 90 = .ok (.new 117, 3) := by decide +kernel
theorem dX10_village_93 : decode cX10_village 93 = .ok (.dup, 1) := by decide +kernel
theorem dX10_village_94 : decode cX10_village 94 = .ok (.ldc 119, 2) := by decide +kernel
theorem dX10_village_96 : decode cX10_village 96 = .ok (.invokespecial 121, 3) := by decide +kernel
theorem dX10_village_99 : decode cX10_village 99 = .ok (.athrow, 1) := by decide +kernel
theorem dX10_village_100 : decode cX10_village 100 = .ok (.aload_n 0, 1) := by decide +kernel
theorem dX10_village_101 : decode cX10_village 101 = .ok (.getfield 64, 3) := by decide +kernel
theorem dX10_village_104 : decode cX10_village 104 = .ok (.dup, 1) := by decide +kernel
theorem dX10_village_105 : decode cX10_village 105 = .ok (.getfield 114, 3) := by decide +kernel
theorem dX10_village_108 : decode cX10_village 108 = .ok (.iconst 1, 1) := by decide +kernel
theorem dX10_village_109 : decode cX10_village 109 = .ok (.iadd, 1) := by decide +kernel
theorem dX10_village_110 : decode cX10_village 110 = .ok (.putfield 114, 3) := by decide +kernel
theorem dX10_village_113 : decode cX10_village 113 = .ok (.aload_n 0, 1) := by decide +kernel
theorem dX10_village_114 : decode cX10_village 114 = .ok (.getfield 60, 3) := by decide +kernel
theorem dX10_village_117 : decode cX10_village 117 = .ok (.astore_n 3, 1) := by decide +kernel
theorem dX10_village_118 : decode cX10_village 118 = .ok (.aload_n 0, 1) := by decide +kernel
theorem dX10_village_119 : decode cX10_village 119 = .ok (.aload_n 0, 1) := by decide +kernel
theorem dX10_village_120 : decode cX10_village 120 = .ok (.getfield 64, 3) := by decide +kernel
theorem dX10_village_123 : decode cX10_village 123 = .ok (.putfield 60, 3) := by decide +kernel
theorem dX10_village_126 : decode cX10_village 126 = .ok (.aload_n 0, 1) := by decide +kernel
theorem dX10_village_127 : decode cX10_village 127 = .ok (.aload_n 3, 1) := by decide +kernel
theorem dX10_village_128 : decode cX10_village 128 = .ok (.putfield 64, 3) := by decide +kernel
theorem dX10_village_131 : decode cX10_village 131 = .ok (.aload_n 0, 1) := by decide +kernel
theorem dX10_village_132 : decode cX10_village 132 = .ok (.invokevirtual 122, 3) := by decide +kernel
theorem dX10_village_135 : decode cX10_village 135 = .ok (.aload_n 0, 1) := by decide +kernel
theorem dX10_village_136 : decode cX10_village 136 = .ok (.getfield 60, 3) := by decide +kernel
theorem dX10_village_139 : decode cX10_village 139 = .ok (.getfield 114, 3) := by decide +kernel
theorem dX10_village_142 : decode cX10_village 142 = .ok (.ireturn, 1) := by decide +kernel
theorem dX10_fault_0 : decode cX10_fault 0 = .ok (.aload_n 0, 1) := by decide +kernel
theorem dX10_fault_1 : decode cX10_fault 1 = .ok (.getfield 67, 3) := by decide +kernel
theorem dX10_fault_4 : decode cX10_fault 4 = .ok (.ireturn, 1) := by decide +kernel
theorem dX10_needPerson_0 : decode cX10_needPerson 0 = .ok (.aload_n 0, 1) := by decide +kernel
theorem dX10_needPerson_1 : decode cX10_needPerson 1 = .ok (.getfield 60, 3) := by decide +kernel
theorem dX10_needPerson_4 : decode cX10_needPerson 4 = .ok (.iload_n 1, 1) := by decide +kernel
theorem dX10_needPerson_5 : decode cX10_needPerson 5 = .ok (.invokevirtual 402, 3) := by decide +kernel
theorem dX10_needPerson_8 : decode cX10_needPerson 8 = .ok (.ifCond .ne 14, 3) := by decide +kernel
theorem dX10_needPerson_11 : decode cX10_needPerson 11 = .ok (.new 405, 3) := by decide +kernel
theorem dX10_needPerson_14 : decode cX10_needPerson 14 = .ok (.dup, 1) := by decide +kernel
theorem dX10_needPerson_15 : decode cX10_needPerson 15 = .ok (.ldc_w 407, 3) := by decide +kernel
theorem dX10_needPerson_18 : decode cX10_needPerson 18 = .ok (.invokespecial 409, 3) := by decide +kernel
theorem dX10_needPerson_21 : decode cX10_needPerson 21 = .ok (.athrow, 1) := by decide +kernel
theorem dX10_needPerson_22 : decode cX10_needPerson 22 = .ok (.return_, 1) := by decide +kernel
theorem dX10_person_0 : decode cX10_person 0 = .ok (.aload_n 0, 1) := by decide +kernel
theorem dX10_person_1 : decode cX10_person 1 = .ok (.iload_n 1, 1) := by decide +kernel
theorem dX10_person_2 : decode cX10_person 2 = .ok (.invokevirtual 141, 3) := by decide +kernel
theorem dX10_person_5 : decode cX10_person 5 = .ok (.iload_n 2, 1) := by decide +kernel
theorem dX10_person_6 : decode cX10_person 6 = .ok (.tableswitch 136 0 5 #[38, 54, 66, 75, 110, 123], 38) := by decide +kernel
theorem dX10_person_44 : decode cX10_person 44 = .ok (.aload_n 0, 1) := by decide +kernel
theorem dX10_person_45 : decode cX10_person 45 = .ok (.getfield 60, 3) := by decide +kernel
theorem dX10_person_48 : decode cX10_person 48 = .ok (.aload_n 0, 1) := by decide +kernel
theorem dX10_person_49 : decode cX10_person 49 = .ok (.getfield 60, 3) := by decide +kernel
theorem dX10_person_52 : decode cX10_person 52 = .ok (.getfield 144, 3) := by decide +kernel
theorem dX10_person_55 : decode cX10_person 55 = .ok (.iload_n 1, 1) := by decide +kernel
theorem dX10_person_56 : decode cX10_person 56 = .ok (.invokevirtual 147, 3) := by decide +kernel
theorem dX10_person_59 : decode cX10_person 59 = .ok (.ireturn, 1) := by decide +kernel
theorem dX10_person_60 : decode cX10_person 60 = .ok (.aload_n 0, 1) := by decide +kernel
theorem dX10_person_61 : decode cX10_person 61 = .ok (.getfield 60, 3) := by decide +kernel
theorem dX10_person_64 : decode cX10_person 64 = .ok (.getfield 151, 3) := by decide +kernel
theorem dX10_person_67 : decode cX10_person 67 = .ok (.iload_n 1, 1) := by decide +kernel
theorem dX10_person_68 : decode cX10_person 68 = .ok (.invokevirtual 155, 3) := by decide +kernel
theorem dX10_person_71 : decode cX10_person 71 = .ok (.ireturn, 1) := by decide +kernel
theorem dX10_person_72 : decode cX10_person 72 = .ok (.aload_n 0, 1) := by decide +kernel
theorem dX10_person_73 : decode cX10_person 73 = .ok (.getfield 60, 3) := by decide +kernel
theorem dX10_person_76 : decode cX10_person 76 = .ok (.iload_n 1, 1) := by decide +kernel
theorem dX10_person_77 : decode cX10_person 77 = .ok (.invokevirtual 160, 3) := by decide +kernel
theorem dX10_person_80 : decode cX10_person 80 = .ok (.ireturn, 1) := by decide +kernel
theorem dX10_person_81 : decode cX10_person 81 = .ok (.aload_n 0, 1) := by decide +kernel
theorem dX10_person_82 : decode cX10_person 82 = .ok (.getfield 19, 3) := by decide +kernel
theorem dX10_person_85 : decode cX10_person 85 = .ok (.aload_n 0, 1) := by decide +kernel
theorem dX10_person_86 : decode cX10_person 86 = .ok (.getfield 60, 3) := by decide +kernel
theorem dX10_person_89 : decode cX10_person 89 = .ok (.aload_n 0, 1) := by decide +kernel
theorem dX10_person_90 : decode cX10_person 90 = .ok (.getfield 60, 3) := by decide +kernel
theorem dX10_person_93 : decode cX10_person 93 = .ok (.getfield 163, 3) := by decide +kernel
theorem dX10_person_96 : decode cX10_person 96 = .ok (.iload_n 1, 1) := by decide +kernel
theorem dX10_person_97 : decode cX10_person 97 = .ok (.aload_n 0, 1) := by decide +kernel
theorem dX10_person_98 : decode cX10_person 98 = .ok (.getfield 60, 3) := by decide +kernel
theorem dX10_person_101 : decode cX10_person 101 = .ok (.getfield 144, 3) := by decide +kernel
theorem dX10_person_104 : decode cX10_person 104 = .ok (.invokevirtual 166, 3) := by decide +kernel
theorem dX10_person_107 : decode cX10_person 107 = .ok (.ifCond .eq 7, 3) := by decide +kernel
theorem dX10_person_110 : decode cX10_person 110 = .ok (.iconst 1, 1) := by decide +kernel
theorem dX10_person_111 : decode cX10_person 111 = .ok (.goto 4, 3) := by decide +kernel
theorem dX10_person_114 : decode cX10_person 114 = .ok (.iconst 0, 1) := by decide +kernel
theorem dX10_person_115 : decode cX10_person 115 = .ok (.ireturn, 1) := by decide +kernel
theorem dX10_person_116 : decode cX10_person 116 = .ok (.aload_n 0, 1) := by decide +kernel
theorem dX10_person_117 : decode cX10_person 117 = .ok (.getfield 19, 3) := by decide +kernel
theorem dX10_person_120 : decode cX10_person 120 = .ok (.aload_n 0, 1) := by decide +kernel
theorem dX10_person_121 : decode cX10_person 121 = .ok (.getfield 60, 3) := by decide +kernel
theorem dX10_person_124 : decode cX10_person 124 = .ok (.iload_n 1, 1) := by decide +kernel
theorem dX10_person_125 : decode cX10_person 125 = .ok (.invokevirtual 170, 3) := by decide +kernel
theorem dX10_person_128 : decode cX10_person 128 = .ok (.ireturn, 1) := by decide +kernel
theorem dX10_person_129 : decode cX10_person 129 = .ok (.aload_n 0, 1) := by decide +kernel
theorem dX10_person_130 : decode cX10_person 130 = .ok (.getfield 19, 3) := by decide +kernel
theorem dX10_person_133 : decode cX10_person 133 = .ok (.aload_n 0, 1) := by decide +kernel
theorem dX10_person_134 : decode cX10_person 134 = .ok (.getfield 60, 3) := by decide +kernel
theorem dX10_person_137 : decode cX10_person 137 = .ok (.iload_n 1, 1) := by decide +kernel
theorem dX10_person_138 : decode cX10_person 138 = .ok (.invokevirtual 174, 3) := by decide +kernel
theorem dX10_person_141 : decode cX10_person 141 = .ok (.ireturn, 1) := by decide +kernel
theorem dX10_person_142 : decode cX10_person 142 = .ok (.new 177, 3) := by decide +kernel
theorem dX10_person_145 : decode cX10_person 145 = .ok (.dup, 1) := by decide +kernel
theorem dX10_person_146 : decode cX10_person 146 = .ok (.ldc 179, 2) := by decide +kernel
theorem dX10_person_148 : decode cX10_person 148 = .ok (.invokespecial 181, 3) := by decide +kernel
theorem dX10_person_151 : decode cX10_person 151 = .ok (.athrow, 1) := by decide +kernel
theorem dX10_needWorld_0 : decode cX10_needWorld 0 = .ok (.aload_n 0, 1) := by decide +kernel
theorem dX10_needWorld_1 : decode cX10_needWorld 1 = .ok (.getfield 60, 3) := by decide +kernel
theorem dX10_needWorld_4 : decode cX10_needWorld 4 = .ok (.iload_n 1, 1) := by decide +kernel
theorem dX10_needWorld_5 : decode cX10_needWorld 5 = .ok (.invokevirtual 415, 3) := by decide +kernel
theorem dX10_needWorld_8 : decode cX10_needWorld 8 = .ok (.ifCond .ne 14, 3) := by decide +kernel
theorem dX10_needWorld_11 : decode cX10_needWorld 11 = .ok (.new 405, 3) := by decide +kernel
theorem dX10_needWorld_14 : decode cX10_needWorld 14 = .ok (.dup, 1) := by decide +kernel
theorem dX10_needWorld_15 : decode cX10_needWorld 15 = .ok (.ldc_w 418, 3) := by decide +kernel
theorem dX10_needWorld_18 : decode cX10_needWorld 18 = .ok (.invokespecial 409, 3) := by decide +kernel
theorem dX10_needWorld_21 : decode cX10_needWorld 21 = .ok (.athrow, 1) := by decide +kernel
theorem dX10_needWorld_22 : decode cX10_needWorld 22 = .ok (.return_, 1) := by decide +kernel
theorem dX10_left_0 : decode cX10_left 0 = .ok (.aload_n 0, 1) := by decide +kernel
theorem dX10_left_1 : decode cX10_left 1 = .ok (.iload_n 1, 1) := by decide +kernel
theorem dX10_left_2 : decode cX10_left 2 = .ok (.invokevirtual 182, 3) := by decide +kernel
theorem dX10_left_5 : decode cX10_left 5 = .ok (.aload_n 0, 1) := by decide +kernel
theorem dX10_left_6 : decode cX10_left 6 = .ok (.getfield 60, 3) := by decide +kernel
theorem dX10_left_9 : decode cX10_left 9 = .ok (.iload_n 1, 1) := by decide +kernel
theorem dX10_left_10 : decode cX10_left 10 = .ok (.invokevirtual 185, 3) := by decide +kernel
theorem dX10_left_13 : decode cX10_left 13 = .ok (.ireturn, 1) := by decide +kernel
theorem dX10_needLeft_0 : decode cX10_needLeft 0 = .ok (.aload_n 0, 1) := by decide +kernel
theorem dX10_needLeft_1 : decode cX10_needLeft 1 = .ok (.getfield 60, 3) := by decide +kernel
theorem dX10_needLeft_4 : decode cX10_needLeft 4 = .ok (.iload_n 1, 1) := by decide +kernel
theorem dX10_needLeft_5 : decode cX10_needLeft 5 = .ok (.invokevirtual 185, 3) := by decide +kernel
theorem dX10_needLeft_8 : decode cX10_needLeft 8 = .ok (.ifCond .ne 14, 3) := by decide +kernel
theorem dX10_needLeft_11 : decode cX10_needLeft 11 = .ok (.new 240, 3) := by decide +kernel
theorem dX10_needLeft_14 : decode cX10_needLeft 14 = .ok (.dup, 1) := by decide +kernel
theorem dX10_needLeft_15 : decode cX10_needLeft 15 = .ok (.ldc_w 420, 3) := by decide +kernel
theorem dX10_needLeft_18 : decode cX10_needLeft 18 = .ok (.invokespecial 244, 3) := by decide +kernel
theorem dX10_needLeft_21 : decode cX10_needLeft 21 = .ok (.athrow, 1) := by decide +kernel
theorem dX10_needLeft_22 : decode cX10_needLeft 22 = .ok (.return_, 1) := by decide +kernel
theorem dX10_apart_0 : decode cX10_apart 0 = .ok (.aload_n 0, 1) := by decide +kernel
theorem dX10_apart_1 : decode cX10_apart 1 = .ok (.iload_n 1, 1) := by decide +kernel
theorem dX10_apart_2 : decode cX10_apart 2 = .ok (.invokevirtual 141, 3) := by decide +kernel
theorem dX10_apart_5 : decode cX10_apart 5 = .ok (.aload_n 0, 1) := by decide +kernel
theorem dX10_apart_6 : decode cX10_apart 6 = .ok (.iload_n 2, 1) := by decide +kernel
theorem dX10_apart_7 : decode cX10_apart 7 = .ok (.invokevirtual 182, 3) := by decide +kernel
theorem dX10_apart_10 : decode cX10_apart 10 = .ok (.aload_n 0, 1) := by decide +kernel
theorem dX10_apart_11 : decode cX10_apart 11 = .ok (.iload_n 3, 1) := by decide +kernel
theorem dX10_apart_12 : decode cX10_apart 12 = .ok (.invokevirtual 182, 3) := by decide +kernel
theorem dX10_apart_15 : decode cX10_apart 15 = .ok (.aload_n 0, 1) := by decide +kernel
theorem dX10_apart_16 : decode cX10_apart 16 = .ok (.iload_n 2, 1) := by decide +kernel
theorem dX10_apart_17 : decode cX10_apart 17 = .ok (.invokevirtual 188, 3) := by decide +kernel
theorem dX10_apart_20 : decode cX10_apart 20 = .ok (.aload_n 0, 1) := by decide +kernel
theorem dX10_apart_21 : decode cX10_apart 21 = .ok (.iload_n 3, 1) := by decide +kernel
theorem dX10_apart_22 : decode cX10_apart 22 = .ok (.invokevirtual 188, 3) := by decide +kernel
theorem dX10_apart_25 : decode cX10_apart 25 = .ok (.aload_n 0, 1) := by decide +kernel
theorem dX10_apart_26 : decode cX10_apart 26 = .ok (.getfield 60, 3) := by decide +kernel
theorem dX10_apart_29 : decode cX10_apart 29 = .ok (.iload_n 1, 1) := by decide +kernel
theorem dX10_apart_30 : decode cX10_apart 30 = .ok (.iload_n 2, 1) := by decide +kernel
theorem dX10_apart_31 : decode cX10_apart 31 = .ok (.invokevirtual 191, 3) := by decide +kernel
theorem dX10_apart_34 : decode cX10_apart 34 = .ok (.aload_n 0, 1) := by decide +kernel
theorem dX10_apart_35 : decode cX10_apart 35 = .ok (.getfield 60, 3) := by decide +kernel
theorem dX10_apart_38 : decode cX10_apart 38 = .ok (.iload_n 1, 1) := by decide +kernel
theorem dX10_apart_39 : decode cX10_apart 39 = .ok (.iload_n 3, 1) := by decide +kernel
theorem dX10_apart_40 : decode cX10_apart 40 = .ok (.invokevirtual 191, 3) := by decide +kernel
theorem dX10_apart_43 : decode cX10_apart 43 = .ok (.if_icmp .eq 7, 3) := by decide +kernel
theorem dX10_apart_46 : decode cX10_apart 46 = .ok (.iconst 1, 1) := by decide +kernel
theorem dX10_apart_47 : decode cX10_apart 47 = .ok (.goto 4, 3) := by decide +kernel
theorem dX10_apart_50 : decode cX10_apart 50 = .ok (.iconst 0, 1) := by decide +kernel
theorem dX10_apart_51 : decode cX10_apart 51 = .ok (.ireturn, 1) := by decide +kernel
theorem dX10_sure_0 : decode cX10_sure 0 = .ok (.aload_n 0, 1) := by decide +kernel
theorem dX10_sure_1 : decode cX10_sure 1 = .ok (.iload_n 1, 1) := by decide +kernel
theorem dX10_sure_2 : decode cX10_sure 2 = .ok (.invokevirtual 141, 3) := by decide +kernel
theorem dX10_sure_5 : decode cX10_sure 5 = .ok (.aload_n 0, 1) := by decide +kernel
theorem dX10_sure_6 : decode cX10_sure 6 = .ok (.iload_n 2, 1) := by decide +kernel
theorem dX10_sure_7 : decode cX10_sure 7 = .ok (.invokevirtual 182, 3) := by decide +kernel
theorem dX10_sure_10 : decode cX10_sure 10 = .ok (.aload_n 0, 1) := by decide +kernel
theorem dX10_sure_11 : decode cX10_sure 11 = .ok (.iload_n 2, 1) := by decide +kernel
theorem dX10_sure_12 : decode cX10_sure 12 = .ok (.invokevirtual 188, 3) := by decide +kernel
theorem dX10_sure_15 : decode cX10_sure 15 = .ok (.aload_n 0, 1) := by decide +kernel
theorem dX10_sure_16 : decode cX10_sure 16 = .ok (.getfield 19, 3) := by decide +kernel
theorem dX10_sure_19 : decode cX10_sure 19 = .ok (.aload_n 0, 1) := by decide +kernel
theorem dX10_sure_20 : decode cX10_sure 20 = .ok (.getfield 60, 3) := by decide +kernel
theorem dX10_sure_23 : decode cX10_sure 23 = .ok (.aload_n 0, 1) := by decide +kernel
theorem dX10_sure_24 : decode cX10_sure 24 = .ok (.getfield 60, 3) := by decide +kernel
theorem dX10_sure_27 : decode cX10_sure 27 = .ok (.getfield 163, 3) := by decide +kernel
theorem dX10_sure_30 : decode cX10_sure 30 = .ok (.iload_n 1, 1) := by decide +kernel
theorem dX10_sure_31 : decode cX10_sure 31 = .ok (.iload_n 2, 1) := by decide +kernel
theorem dX10_sure_32 : decode cX10_sure 32 = .ok (.invokevirtual 166, 3) := by decide +kernel
theorem dX10_sure_35 : decode cX10_sure 35 = .ok (.ireturn, 1) := by decide +kernel
theorem dX10_needTwo_0 : decode cX10_needTwo 0 = .ok (.iload_n 1, 1) := by decide +kernel
theorem dX10_needTwo_1 : decode cX10_needTwo 1 = .ok (.iload_n 2, 1) := by decide +kernel
theorem dX10_needTwo_2 : decode cX10_needTwo 2 = .ok (.if_icmp .ne 14, 3) := by decide +kernel
theorem dX10_needTwo_5 : decode cX10_needTwo 5 = .ok (.new 107, 3) := by decide +kernel
theorem dX10_needTwo_8 : decode cX10_needTwo 8 = .ok (.dup, 1) := by decide +kernel
theorem dX10_needTwo_9 : decode cX10_needTwo 9 = .ok (.ldc_w 422, 3) := by decide +kernel
theorem dX10_needTwo_12 : decode cX10_needTwo 12 = .ok (.invokespecial 111, 3) := by decide +kernel
theorem dX10_needTwo_15 : decode cX10_needTwo 15 = .ok (.athrow, 1) := by decide +kernel
theorem dX10_needTwo_16 : decode cX10_needTwo 16 = .ok (.return_, 1) := by decide +kernel
theorem dX10_needSight_0 : decode cX10_needSight 0 = .ok (.aload_n 0, 1) := by decide +kernel
theorem dX10_needSight_1 : decode cX10_needSight 1 = .ok (.getfield 60, 3) := by decide +kernel
theorem dX10_needSight_4 : decode cX10_needSight 4 = .ok (.iload_n 1, 1) := by decide +kernel
theorem dX10_needSight_5 : decode cX10_needSight 5 = .ok (.iload_n 2, 1) := by decide +kernel
theorem dX10_needSight_6 : decode cX10_needSight 6 = .ok (.invokevirtual 424, 3) := by decide +kernel
theorem dX10_needSight_9 : decode cX10_needSight 9 = .ok (.ifCond .ne 14, 3) := by decide +kernel
theorem dX10_needSight_12 : decode cX10_needSight 12 = .ok (.new 240, 3) := by decide +kernel
theorem dX10_needSight_15 : decode cX10_needSight 15 = .ok (.dup, 1) := by decide +kernel
theorem dX10_needSight_16 : decode cX10_needSight 16 = .ok (.ldc_w 428, 3) := by decide +kernel
theorem dX10_needSight_19 : decode cX10_needSight 19 = .ok (.invokespecial 244, 3) := by decide +kernel
theorem dX10_needSight_22 : decode cX10_needSight 22 = .ok (.athrow, 1) := by decide +kernel
theorem dX10_needSight_23 : decode cX10_needSight 23 = .ok (.return_, 1) := by decide +kernel
theorem dX10_manner_0 : decode cX10_manner 0 = .ok (.aload_n 0, 1) := by decide +kernel
theorem dX10_manner_1 : decode cX10_manner 1 = .ok (.iload_n 1, 1) := by decide +kernel
theorem dX10_manner_2 : decode cX10_manner 2 = .ok (.invokevirtual 141, 3) := by decide +kernel
theorem dX10_manner_5 : decode cX10_manner 5 = .ok (.aload_n 0, 1) := by decide +kernel
theorem dX10_manner_6 : decode cX10_manner 6 = .ok (.iload_n 2, 1) := by decide +kernel
theorem dX10_manner_7 : decode cX10_manner 7 = .ok (.invokevirtual 141, 3) := by decide +kernel
theorem dX10_manner_10 : decode cX10_manner 10 = .ok (.aload_n 0, 1) := by decide +kernel
theorem dX10_manner_11 : decode cX10_manner 11 = .ok (.iload_n 3, 1) := by decide +kernel
theorem dX10_manner_12 : decode cX10_manner 12 = .ok (.invokevirtual 182, 3) := by decide +kernel
theorem dX10_manner_15 : decode cX10_manner 15 = .ok (.aload_n 0, 1) := by decide +kernel
theorem dX10_manner_16 : decode cX10_manner 16 = .ok (.iload_n 1, 1) := by decide +kernel
theorem dX10_manner_17 : decode cX10_manner 17 = .ok (.iload_n 2, 1) := by decide +kernel
theorem dX10_manner_18 : decode cX10_manner 18 = .ok (.invokevirtual 194, 3) := by decide +kernel
theorem dX10_manner_21 : decode cX10_manner 21 = .ok (.aload_n 0, 1) := by decide +kernel
theorem dX10_manner_22 : decode cX10_manner 22 = .ok (.iload_n 3, 1) := by decide +kernel
theorem dX10_manner_23 : decode cX10_manner 23 = .ok (.invokevirtual 188, 3) := by decide +kernel
theorem dX10_manner_26 : decode cX10_manner 26 = .ok (.aload_n 0, 1) := by decide +kernel
theorem dX10_manner_27 : decode cX10_manner 27 = .ok (.iload_n 1, 1) := by decide +kernel
theorem dX10_manner_28 : decode cX10_manner 28 = .ok (.iload_n 2, 1) := by decide +kernel
theorem dX10_manner_29 : decode cX10_manner 29 = .ok (.invokevirtual 198, 3) := by decide +kernel
theorem dX10_manner_32 : decode cX10_manner 32 = .ok (.aload_n 0, 1) := by decide +kernel
theorem dX10_manner_33 : decode cX10_manner 33 = .ok (.getfield 19, 3) := by decide +kernel
theorem dX10_manner_36 : decode cX10_manner 36 = .ok (.aload_n 0, 1) := by decide +kernel
theorem dX10_manner_37 : decode cX10_manner 37 = .ok (.getfield 60, 3) := by decide +kernel
theorem dX10_manner_40 : decode cX10_manner 40 = .ok (.iload_n 1, 1) := by decide +kernel
theorem dX10_manner_41 : decode cX10_manner 41 = .ok (.iload_n 2, 1) := by decide +kernel
theorem dX10_manner_42 : decode cX10_manner 42 = .ok (.invokevirtual 201, 3) := by decide +kernel
theorem dX10_manner_45 : decode cX10_manner 45 = .ok (.aload_n 0, 1) := by decide +kernel
theorem dX10_manner_46 : decode cX10_manner 46 = .ok (.getfield 19, 3) := by decide +kernel
theorem dX10_manner_49 : decode cX10_manner 49 = .ok (.iload_n 3, 1) := by decide +kernel
theorem dX10_manner_50 : decode cX10_manner 50 = .ok (.invokevirtual 205, 3) := by decide +kernel
theorem dX10_manner_53 : decode cX10_manner 53 = .ok (.ireturn, 1) := by decide +kernel
theorem dX10_pastAt_0 : decode cX10_pastAt 0 = .ok (.iload_n 1, 1) := by decide +kernel
theorem dX10_pastAt_1 : decode cX10_pastAt 1 = .ok (.ifCond .lt 12, 3) := by decide +kernel
theorem dX10_pastAt_4 : decode cX10_pastAt 4 = .ok (.iload_n 1, 1) := by decide +kernel
theorem dX10_pastAt_5 : decode cX10_pastAt 5 = .ok (.aload_n 0, 1) := by decide +kernel
theorem dX10_pastAt_6 : decode cX10_pastAt 6 = .ok (.getfield 55, 3) := by decide +kernel
theorem dX10_pastAt_9 : decode cX10_pastAt 9 = .ok (.arraylength, 1) := by decide +kernel
theorem dX10_pastAt_10 : decode cX10_pastAt 10 = .ok (.if_icmp .lt 8, 3) := by decide +kernel
theorem dX10_pastAt_13 : decode cX10_pastAt 13 = .ok (.aload_n 0, 1) := by decide +kernel
theorem dX10_pastAt_14 : decode cX10_pastAt 14 = .ok (.getfield 64, 3) := by decide +kernel
theorem dX10_pastAt_17 : decode cX10_pastAt 17 = .ok (.areturn, 1) := by decide +kernel
theorem dX10_pastAt_18 : decode cX10_pastAt 18 = .ok (.aload_n 0, 1) := by decide +kernel
theorem dX10_pastAt_19 : decode cX10_pastAt 19 = .ok (.getfield 55, 3) := by decide +kernel
theorem dX10_pastAt_22 : decode cX10_pastAt 22 = .ok (.iload_n 1, 1) := by decide +kernel
theorem dX10_pastAt_23 : decode cX10_pastAt 23 = .ok (.aaload, 1) := by decide +kernel
theorem dX10_pastAt_24 : decode cX10_pastAt 24 = .ok (.ifnonnull 16, 3) := by decide +kernel
theorem dX10_pastAt_27 : decode cX10_pastAt 27 = .ok (.aload_n 0, 1) := by decide +kernel
theorem dX10_pastAt_28 : decode cX10_pastAt 28 = .ok (.getfield 55, 3) := by decide +kernel
theorem dX10_pastAt_31 : decode cX10_pastAt 31 = .ok (.iload_n 1, 1) := by decide +kernel
theorem dX10_pastAt_32 : decode cX10_pastAt 32 = .ok (.new 53, 3) := by decide +kernel
theorem dX10_pastAt_35 : decode cX10_pastAt 35 = .ok (.dup, 1) := by decide +kernel
theorem dX10_pastAt_36 : decode cX10_pastAt 36 = .ok (.invokespecial 59, 3) := by decide +kernel
theorem dX10_pastAt_39 : decode cX10_pastAt 39 = .ok (.aastore, 1) := by decide +kernel
theorem dX10_pastAt_40 : decode cX10_pastAt 40 = .ok (.aload_n 0, 1) := by decide +kernel
theorem dX10_pastAt_41 : decode cX10_pastAt 41 = .ok (.getfield 55, 3) := by decide +kernel
theorem dX10_pastAt_44 : decode cX10_pastAt 44 = .ok (.iload_n 1, 1) := by decide +kernel
theorem dX10_pastAt_45 : decode cX10_pastAt 45 = .ok (.aaload, 1) := by decide +kernel
theorem dX10_pastAt_46 : decode cX10_pastAt 46 = .ok (.areturn, 1) := by decide +kernel
theorem dX10_remember_0 : decode cX10_remember 0 = .ok (.aload_n 0, 1) := by decide +kernel
theorem dX10_remember_1 : decode cX10_remember 1 = .ok (.aload_n 0, 1) := by decide +kernel
theorem dX10_remember_2 : decode cX10_remember 2 = .ok (.getfield 367, 3) := by decide +kernel
theorem dX10_remember_5 : decode cX10_remember 5 = .ok (.invokevirtual 370, 3) := by decide +kernel
theorem dX10_remember_8 : decode cX10_remember 8 = .ok (.astore_n 1, 1) := by decide +kernel
theorem dX10_remember_9 : decode cX10_remember 9 = .ok (.aload_n 1, 1) := by decide +kernel
theorem dX10_remember_10 : decode cX10_remember 10 = .ok (.aload_n 0, 1) := by decide +kernel
theorem dX10_remember_11 : decode cX10_remember 11 = .ok (.getfield 60, 3) := by decide +kernel
theorem dX10_remember_14 : decode cX10_remember 14 = .ok (.invokevirtual 89, 3) := by decide +kernel
theorem dX10_remember_17 : decode cX10_remember 17 = .ok (.aload_n 0, 1) := by decide +kernel
theorem dX10_remember_18 : decode cX10_remember 18 = .ok (.aload_n 0, 1) := by decide +kernel
theorem dX10_remember_19 : decode cX10_remember 19 = .ok (.getfield 367, 3) := by decide +kernel
theorem dX10_remember_22 : decode cX10_remember 22 = .ok (.iconst 1, 1) := by decide +kernel
theorem dX10_remember_23 : decode cX10_remember 23 = .ok (.iadd, 1) := by decide +kernel
theorem dX10_remember_24 : decode cX10_remember 24 = .ok (.bipush 8, 2) := by decide +kernel
theorem dX10_remember_26 : decode cX10_remember 26 = .ok (.if_icmp .ge 12, 3) := by decide +kernel
theorem dX10_remember_29 : decode cX10_remember 29 = .ok (.aload_n 0, 1) := by decide +kernel
theorem dX10_remember_30 : decode cX10_remember 30 = .ok (.getfield 367, 3) := by decide +kernel
theorem dX10_remember_33 : decode cX10_remember 33 = .ok (.iconst 1, 1) := by decide +kernel
theorem dX10_remember_34 : decode cX10_remember 34 = .ok (.iadd, 1) := by decide +kernel
theorem dX10_remember_35 : decode cX10_remember 35 = .ok (.goto 4, 3) := by decide +kernel
theorem dX10_remember_38 : decode cX10_remember 38 = .ok (.iconst 0, 1) := by decide +kernel
theorem dX10_remember_39 : decode cX10_remember 39 = .ok (.putfield 367, 3) := by decide +kernel
theorem dX10_remember_42 : decode cX10_remember 42 = .ok (.aload_n 0, 1) := by decide +kernel
theorem dX10_remember_43 : decode cX10_remember 43 = .ok (.aload_n 0, 1) := by decide +kernel
theorem dX10_remember_44 : decode cX10_remember 44 = .ok (.getfield 364, 3) := by decide +kernel
theorem dX10_remember_47 : decode cX10_remember 47 = .ok (.iconst 1, 1) := by decide +kernel
theorem dX10_remember_48 : decode cX10_remember 48 = .ok (.iadd, 1) := by decide +kernel
theorem dX10_remember_49 : decode cX10_remember 49 = .ok (.bipush 8, 2) := by decide +kernel
theorem dX10_remember_51 : decode cX10_remember 51 = .ok (.invokestatic 319, 3) := by decide +kernel
theorem dX10_remember_54 : decode cX10_remember 54 = .ok (.putfield 364, 3) := by decide +kernel
theorem dX10_remember_57 : decode cX10_remember 57 = .ok (.aload_n 0, 1) := by decide +kernel
theorem dX10_remember_58 : decode cX10_remember 58 = .ok (.getfield 60, 3) := by decide +kernel
theorem dX10_remember_61 : decode cX10_remember 61 = .ok (.iconst 1, 1) := by decide +kernel
theorem dX10_remember_62 : decode cX10_remember 62 = .ok (.putfield 374, 3) := by decide +kernel
theorem dX10_remember_65 : decode cX10_remember 65 = .ok (.return_, 1) := by decide +kernel
theorem dX10_treat_0 : decode cX10_treat 0 = .ok (.aload_n 0, 1) := by decide +kernel
theorem dX10_treat_1 : decode cX10_treat 1 = .ok (.iload_n 1, 1) := by decide +kernel
theorem dX10_treat_2 : decode cX10_treat 2 = .ok (.invokevirtual 141, 3) := by decide +kernel
theorem dX10_treat_5 : decode cX10_treat 5 = .ok (.aload_n 0, 1) := by decide +kernel
theorem dX10_treat_6 : decode cX10_treat 6 = .ok (.iload_n 2, 1) := by decide +kernel
theorem dX10_treat_7 : decode cX10_treat 7 = .ok (.invokevirtual 141, 3) := by decide +kernel
theorem dX10_treat_10 : decode cX10_treat 10 = .ok (.aload_n 0, 1) := by decide +kernel
theorem dX10_treat_11 : decode cX10_treat 11 = .ok (.iload_n 1, 1) := by decide +kernel
theorem dX10_treat_12 : decode cX10_treat 12 = .ok (.iload_n 2, 1) := by decide +kernel
theorem dX10_treat_13 : decode cX10_treat 13 = .ok (.invokevirtual 194, 3) := by decide +kernel
theorem dX10_treat_16 : decode cX10_treat 16 = .ok (.aload_n 0, 1) := by decide +kernel
theorem dX10_treat_17 : decode cX10_treat 17 = .ok (.iload_n 1, 1) := by decide +kernel
theorem dX10_treat_18 : decode cX10_treat 18 = .ok (.iload_n 2, 1) := by decide +kernel
theorem dX10_treat_19 : decode cX10_treat 19 = .ok (.invokevirtual 198, 3) := by decide +kernel
theorem dX10_treat_22 : decode cX10_treat 22 = .ok (.aload_n 0, 1) := by decide +kernel
theorem dX10_treat_23 : decode cX10_treat 23 = .ok (.invokevirtual 208, 3) := by decide +kernel
theorem dX10_treat_26 : decode cX10_treat 26 = .ok (.aload_n 0, 1) := by decide +kernel
theorem dX10_treat_27 : decode cX10_treat 27 = .ok (.getfield 28, 3) := by decide +kernel
theorem dX10_treat_30 : decode cX10_treat 30 = .ok (.aload_n 0, 1) := by decide +kernel
theorem dX10_treat_31 : decode cX10_treat 31 = .ok (.getfield 60, 3) := by decide +kernel
theorem dX10_treat_34 : decode cX10_treat 34 = .ok (.iload_n 1, 1) := by decide +kernel
theorem dX10_treat_35 : decode cX10_treat 35 = .ok (.iload_n 2, 1) := by decide +kernel
theorem dX10_treat_36 : decode cX10_treat 36 = .ok (.iload_n 3, 1) := by decide +kernel
theorem dX10_treat_37 : decode cX10_treat 37 = .ok (.invokevirtual 211, 3) := by decide +kernel
theorem dX10_treat_40 : decode cX10_treat 40 = .ok (.ireturn, 1) := by decide +kernel
theorem dX10_turn_0 : decode cX10_turn 0 = .ok (.aload_n 0, 1) := by decide +kernel
theorem dX10_turn_1 : decode cX10_turn 1 = .ok (.iload_n 1, 1) := by decide +kernel
theorem dX10_turn_2 : decode cX10_turn 2 = .ok (.invokevirtual 141, 3) := by decide +kernel
theorem dX10_turn_5 : decode cX10_turn 5 = .ok (.aload_n 0, 1) := by decide +kernel
theorem dX10_turn_6 : decode cX10_turn 6 = .ok (.iload_n 2, 1) := by decide +kernel
theorem dX10_turn_7 : decode cX10_turn 7 = .ok (.invokevirtual 141, 3) := by decide +kernel
theorem dX10_turn_10 : decode cX10_turn 10 = .ok (.aload_n 0, 1) := by decide +kernel
theorem dX10_turn_11 : decode cX10_turn 11 = .ok (.invokevirtual 208, 3) := by decide +kernel
theorem dX10_turn_14 : decode cX10_turn 14 = .ok (.aload_n 0, 1) := by decide +kernel
theorem dX10_turn_15 : decode cX10_turn 15 = .ok (.getfield 28, 3) := by decide +kernel
theorem dX10_turn_18 : decode cX10_turn 18 = .ok (.aload_n 0, 1) := by decide +kernel
theorem dX10_turn_19 : decode cX10_turn 19 = .ok (.getfield 60, 3) := by decide +kernel
theorem dX10_turn_22 : decode cX10_turn 22 = .ok (.iload_n 1, 1) := by decide +kernel
theorem dX10_turn_23 : decode cX10_turn 23 = .ok (.iload_n 2, 1) := by decide +kernel
theorem dX10_turn_24 : decode cX10_turn 24 = .ok (.invokevirtual 215, 3) := by decide +kernel
theorem dX10_turn_27 : decode cX10_turn 27 = .ok (.ireturn, 1) := by decide +kernel
theorem dX10_ask_0 : decode cX10_ask 0 = .ok (.aload_n 0, 1) := by decide +kernel
theorem dX10_ask_1 : decode cX10_ask 1 = .ok (.iload_n 1, 1) := by decide +kernel
theorem dX10_ask_2 : decode cX10_ask 2 = .ok (.invokevirtual 141, 3) := by decide +kernel
theorem dX10_ask_5 : decode cX10_ask 5 = .ok (.aload_n 0, 1) := by decide +kernel
theorem dX10_ask_6 : decode cX10_ask 6 = .ok (.invokevirtual 208, 3) := by decide +kernel
theorem dX10_ask_9 : decode cX10_ask 9 = .ok (.aload_n 0, 1) := by decide +kernel
theorem dX10_ask_10 : decode cX10_ask 10 = .ok (.getfield 28, 3) := by decide +kernel
theorem dX10_ask_13 : decode cX10_ask 13 = .ok (.aload_n 0, 1) := by decide +kernel
theorem dX10_ask_14 : decode cX10_ask 14 = .ok (.getfield 60, 3) := by decide +kernel
theorem dX10_ask_17 : decode cX10_ask 17 = .ok (.iload_n 1, 1) := by decide +kernel
theorem dX10_ask_18 : decode cX10_ask 18 = .ok (.invokevirtual 219, 3) := by decide +kernel
theorem dX10_ask_21 : decode cX10_ask 21 = .ok (.ireturn, 1) := by decide +kernel
theorem dX10_day_0 : decode cX10_day 0 = .ok (.aload_n 0, 1) := by decide +kernel
theorem dX10_day_1 : decode cX10_day 1 = .ok (.invokevirtual 208, 3) := by decide +kernel
theorem dX10_day_4 : decode cX10_day 4 = .ok (.aload_n 0, 1) := by decide +kernel
theorem dX10_day_5 : decode cX10_day 5 = .ok (.getfield 28, 3) := by decide +kernel
theorem dX10_day_8 : decode cX10_day 8 = .ok (.aload_n 0, 1) := by decide +kernel
theorem dX10_day_9 : decode cX10_day 9 = .ok (.getfield 60, 3) := by decide +kernel
theorem dX10_day_12 : decode cX10_day 12 = .ok (.invokevirtual 223, 3) := by decide +kernel
theorem dX10_day_15 : decode cX10_day 15 = .ok (.ireturn, 1) := by decide +kernel
theorem dX10_read_0 : decode cX10_read 0 = .ok (.aload_n 0, 1) := by decide +kernel
theorem dX10_read_1 : decode cX10_read 1 = .ok (.iload_n 1, 1) := by decide +kernel
theorem dX10_read_2 : decode cX10_read 2 = .ok (.invokevirtual 141, 3) := by decide +kernel
theorem dX10_read_5 : decode cX10_read 5 = .ok (.aload_n 0, 1) := by decide +kernel
theorem dX10_read_6 : decode cX10_read 6 = .ok (.invokevirtual 208, 3) := by decide +kernel
theorem dX10_read_9 : decode cX10_read 9 = .ok (.aload_n 0, 1) := by decide +kernel
theorem dX10_read_10 : decode cX10_read 10 = .ok (.getfield 28, 3) := by decide +kernel
theorem dX10_read_13 : decode cX10_read 13 = .ok (.aload_n 0, 1) := by decide +kernel
theorem dX10_read_14 : decode cX10_read 14 = .ok (.getfield 60, 3) := by decide +kernel
theorem dX10_read_17 : decode cX10_read 17 = .ok (.iload_n 1, 1) := by decide +kernel
theorem dX10_read_18 : decode cX10_read 18 = .ok (.invokevirtual 227, 3) := by decide +kernel
theorem dX10_read_21 : decode cX10_read 21 = .ok (.ireturn, 1) := by decide +kernel
theorem dX10_needNotice_0 : decode cX10_needNotice 0 = .ok (.aload_n 0, 1) := by decide +kernel
theorem dX10_needNotice_1 : decode cX10_needNotice 1 = .ok (.getfield 60, 3) := by decide +kernel
theorem dX10_needNotice_4 : decode cX10_needNotice 4 = .ok (.iload_n 1, 1) := by decide +kernel
theorem dX10_needNotice_5 : decode cX10_needNotice 5 = .ok (.invokevirtual 410, 3) := by decide +kernel
theorem dX10_needNotice_8 : decode cX10_needNotice 8 = .ok (.ifCond .ne 14, 3) := by decide +kernel
theorem dX10_needNotice_11 : decode cX10_needNotice 11 = .ok (.new 405, 3) := by decide +kernel
theorem dX10_needNotice_14 : decode cX10_needNotice 14 = .ok (.dup, 1) := by decide +kernel
theorem dX10_needNotice_15 : decode cX10_needNotice 15 = .ok (.ldc_w 413, 3) := by decide +kernel
theorem dX10_needNotice_18 : decode cX10_needNotice 18 = .ok (.invokespecial 409, 3) := by decide +kernel
theorem dX10_needNotice_21 : decode cX10_needNotice 21 = .ok (.athrow, 1) := by decide +kernel
theorem dX10_needNotice_22 : decode cX10_needNotice 22 = .ok (.return_, 1) := by decide +kernel
theorem dX10_needNumber_0 : decode cX10_needNumber 0 = .ok (.iload_n 1, 1) := by decide +kernel
theorem dX10_needNumber_1 : decode cX10_needNumber 1 = .ok (.iload_n 2, 1) := by decide +kernel
theorem dX10_needNumber_2 : decode cX10_needNumber 2 = .ok (.if_icmp .lt 8, 3) := by decide +kernel
theorem dX10_needNumber_5 : decode cX10_needNumber 5 = .ok (.iload_n 1, 1) := by decide +kernel
theorem dX10_needNumber_6 : decode cX10_needNumber 6 = .ok (.iload_n 3, 1) := by decide +kernel
theorem dX10_needNumber_7 : decode cX10_needNumber 7 = .ok (.if_icmp .le 14, 3) := by decide +kernel
theorem dX10_needNumber_10 : decode cX10_needNumber 10 = .ok (.new 107, 3) := by decide +kernel
theorem dX10_needNumber_13 : decode cX10_needNumber 13 = .ok (.dup, 1) := by decide +kernel
theorem dX10_needNumber_14 : decode cX10_needNumber 14 = .ok (.ldc_w 430, 3) := by decide +kernel
theorem dX10_needNumber_17 : decode cX10_needNumber 17 = .ok (.invokespecial 111, 3) := by decide +kernel
theorem dX10_needNumber_20 : decode cX10_needNumber 20 = .ok (.athrow, 1) := by decide +kernel
theorem dX10_needNumber_21 : decode cX10_needNumber 21 = .ok (.return_, 1) := by decide +kernel
theorem dX10_claim_0 : decode cX10_claim 0 = .ok (.aload_n 0, 1) := by decide +kernel
theorem dX10_claim_1 : decode cX10_claim 1 = .ok (.iload_n 2, 1) := by decide +kernel
theorem dX10_claim_2 : decode cX10_claim 2 = .ok (.invokevirtual 230, 3) := by decide +kernel
theorem dX10_claim_5 : decode cX10_claim 5 = .ok (.aload_n 0, 1) := by decide +kernel
theorem dX10_claim_6 : decode cX10_claim 6 = .ok (.iload_n 1, 1) := by decide +kernel
theorem dX10_claim_7 : decode cX10_claim 7 = .ok (.iconst 0, 1) := by decide +kernel
theorem dX10_claim_8 : decode cX10_claim 8 = .ok (.bipush 9, 2) := by decide +kernel
theorem dX10_claim_10 : decode cX10_claim 10 = .ok (.invokevirtual 233, 3) := by decide +kernel
theorem dX10_claim_13 : decode cX10_claim 13 = .ok (.aload_n 0, 1) := by decide +kernel
theorem dX10_claim_14 : decode cX10_claim 14 = .ok (.getfield 60, 3) := by decide +kernel
theorem dX10_claim_17 : decode cX10_claim 17 = .ok (.aload_n 0, 1) := by decide +kernel
theorem dX10_claim_18 : decode cX10_claim 18 = .ok (.getfield 60, 3) := by decide +kernel
theorem dX10_claim_21 : decode cX10_claim 21 = .ok (.getfield 144, 3) := by decide +kernel
theorem dX10_claim_24 : decode cX10_claim 24 = .ok (.iload_n 2, 1) := by decide +kernel
theorem dX10_claim_25 : decode cX10_claim 25 = .ok (.invokevirtual 237, 3) := by decide +kernel
theorem dX10_claim_28 : decode cX10_claim 28 = .ok (.iload_n 1, 1) := by decide +kernel
theorem dX10_claim_29 : decode cX10_claim 29 = .ok (.if_icmp .ge 13, 3) := by decide +kernel
theorem dX10_claim_32 : decode cX10_claim 32 = .ok (.new 240, 3) := by decide +kernel
theorem dX10_claim_35 : decode cX10_claim 35 = .ok (.dup, 1) := by decide +kernel
theorem dX10_claim_36 : decode cX10_claim 36 = .ok (.ldc 242, 2) := by decide +kernel
theorem dX10_claim_38 : decode cX10_claim 38 = .ok (.invokespecial 244, 3) := by decide +kernel
theorem dX10_claim_41 : decode cX10_claim 41 = .ok (.athrow, 1) := by decide +kernel
theorem dX10_claim_42 : decode cX10_claim 42 = .ok (.aload_n 0, 1) := by decide +kernel
theorem dX10_claim_43 : decode cX10_claim 43 = .ok (.invokevirtual 208, 3) := by decide +kernel
theorem dX10_claim_46 : decode cX10_claim 46 = .ok (.aload_n 0, 1) := by decide +kernel
theorem dX10_claim_47 : decode cX10_claim 47 = .ok (.getfield 28, 3) := by decide +kernel
theorem dX10_claim_50 : decode cX10_claim 50 = .ok (.aload_n 0, 1) := by decide +kernel
theorem dX10_claim_51 : decode cX10_claim 51 = .ok (.getfield 60, 3) := by decide +kernel
theorem dX10_claim_54 : decode cX10_claim 54 = .ok (.iload_n 1, 1) := by decide +kernel
theorem dX10_claim_55 : decode cX10_claim 55 = .ok (.iload_n 2, 1) := by decide +kernel
theorem dX10_claim_56 : decode cX10_claim 56 = .ok (.invokevirtual 245, 3) := by decide +kernel
theorem dX10_claim_59 : decode cX10_claim 59 = .ok (.ireturn, 1) := by decide +kernel
theorem dX10_query_0 : decode cX10_query 0 = .ok (.aload_n 0, 1) := by decide +kernel
theorem dX10_query_1 : decode cX10_query 1 = .ok (.iload_n 1, 1) := by decide +kernel
theorem dX10_query_2 : decode cX10_query 2 = .ok (.invokevirtual 141, 3) := by decide +kernel
theorem dX10_query_5 : decode cX10_query 5 = .ok (.aload_n 0, 1) := by decide +kernel
theorem dX10_query_6 : decode cX10_query 6 = .ok (.iload_n 2, 1) := by decide +kernel
theorem dX10_query_7 : decode cX10_query 7 = .ok (.invokevirtual 141, 3) := by decide +kernel
theorem dX10_query_10 : decode cX10_query 10 = .ok (.aload_n 0, 1) := by decide +kernel
theorem dX10_query_11 : decode cX10_query 11 = .ok (.iload_n 3, 1) := by decide +kernel
theorem dX10_query_12 : decode cX10_query 12 = .ok (.invokevirtual 230, 3) := by decide +kernel
theorem dX10_query_15 : decode cX10_query 15 = .ok (.aload_n 0, 1) := by decide +kernel
theorem dX10_query_16 : decode cX10_query 16 = .ok (.invokevirtual 208, 3) := by decide +kernel
theorem dX10_query_19 : decode cX10_query 19 = .ok (.aload_n 0, 1) := by decide +kernel
theorem dX10_query_20 : decode cX10_query 20 = .ok (.getfield 28, 3) := by decide +kernel
theorem dX10_query_23 : decode cX10_query 23 = .ok (.aload_n 0, 1) := by decide +kernel
theorem dX10_query_24 : decode cX10_query 24 = .ok (.getfield 60, 3) := by decide +kernel
theorem dX10_query_27 : decode cX10_query 27 = .ok (.iload_n 1, 1) := by decide +kernel
theorem dX10_query_28 : decode cX10_query 28 = .ok (.iload_n 2, 1) := by decide +kernel
theorem dX10_query_29 : decode cX10_query 29 = .ok (.iload_n 3, 1) := by decide +kernel
theorem dX10_query_30 : decode cX10_query 30 = .ok (.invokevirtual 248, 3) := by decide +kernel
theorem dX10_query_33 : decode cX10_query 33 = .ok (.ireturn, 1) := by decide +kernel
theorem dX10_stroll_0 : decode cX10_stroll 0 = .ok (.aload_n 0, 1) := by decide +kernel
theorem dX10_stroll_1 : decode cX10_stroll 1 = .ok (.iload_n 1, 1) := by decide +kernel
theorem dX10_stroll_2 : decode cX10_stroll 2 = .ok (.iconst 1, 1) := by decide +kernel
theorem dX10_stroll_3 : decode cX10_stroll 3 = .ok (.bipush 30, 2) := by decide +kernel
theorem dX10_stroll_5 : decode cX10_stroll 5 = .ok (.invokevirtual 233, 3) := by decide +kernel
theorem dX10_stroll_8 : decode cX10_stroll 8 = .ok (.aload_n 0, 1) := by decide +kernel
theorem dX10_stroll_9 : decode cX10_stroll 9 = .ok (.invokevirtual 208, 3) := by decide +kernel
theorem dX10_stroll_12 : decode cX10_stroll 12 = .ok (.aload_n 0, 1) := by decide +kernel
theorem dX10_stroll_13 : decode cX10_stroll 13 = .ok (.getfield 28, 3) := by decide +kernel
theorem dX10_stroll_16 : decode cX10_stroll 16 = .ok (.aload_n 0, 1) := by decide +kernel
theorem dX10_stroll_17 : decode cX10_stroll 17 = .ok (.getfield 60, 3) := by decide +kernel
theorem dX10_stroll_20 : decode cX10_stroll 20 = .ok (.iload_n 1, 1) := by decide +kernel
theorem dX10_stroll_21 : decode cX10_stroll 21 = .ok (.invokevirtual 252, 3) := by decide +kernel
theorem dX10_stroll_24 : decode cX10_stroll 24 = .ok (.ireturn, 1) := by decide +kernel
theorem dX10_possible_0 : decode cX10_possible 0 = .ok (.aload_n 0, 1) := by decide +kernel
theorem dX10_possible_1 : decode cX10_possible 1 = .ok (.iload_n 1, 1) := by decide +kernel
theorem dX10_possible_2 : decode cX10_possible 2 = .ok (.invokevirtual 141, 3) := by decide +kernel
theorem dX10_possible_5 : decode cX10_possible 5 = .ok (.aload_n 0, 1) := by decide +kernel
theorem dX10_possible_6 : decode cX10_possible 6 = .ok (.iload_n 2, 1) := by decide +kernel
theorem dX10_possible_7 : decode cX10_possible 7 = .ok (.invokevirtual 141, 3) := by decide +kernel
theorem dX10_possible_10 : decode cX10_possible 10 = .ok (.aload_n 0, 1) := by decide +kernel
theorem dX10_possible_11 : decode cX10_possible 11 = .ok (.getfield 19, 3) := by decide +kernel
theorem dX10_possible_14 : decode cX10_possible 14 = .ok (.aload_n 0, 1) := by decide +kernel
theorem dX10_possible_15 : decode cX10_possible 15 = .ok (.getfield 60, 3) := by decide +kernel
theorem dX10_possible_18 : decode cX10_possible 18 = .ok (.aload_n 0, 1) := by decide +kernel
theorem dX10_possible_19 : decode cX10_possible 19 = .ok (.getfield 60, 3) := by decide +kernel
theorem dX10_possible_22 : decode cX10_possible 22 = .ok (.getfield 163, 3) := by decide +kernel
theorem dX10_possible_25 : decode cX10_possible 25 = .ok (.iload_n 1, 1) := by decide +kernel
theorem dX10_possible_26 : decode cX10_possible 26 = .ok (.iload_n 2, 1) := by decide +kernel
theorem dX10_possible_27 : decode cX10_possible 27 = .ok (.aload_n 0, 1) := by decide +kernel
theorem dX10_possible_28 : decode cX10_possible 28 = .ok (.getfield 60, 3) := by decide +kernel
theorem dX10_possible_31 : decode cX10_possible 31 = .ok (.getfield 144, 3) := by decide +kernel
theorem dX10_possible_34 : decode cX10_possible 34 = .ok (.invokevirtual 255, 3) := by decide +kernel
theorem dX10_possible_37 : decode cX10_possible 37 = .ok (.ireturn, 1) := by decide +kernel
theorem dX10_knows_0 : decode cX10_knows 0 = .ok (.aload_n 0, 1) := by decide +kernel
theorem dX10_knows_1 : decode cX10_knows 1 = .ok (.iload_n 1, 1) := by decide +kernel
theorem dX10_knows_2 : decode cX10_knows 2 = .ok (.invokevirtual 141, 3) := by decide +kernel
theorem dX10_knows_5 : decode cX10_knows 5 = .ok (.aload_n 0, 1) := by decide +kernel
theorem dX10_knows_6 : decode cX10_knows 6 = .ok (.iload_n 2, 1) := by decide +kernel
theorem dX10_knows_7 : decode cX10_knows 7 = .ok (.invokevirtual 141, 3) := by decide +kernel
theorem dX10_knows_10 : decode cX10_knows 10 = .ok (.aload_n 0, 1) := by decide +kernel
theorem dX10_knows_11 : decode cX10_knows 11 = .ok (.getfield 19, 3) := by decide +kernel
theorem dX10_knows_14 : decode cX10_knows 14 = .ok (.aload_n 0, 1) := by decide +kernel
theorem dX10_knows_15 : decode cX10_knows 15 = .ok (.getfield 19, 3) := by decide +kernel
theorem dX10_knows_18 : decode cX10_knows 18 = .ok (.aload_n 0, 1) := by decide +kernel
theorem dX10_knows_19 : decode cX10_knows 19 = .ok (.getfield 60, 3) := by decide +kernel
theorem dX10_knows_22 : decode cX10_knows 22 = .ok (.aload_n 0, 1) := by decide +kernel
theorem dX10_knows_23 : decode cX10_knows 23 = .ok (.getfield 60, 3) := by decide +kernel
theorem dX10_knows_26 : decode cX10_knows 26 = .ok (.getfield 163, 3) := by decide +kernel
theorem dX10_knows_29 : decode cX10_knows 29 = .ok (.iload_n 1, 1) := by decide +kernel
theorem dX10_knows_30 : decode cX10_knows 30 = .ok (.iload_n 2, 1) := by decide +kernel
theorem dX10_knows_31 : decode cX10_knows 31 = .ok (.aload_n 0, 1) := by decide +kernel
theorem dX10_knows_32 : decode cX10_knows 32 = .ok (.getfield 60, 3) := by decide +kernel
theorem dX10_knows_35 : decode cX10_knows 35 = .ok (.getfield 144, 3) := by decide +kernel
theorem dX10_knows_38 : decode cX10_knows 38 = .ok (.invokevirtual 255, 3) := by decide +kernel
theorem dX10_knows_41 : decode cX10_knows 41 = .ok (.invokevirtual 259, 3) := by decide +kernel
theorem dX10_knows_44 : decode cX10_knows 44 = .ok (.ireturn, 1) := by decide +kernel
theorem dX10_thinks_0 : decode cX10_thinks 0 = .ok (.aload_n 0, 1) := by decide +kernel
theorem dX10_thinks_1 : decode cX10_thinks 1 = .ok (.iload_n 1, 1) := by decide +kernel
theorem dX10_thinks_2 : decode cX10_thinks 2 = .ok (.invokevirtual 141, 3) := by decide +kernel
theorem dX10_thinks_5 : decode cX10_thinks 5 = .ok (.aload_n 0, 1) := by decide +kernel
theorem dX10_thinks_6 : decode cX10_thinks 6 = .ok (.iload_n 2, 1) := by decide +kernel
theorem dX10_thinks_7 : decode cX10_thinks 7 = .ok (.invokevirtual 141, 3) := by decide +kernel
theorem dX10_thinks_10 : decode cX10_thinks 10 = .ok (.aload_n 0, 1) := by decide +kernel
theorem dX10_thinks_11 : decode cX10_thinks 11 = .ok (.iload_n 3, 1) := by decide +kernel
theorem dX10_thinks_12 : decode cX10_thinks 12 = .ok (.invokevirtual 141, 3) := by decide +kernel
theorem dX10_thinks_15 : decode cX10_thinks 15 = .ok (.aload_n 0, 1) := by decide +kernel
theorem dX10_thinks_16 : decode cX10_thinks 16 = .ok (.getfield 19, 3) := by decide +kernel
theorem dX10_thinks_19 : decode cX10_thinks 19 = .ok (.aload_n 0, 1) := by decide +kernel
theorem dX10_thinks_20 : decode cX10_thinks 20 = .ok (.getfield 60, 3) := by decide +kernel
theorem dX10_thinks_23 : decode cX10_thinks 23 = .ok (.iload_n 1, 1) := by decide +kernel
theorem dX10_thinks_24 : decode cX10_thinks 24 = .ok (.iload_n 2, 1) := by decide +kernel
theorem dX10_thinks_25 : decode cX10_thinks 25 = .ok (.iload_n 3, 1) := by decide +kernel
theorem dX10_thinks_26 : decode cX10_thinks 26 = .ok (.invokevirtual 262, 3) := by decide +kernel
theorem dX10_thinks_29 : decode cX10_thinks 29 = .ok (.ireturn, 1) := by decide +kernel
theorem dX10_common_0 : decode cX10_common 0 = .ok (.aload_n 0, 1) := by decide +kernel
theorem dX10_common_1 : decode cX10_common 1 = .ok (.iload_n 1, 1) := by decide +kernel
theorem dX10_common_2 : decode cX10_common 2 = .ok (.invokevirtual 141, 3) := by decide +kernel
theorem dX10_common_5 : decode cX10_common 5 = .ok (.aload_n 0, 1) := by decide +kernel
theorem dX10_common_6 : decode cX10_common 6 = .ok (.getfield 19, 3) := by decide +kernel
theorem dX10_common_9 : decode cX10_common 9 = .ok (.aload_n 0, 1) := by decide +kernel
theorem dX10_common_10 : decode cX10_common 10 = .ok (.getfield 60, 3) := by decide +kernel
theorem dX10_common_13 : decode cX10_common 13 = .ok (.iload_n 1, 1) := by decide +kernel
theorem dX10_common_14 : decode cX10_common 14 = .ok (.invokevirtual 266, 3) := by decide +kernel
theorem dX10_common_17 : decode cX10_common 17 = .ok (.ireturn, 1) := by decide +kernel
theorem dX10_needPersonOrNone_0 : decode cX10_needPersonOrNone 0 = .ok (.iload_n 1, 1) := by decide +kernel
theorem dX10_needPersonOrNone_1 : decode cX10_needPersonOrNone 1 = .ok (.iconst (-1), 1) := by decide +kernel
theorem dX10_needPersonOrNone_2 : decode cX10_needPersonOrNone 2 = .ok (.if_icmp .eq 8, 3) := by decide +kernel
theorem dX10_needPersonOrNone_5 : decode cX10_needPersonOrNone 5 = .ok (.aload_n 0, 1) := by decide +kernel
theorem dX10_needPersonOrNone_6 : decode cX10_needPersonOrNone 6 = .ok (.iload_n 1, 1) := by decide +kernel
theorem dX10_needPersonOrNone_7 : decode cX10_needPersonOrNone 7 = .ok (.invokevirtual 141, 3) := by decide +kernel
theorem dX10_needPersonOrNone_10 : decode cX10_needPersonOrNone 10 = .ok (.return_, 1) := by decide +kernel
theorem dX10_muddy_0 : decode cX10_muddy 0 = .ok (.aload_n 0, 1) := by decide +kernel
theorem dX10_muddy_1 : decode cX10_muddy 1 = .ok (.iload_n 1, 1) := by decide +kernel
theorem dX10_muddy_2 : decode cX10_muddy 2 = .ok (.invokevirtual 269, 3) := by decide +kernel
theorem dX10_muddy_5 : decode cX10_muddy 5 = .ok (.aload_n 0, 1) := by decide +kernel
theorem dX10_muddy_6 : decode cX10_muddy 6 = .ok (.getfield 19, 3) := by decide +kernel
theorem dX10_muddy_9 : decode cX10_muddy 9 = .ok (.aload_n 0, 1) := by decide +kernel
theorem dX10_muddy_10 : decode cX10_muddy 10 = .ok (.getfield 60, 3) := by decide +kernel
theorem dX10_muddy_13 : decode cX10_muddy 13 = .ok (.iload_n 1, 1) := by decide +kernel
theorem dX10_muddy_14 : decode cX10_muddy 14 = .ok (.invokevirtual 272, 3) := by decide +kernel
theorem dX10_muddy_17 : decode cX10_muddy 17 = .ok (.ireturn, 1) := by decide +kernel
theorem dX10_backs_0 : decode cX10_backs 0 = .ok (.aload_n 0, 1) := by decide +kernel
theorem dX10_backs_1 : decode cX10_backs 1 = .ok (.iload_n 1, 1) := by decide +kernel
theorem dX10_backs_2 : decode cX10_backs 2 = .ok (.invokevirtual 141, 3) := by decide +kernel
theorem dX10_backs_5 : decode cX10_backs 5 = .ok (.aload_n 0, 1) := by decide +kernel
theorem dX10_backs_6 : decode cX10_backs 6 = .ok (.getfield 35, 3) := by decide +kernel
theorem dX10_backs_9 : decode cX10_backs 9 = .ok (.aload_n 0, 1) := by decide +kernel
theorem dX10_backs_10 : decode cX10_backs 10 = .ok (.getfield 60, 3) := by decide +kernel
theorem dX10_backs_13 : decode cX10_backs 13 = .ok (.iload_n 1, 1) := by decide +kernel
theorem dX10_backs_14 : decode cX10_backs 14 = .ok (.invokevirtual 275, 3) := by decide +kernel
theorem dX10_backs_17 : decode cX10_backs 17 = .ok (.ireturn, 1) := by decide +kernel
theorem dX10_gives_0 : decode cX10_gives 0 = .ok (.aload_n 0, 1) := by decide +kernel
theorem dX10_gives_1 : decode cX10_gives 1 = .ok (.iload_n 1, 1) := by decide +kernel
theorem dX10_gives_2 : decode cX10_gives 2 = .ok (.invokevirtual 141, 3) := by decide +kernel
theorem dX10_gives_5 : decode cX10_gives 5 = .ok (.aload_n 0, 1) := by decide +kernel
theorem dX10_gives_6 : decode cX10_gives 6 = .ok (.getfield 19, 3) := by decide +kernel
theorem dX10_gives_9 : decode cX10_gives 9 = .ok (.aload_n 0, 1) := by decide +kernel
theorem dX10_gives_10 : decode cX10_gives 10 = .ok (.getfield 60, 3) := by decide +kernel
theorem dX10_gives_13 : decode cX10_gives 13 = .ok (.iload_n 1, 1) := by decide +kernel
theorem dX10_gives_14 : decode cX10_gives 14 = .ok (.invokevirtual 278, 3) := by decide +kernel
theorem dX10_gives_17 : decode cX10_gives 17 = .ok (.ireturn, 1) := by decide +kernel
theorem dX10_never_0 : decode cX10_never 0 = .ok (.aload_n 0, 1) := by decide +kernel
theorem dX10_never_1 : decode cX10_never 1 = .ok (.iload_n 1, 1) := by decide +kernel
theorem dX10_never_2 : decode cX10_never 2 = .ok (.invokevirtual 141, 3) := by decide +kernel
theorem dX10_never_5 : decode cX10_never 5 = .ok (.aload_n 0, 1) := by decide +kernel
theorem dX10_never_6 : decode cX10_never 6 = .ok (.getfield 19, 3) := by decide +kernel
theorem dX10_never_9 : decode cX10_never 9 = .ok (.aload_n 0, 1) := by decide +kernel
theorem dX10_never_10 : decode cX10_never 10 = .ok (.getfield 60, 3) := by decide +kernel
theorem dX10_never_13 : decode cX10_never 13 = .ok (.iload_n 1, 1) := by decide +kernel
theorem dX10_never_14 : decode cX10_never 14 = .ok (.invokevirtual 281, 3) := by decide +kernel
theorem dX10_never_17 : decode cX10_never 17 = .ok (.ireturn, 1) := by decide +kernel
theorem dX10_question_0 : decode cX10_question 0 = .ok (.aload_n 0, 1) := by decide +kernel
theorem dX10_question_1 : decode cX10_question 1 = .ok (.iload_n 1, 1) := by decide +kernel
theorem dX10_question_2 : decode cX10_question 2 = .ok (.invokevirtual 141, 3) := by decide +kernel
theorem dX10_question_5 : decode cX10_question 5 = .ok (.aload_n 0, 1) := by decide +kernel
theorem dX10_question_6 : decode cX10_question 6 = .ok (.getfield 35, 3) := by decide +kernel
theorem dX10_question_9 : decode cX10_question 9 = .ok (.aload_n 0, 1) := by decide +kernel
theorem dX10_question_10 : decode cX10_question 10 = .ok (.getfield 60, 3) := by decide +kernel
theorem dX10_question_13 : decode cX10_question 13 = .ok (.iload_n 1, 1) := by decide +kernel
theorem dX10_question_14 : decode cX10_question 14 = .ok (.invokevirtual 284, 3) := by decide +kernel
theorem dX10_question_17 : decode cX10_question 17 = .ok (.ireturn, 1) := by decide +kernel
theorem dX10_queries_0 : decode cX10_queries 0 = .ok (.aload_n 0, 1) := by decide +kernel
theorem dX10_queries_1 : decode cX10_queries 1 = .ok (.iload_n 1, 1) := by decide +kernel
theorem dX10_queries_2 : decode cX10_queries 2 = .ok (.invokevirtual 141, 3) := by decide +kernel
theorem dX10_queries_5 : decode cX10_queries 5 = .ok (.aload_n 0, 1) := by decide +kernel
theorem dX10_queries_6 : decode cX10_queries 6 = .ok (.getfield 35, 3) := by decide +kernel
theorem dX10_queries_9 : decode cX10_queries 9 = .ok (.aload_n 0, 1) := by decide +kernel
theorem dX10_queries_10 : decode cX10_queries 10 = .ok (.getfield 60, 3) := by decide +kernel
theorem dX10_queries_13 : decode cX10_queries 13 = .ok (.iload_n 1, 1) := by decide +kernel
theorem dX10_queries_14 : decode cX10_queries 14 = .ok (.invokevirtual 287, 3) := by decide +kernel
theorem dX10_queries_17 : decode cX10_queries 17 = .ok (.ireturn, 1) := by decide +kernel
theorem dX10_spill_0 : decode cX10_spill 0 = .ok (.aload_n 0, 1) := by decide +kernel
theorem dX10_spill_1 : decode cX10_spill 1 = .ok (.iload_n 1, 1) := by decide +kernel
theorem dX10_spill_2 : decode cX10_spill 2 = .ok (.invokevirtual 141, 3) := by decide +kernel
theorem dX10_spill_5 : decode cX10_spill 5 = .ok (.aload_n 0, 1) := by decide +kernel
theorem dX10_spill_6 : decode cX10_spill 6 = .ok (.getfield 19, 3) := by decide +kernel
theorem dX10_spill_9 : decode cX10_spill 9 = .ok (.aload_n 0, 1) := by decide +kernel
theorem dX10_spill_10 : decode cX10_spill 10 = .ok (.getfield 60, 3) := by decide +kernel
theorem dX10_spill_13 : decode cX10_spill 13 = .ok (.iload_n 1, 1) := by decide +kernel
theorem dX10_spill_14 : decode cX10_spill 14 = .ok (.invokevirtual 290, 3) := by decide +kernel
theorem dX10_spill_17 : decode cX10_spill 17 = .ok (.ireturn, 1) := by decide +kernel
theorem dX10_quiet_0 : decode cX10_quiet 0 = .ok (.iconst 0, 1) := by decide +kernel
theorem dX10_quiet_1 : decode cX10_quiet 1 = .ok (.istore_n 1, 1) := by decide +kernel
theorem dX10_quiet_2 : decode cX10_quiet 2 = .ok (.iconst 0, 1) := by decide +kernel
theorem dX10_quiet_3 : decode cX10_quiet 3 = .ok (.istore_n 2, 1) := by decide +kernel
theorem dX10_quiet_4 : decode cX10_quiet 4 = .ok (.iload_n 2, 1) := by decide +kernel
theorem dX10_quiet_5 : decode cX10_quiet 5 = .ok (.aload_n 0, 1) := by decide +kernel
theorem dX10_quiet_6 : decode cX10_quiet 6 = .ok (.getfield 60, 3) := by decide +kernel
theorem dX10_quiet_9 : decode cX10_quiet 9 = .ok (.getfield 293, 3) := by decide +kernel
theorem dX10_quiet_12 : decode cX10_quiet 12 = .ok (.if_icmp .ge 30, 3) := by decide +kernel
theorem dX10_quiet_15 : decode cX10_quiet 15 = .ok (.aload_n 0, 1) := by decide +kernel
theorem dX10_quiet_16 : decode cX10_quiet 16 = .ok (.getfield 19, 3) := by decide +kernel
theorem dX10_quiet_19 : decode cX10_quiet 19 = .ok (.aload_n 0, 1) := by decide +kernel
theorem dX10_quiet_20 : decode cX10_quiet 20 = .ok (.getfield 60, 3) := by decide +kernel
theorem dX10_quiet_23 : decode cX10_quiet 23 = .ok (.iload_n 2, 1) := by decide +kernel
theorem dX10_quiet_24 : decode cX10_quiet 24 = .ok (.invokevirtual 290, 3) := by decide +kernel
theorem dX10_quiet_27 : decode cX10_quiet 27 = .ok (.ifCond .ne 9, 3) := by decide +kernel
theorem dX10_quiet_30 : decode cX10_quiet 30 = .ok (.iload_n 1, 1) := by decide +kernel
theorem dX10_quiet_31 : decode cX10_quiet 31 = .ok (.iconst 1, 1) := by decide +kernel
theorem dX10_quiet_32 : decode cX10_quiet 32 = .ok (.iload_n 2, 1) := by decide +kernel
theorem dX10_quiet_33 : decode cX10_quiet 33 = .ok (.ishl, 1) := by decide +kernel
theorem dX10_quiet_34 : decode cX10_quiet 34 = .ok (.ior, 1) := by decide +kernel
theorem dX10_quiet_35 : decode cX10_quiet 35 = .ok (.istore_n 1, 1) := by decide +kernel
theorem dX10_quiet_36 : decode cX10_quiet 36 = .ok (.iinc 2 1, 3) := by decide +kernel
theorem dX10_quiet_39 : decode cX10_quiet 39 = .ok (.goto (-35), 3) := by decide +kernel
theorem dX10_quiet_42 : decode cX10_quiet 42 = .ok (.iload_n 1, 1) := by decide +kernel
theorem dX10_quiet_43 : decode cX10_quiet 43 = .ok (.ireturn, 1) := by decide +kernel
theorem dX10_game_0 : decode cX10_game 0 = .ok (.aload_n 0, 1) := by decide +kernel
theorem dX10_game_1 : decode cX10_game 1 = .ok (.iload_n 1, 1) := by decide +kernel
theorem dX10_game_2 : decode cX10_game 2 = .ok (.invokevirtual 141, 3) := by decide +kernel
theorem dX10_game_5 : decode cX10_game 5 = .ok (.aload_n 0, 1) := by decide +kernel
theorem dX10_game_6 : decode cX10_game 6 = .ok (.getfield 35, 3) := by decide +kernel
theorem dX10_game_9 : decode cX10_game 9 = .ok (.aload_n 0, 1) := by decide +kernel
theorem dX10_game_10 : decode cX10_game 10 = .ok (.getfield 60, 3) := by decide +kernel
theorem dX10_game_13 : decode cX10_game 13 = .ok (.iload_n 1, 1) := by decide +kernel
theorem dX10_game_14 : decode cX10_game 14 = .ok (.iload_n 2, 1) := by decide +kernel
theorem dX10_game_15 : decode cX10_game 15 = .ok (.invokevirtual 296, 3) := by decide +kernel
theorem dX10_game_18 : decode cX10_game 18 = .ok (.ireturn, 1) := by decide +kernel
theorem dX10_steps_0 : decode cX10_steps 0 = .ok (.aload_n 0, 1) := by decide +kernel
theorem dX10_steps_1 : decode cX10_steps 1 = .ok (.iload_n 1, 1) := by decide +kernel
theorem dX10_steps_2 : decode cX10_steps 2 = .ok (.invokevirtual 141, 3) := by decide +kernel
theorem dX10_steps_5 : decode cX10_steps 5 = .ok (.aload_n 0, 1) := by decide +kernel
theorem dX10_steps_6 : decode cX10_steps 6 = .ok (.iload_n 2, 1) := by decide +kernel
theorem dX10_steps_7 : decode cX10_steps 7 = .ok (.invokevirtual 141, 3) := by decide +kernel
theorem dX10_steps_10 : decode cX10_steps 10 = .ok (.aload_n 0, 1) := by decide +kernel
theorem dX10_steps_11 : decode cX10_steps 11 = .ok (.getfield 35, 3) := by decide +kernel
theorem dX10_steps_14 : decode cX10_steps 14 = .ok (.aload_n 0, 1) := by decide +kernel
theorem dX10_steps_15 : decode cX10_steps 15 = .ok (.getfield 60, 3) := by decide +kernel
theorem dX10_steps_18 : decode cX10_steps 18 = .ok (.iload_n 1, 1) := by decide +kernel
theorem dX10_steps_19 : decode cX10_steps 19 = .ok (.iload_n 2, 1) := by decide +kernel
theorem dX10_steps_20 : decode cX10_steps 20 = .ok (.invokevirtual 300, 3) := by decide +kernel
theorem dX10_steps_23 : decode cX10_steps 23 = .ok (.ireturn, 1) := by decide +kernel
theorem dX10_sureBehindStroll_0 : decode cX10_sureBehindStroll 0 = .ok (.aload_n 0, 1) := by decide +kernel
theorem dX10_sureBehindStroll_1 : decode cX10_sureBehindStroll 1 = .ok (.getfield 64, 3) := by decide +kernel
theorem dX10_sureBehindStroll_4 : decode cX10_sureBehindStroll 4 = .ok (.aload_n 0, 1) := by decide +kernel
theorem dX10_sureBehindStroll_5 : decode cX10_sureBehindStroll 5 = .ok (.getfield 60, 3) := by decide +kernel
theorem dX10_sureBehindStroll_8 : decode cX10_sureBehindStroll 8 = .ok (.invokevirtual 89, 3) := by decide +kernel
theorem dX10_sureBehindStroll_11 : decode cX10_sureBehindStroll 11 = .ok (.aload_n 0, 1) := by decide +kernel
theorem dX10_sureBehindStroll_12 : decode cX10_sureBehindStroll 12 = .ok (.getfield 64, 3) := by decide +kernel
theorem dX10_sureBehindStroll_15 : decode cX10_sureBehindStroll 15 = .ok (.iload_n 2, 1) := by decide +kernel
theorem dX10_sureBehindStroll_16 : decode cX10_sureBehindStroll 16 = .ok (.putfield 303, 3) := by decide +kernel
theorem dX10_sureBehindStroll_19 : decode cX10_sureBehindStroll 19 = .ok (.aload_n 0, 1) := by decide +kernel
theorem dX10_sureBehindStroll_20 : decode cX10_sureBehindStroll 20 = .ok (.getfield 28, 3) := by decide +kernel
theorem dX10_sureBehindStroll_23 : decode cX10_sureBehindStroll 23 = .ok (.aload_n 0, 1) := by decide +kernel
theorem dX10_sureBehindStroll_24 : decode cX10_sureBehindStroll 24 = .ok (.getfield 64, 3) := by decide +kernel
theorem dX10_sureBehindStroll_27 : decode cX10_sureBehindStroll 27 = .ok (.iload_n 1, 1) := by decide +kernel
theorem dX10_sureBehindStroll_28 : decode cX10_sureBehindStroll 28 = .ok (.invokevirtual 252, 3) := by decide +kernel
theorem dX10_sureBehindStroll_31 : decode cX10_sureBehindStroll 31 = .ok (.pop, 1) := by decide +kernel
theorem dX10_sureBehindStroll_32 : decode cX10_sureBehindStroll 32 = .ok (.aload_n 0, 1) := by decide +kernel
theorem dX10_sureBehindStroll_33 : decode cX10_sureBehindStroll 33 = .ok (.getfield 19, 3) := by decide +kernel
theorem dX10_sureBehindStroll_36 : decode cX10_sureBehindStroll 36 = .ok (.aload_n 0, 1) := by decide +kernel
theorem dX10_sureBehindStroll_37 : decode cX10_sureBehindStroll 37 = .ok (.getfield 64, 3) := by decide +kernel
theorem dX10_sureBehindStroll_40 : decode cX10_sureBehindStroll 40 = .ok (.aload_n 0, 1) := by decide +kernel
theorem dX10_sureBehindStroll_41 : decode cX10_sureBehindStroll 41 = .ok (.getfield 64, 3) := by decide +kernel
theorem dX10_sureBehindStroll_44 : decode cX10_sureBehindStroll 44 = .ok (.getfield 163, 3) := by decide +kernel
theorem dX10_sureBehindStroll_47 : decode cX10_sureBehindStroll 47 = .ok (.invokevirtual 398, 3) := by decide +kernel
theorem dX10_sureBehindStroll_50 : decode cX10_sureBehindStroll 50 = .ok (.ireturn, 1) := by decide +kernel
theorem dX10_trial_0 : decode cX10_trial 0 = .ok (.aload_n 0, 1) := by decide +kernel
theorem dX10_trial_1 : decode cX10_trial 1 = .ok (.iload_n 1, 1) := by decide +kernel
theorem dX10_trial_2 : decode cX10_trial 2 = .ok (.iconst 0, 1) := by decide +kernel
theorem dX10_trial_3 : decode cX10_trial 3 = .ok (.bipush 30, 2) := by decide +kernel
theorem dX10_trial_5 : decode cX10_trial 5 = .ok (.invokevirtual 233, 3) := by decide +kernel
theorem dX10_trial_8 : decode cX10_trial 8 = .ok (.aload_n 0, 1) := by decide +kernel
theorem dX10_trial_9 : decode cX10_trial 9 = .ok (.iload_n 1, 1) := by decide +kernel
theorem dX10_trial_10 : decode cX10_trial 10 = .ok (.aload_n 0, 1) := by decide +kernel
theorem dX10_trial_11 : decode cX10_trial 11 = .ok (.getfield 60, 3) := by decide +kernel
theorem dX10_trial_14 : decode cX10_trial 14 = .ok (.getfield 303, 3) := by decide +kernel
theorem dX10_trial_17 : decode cX10_trial 17 = .ok (.invokevirtual 306, 3) := by decide +kernel
theorem dX10_trial_20 : decode cX10_trial 20 = .ok (.ireturn, 1) := by decide +kernel
theorem dX10_span_0 : decode cX10_span 0 = .ok (.aload_n 0, 1) := by decide +kernel
theorem dX10_span_1 : decode cX10_span 1 = .ok (.iload_n 1, 1) := by decide +kernel
theorem dX10_span_2 : decode cX10_span 2 = .ok (.iconst 0, 1) := by decide +kernel
theorem dX10_span_3 : decode cX10_span 3 = .ok (.bipush 30, 2) := by decide +kernel
theorem dX10_span_5 : decode cX10_span 5 = .ok (.invokevirtual 233, 3) := by decide +kernel
theorem dX10_span_8 : decode cX10_span 8 = .ok (.aload_n 0, 1) := by decide +kernel
theorem dX10_span_9 : decode cX10_span 9 = .ok (.iload_n 1, 1) := by decide +kernel
theorem dX10_span_10 : decode cX10_span 10 = .ok (.iconst 1, 1) := by decide +kernel
theorem dX10_span_11 : decode cX10_span 11 = .ok (.invokevirtual 306, 3) := by decide +kernel
theorem dX10_span_14 : decode cX10_span 14 = .ok (.invokestatic 309, 3) := by decide +kernel
theorem dX10_span_17 : decode cX10_span 17 = .ok (.istore_n 3, 1) := by decide +kernel
theorem dX10_span_18 : decode cX10_span 18 = .ok (.iconst 2, 1) := by decide +kernel
theorem dX10_span_19 : decode cX10_span 19 = .ok (.istore 4, 2) := by decide +kernel
theorem dX10_span_21 : decode cX10_span 21 = .ok (.iload 4, 2) := by decide +kernel
theorem dX10_span_23 : decode cX10_span 23 = .ok (.bipush 6, 2) := by decide +kernel
theorem dX10_span_25 : decode cX10_span 25 = .ok (.if_icmp .gt 41, 3) := by decide +kernel
theorem dX10_span_28 : decode cX10_span 28 = .ok (.aload_n 0, 1) := by decide +kernel
theorem dX10_span_29 : decode cX10_span 29 = .ok (.iload_n 1, 1) := by decide +kernel
theorem dX10_span_30 : decode cX10_span 30 = .ok (.iload 4, 2) := by decide +kernel
theorem dX10_span_32 : decode cX10_span 32 = .ok (.invokevirtual 306, 3) := by decide +kernel
theorem dX10_span_35 : decode cX10_span 35 = .ok (.invokestatic 309, 3) := by decide +kernel
theorem dX10_span_38 : decode cX10_span 38 = .ok (.istore 5, 2) := by decide +kernel
theorem dX10_span_40 : decode cX10_span 40 = .ok (.iload_n 2, 1) := by decide +kernel
theorem dX10_span_41 : decode cX10_span 41 = .ok (.ifCond .eq 12, 3) := by decide +kernel
theorem dX10_span_44 : decode cX10_span 44 = .ok (.iload_n 3, 1) := by decide +kernel
theorem dX10_span_45 : decode cX10_span 45 = .ok (.iload 5, 2) := by decide +kernel
theorem dX10_span_47 : decode cX10_span 47 = .ok (.invokestatic 314, 3) := by decide +kernel
theorem dX10_span_50 : decode cX10_span 50 = .ok (.goto 9, 3) := by decide +kernel
theorem dX10_span_53 : decode cX10_span 53 = .ok (.iload_n 3, 1) := by decide +kernel
theorem dX10_span_54 : decode cX10_span 54 = .ok (.iload 5, 2) := by decide +kernel
theorem dX10_span_56 : decode cX10_span 56 = .ok (.invokestatic 319, 3) := by decide +kernel
theorem dX10_span_59 : decode cX10_span 59 = .ok (.istore_n 3, 1) := by decide +kernel
theorem dX10_span_60 : decode cX10_span 60 = .ok (.iinc 4 1, 3) := by decide +kernel
theorem dX10_span_63 : decode cX10_span 63 = .ok (.goto (-42), 3) := by decide +kernel
theorem dX10_span_66 : decode cX10_span 66 = .ok (.iload_n 3, 1) := by decide +kernel
theorem dX10_span_67 : decode cX10_span 67 = .ok (.ireturn, 1) := by decide +kernel
theorem dX10_nth_0 : decode cX10_nth 0 = .ok (.aload_n 0, 1) := by decide +kernel
theorem dX10_nth_1 : decode cX10_nth 1 = .ok (.iload_n 1, 1) := by decide +kernel
theorem dX10_nth_2 : decode cX10_nth 2 = .ok (.invokevirtual 269, 3) := by decide +kernel
theorem dX10_nth_5 : decode cX10_nth 5 = .ok (.aload_n 0, 1) := by decide +kernel
theorem dX10_nth_6 : decode cX10_nth 6 = .ok (.getfield 19, 3) := by decide +kernel
theorem dX10_nth_9 : decode cX10_nth 9 = .ok (.aload_n 0, 1) := by decide +kernel
theorem dX10_nth_10 : decode cX10_nth 10 = .ok (.getfield 60, 3) := by decide +kernel
theorem dX10_nth_13 : decode cX10_nth 13 = .ok (.iload_n 1, 1) := by decide +kernel
theorem dX10_nth_14 : decode cX10_nth 14 = .ok (.iload_n 2, 1) := by decide +kernel
theorem dX10_nth_15 : decode cX10_nth 15 = .ok (.invokevirtual 322, 3) := by decide +kernel
theorem dX10_nth_18 : decode cX10_nth 18 = .ok (.ireturn, 1) := by decide +kernel
theorem dX10_guess_0 : decode cX10_guess 0 = .ok (.aload_n 0, 1) := by decide +kernel
theorem dX10_guess_1 : decode cX10_guess 1 = .ok (.iload_n 1, 1) := by decide +kernel
theorem dX10_guess_2 : decode cX10_guess 2 = .ok (.invokevirtual 141, 3) := by decide +kernel
theorem dX10_guess_5 : decode cX10_guess 5 = .ok (.aload_n 0, 1) := by decide +kernel
theorem dX10_guess_6 : decode cX10_guess 6 = .ok (.getfield 19, 3) := by decide +kernel
theorem dX10_guess_9 : decode cX10_guess 9 = .ok (.aload_n 0, 1) := by decide +kernel
theorem dX10_guess_10 : decode cX10_guess 10 = .ok (.getfield 60, 3) := by decide +kernel
theorem dX10_guess_13 : decode cX10_guess 13 = .ok (.iload_n 1, 1) := by decide +kernel
theorem dX10_guess_14 : decode cX10_guess 14 = .ok (.aload_n 0, 1) := by decide +kernel
theorem dX10_guess_15 : decode cX10_guess 15 = .ok (.getfield 60, 3) := by decide +kernel
theorem dX10_guess_18 : decode cX10_guess 18 = .ok (.getfield 144, 3) := by decide +kernel
theorem dX10_guess_21 : decode cX10_guess 21 = .ok (.invokevirtual 325, 3) := by decide +kernel
theorem dX10_guess_24 : decode cX10_guess 24 = .ok (.ireturn, 1) := by decide +kernel
theorem dX10_right_0 : decode cX10_right 0 = .ok (.aload_n 0, 1) := by decide +kernel
theorem dX10_right_1 : decode cX10_right 1 = .ok (.iload_n 1, 1) := by decide +kernel
theorem dX10_right_2 : decode cX10_right 2 = .ok (.invokevirtual 269, 3) := by decide +kernel
theorem dX10_right_5 : decode cX10_right 5 = .ok (.aload_n 0, 1) := by decide +kernel
theorem dX10_right_6 : decode cX10_right 6 = .ok (.getfield 19, 3) := by decide +kernel
theorem dX10_right_9 : decode cX10_right 9 = .ok (.aload_n 0, 1) := by decide +kernel
theorem dX10_right_10 : decode cX10_right 10 = .ok (.getfield 60, 3) := by decide +kernel
theorem dX10_right_13 : decode cX10_right 13 = .ok (.iload_n 1, 1) := by decide +kernel
theorem dX10_right_14 : decode cX10_right 14 = .ok (.invokevirtual 328, 3) := by decide +kernel
theorem dX10_right_17 : decode cX10_right 17 = .ok (.ireturn, 1) := by decide +kernel
theorem dX10_rows_0 : decode cX10_rows 0 = .ok (.aload_n 0, 1) := by decide +kernel
theorem dX10_rows_1 : decode cX10_rows 1 = .ok (.getfield 10, 3) := by decide +kernel
theorem dX10_rows_4 : decode cX10_rows 4 = .ok (.invokevirtual 86, 3) := by decide +kernel
theorem dX10_rows_7 : decode cX10_rows 7 = .ok (.istore_n 2, 1) := by decide +kernel
theorem dX10_rows_8 : decode cX10_rows 8 = .ok (.aload_n 0, 1) := by decide +kernel
theorem dX10_rows_9 : decode cX10_rows 9 = .ok (.getfield 35, 3) := by decide +kernel
theorem dX10_rows_12 : decode cX10_rows 12 = .ok (.aload_n 0, 1) := by decide +kernel
theorem dX10_rows_13 : decode cX10_rows 13 = .ok (.getfield 60, 3) := by decide +kernel
theorem dX10_rows_16 : decode cX10_rows 16 = .ok (.aload_n 0, 1) := by decide +kernel
theorem dX10_rows_17 : decode cX10_rows 17 = .ok (.getfield 10, 3) := by decide +kernel
theorem dX10_rows_20 : decode cX10_rows 20 = .ok (.iload_n 2, 1) := by decide +kernel
theorem dX10_rows_21 : decode cX10_rows 21 = .ok (.invokevirtual 331, 3) := by decide +kernel
theorem dX10_rows_24 : decode cX10_rows 24 = .ok (.ifCond .eq 8, 3) := by decide +kernel
theorem dX10_rows_27 : decode cX10_rows 27 = .ok (.iload_n 1, 1) := by decide +kernel
theorem dX10_rows_28 : decode cX10_rows 28 = .ok (.iconst (-1), 1) := by decide +kernel
theorem dX10_rows_29 : decode cX10_rows 29 = .ok (.if_icmp .ge 14, 3) := by decide +kernel
theorem dX10_rows_32 : decode cX10_rows 32 = .ok (.new 107, 3) := by decide +kernel
theorem dX10_rows_35 : decode cX10_rows 35 = .ok (.dup, 1) := by decide +kernel
theorem dX10_rows_36 : decode cX10_rows 36 = .ok (.ldc_w 335, 3) := by decide +kernel
theorem dX10_rows_39 : decode cX10_rows 39 = .ok (.invokespecial 111, 3) := by decide +kernel
theorem dX10_rows_42 : decode cX10_rows 42 = .ok (.athrow, 1) := by decide +kernel
theorem dX10_rows_43 : decode cX10_rows 43 = .ok (.aload_n 0, 1) := by decide +kernel
theorem dX10_rows_44 : decode cX10_rows 44 = .ok (.getfield 35, 3) := by decide +kernel
theorem dX10_rows_47 : decode cX10_rows 47 = .ok (.aload_n 0, 1) := by decide +kernel
theorem dX10_rows_48 : decode cX10_rows 48 = .ok (.getfield 60, 3) := by decide +kernel
theorem dX10_rows_51 : decode cX10_rows 51 = .ok (.aload_n 0, 1) := by decide +kernel
theorem dX10_rows_52 : decode cX10_rows 52 = .ok (.getfield 10, 3) := by decide +kernel
theorem dX10_rows_55 : decode cX10_rows 55 = .ok (.iload_n 2, 1) := by decide +kernel
theorem dX10_rows_56 : decode cX10_rows 56 = .ok (.iload_n 1, 1) := by decide +kernel
theorem dX10_rows_57 : decode cX10_rows 57 = .ok (.invokevirtual 337, 3) := by decide +kernel
theorem dX10_rows_60 : decode cX10_rows 60 = .ok (.ireturn, 1) := by decide +kernel
theorem dX10_liars_0 : decode cX10_liars 0 = .ok (.aload_n 0, 1) := by decide +kernel
theorem dX10_liars_1 : decode cX10_liars 1 = .ok (.getfield 10, 3) := by decide +kernel
theorem dX10_liars_4 : decode cX10_liars 4 = .ok (.invokevirtual 86, 3) := by decide +kernel
theorem dX10_liars_7 : decode cX10_liars 7 = .ok (.istore_n 3, 1) := by decide +kernel
theorem dX10_liars_8 : decode cX10_liars 8 = .ok (.aload_n 0, 1) := by decide +kernel
theorem dX10_liars_9 : decode cX10_liars 9 = .ok (.getfield 35, 3) := by decide +kernel
theorem dX10_liars_12 : decode cX10_liars 12 = .ok (.aload_n 0, 1) := by decide +kernel
theorem dX10_liars_13 : decode cX10_liars 13 = .ok (.getfield 60, 3) := by decide +kernel
theorem dX10_liars_16 : decode cX10_liars 16 = .ok (.aload_n 0, 1) := by decide +kernel
theorem dX10_liars_17 : decode cX10_liars 17 = .ok (.getfield 10, 3) := by decide +kernel
theorem dX10_liars_20 : decode cX10_liars 20 = .ok (.iload_n 3, 1) := by decide +kernel
theorem dX10_liars_21 : decode cX10_liars 21 = .ok (.invokevirtual 341, 3) := by decide +kernel
theorem dX10_liars_24 : decode cX10_liars 24 = .ok (.ifCond .eq 13, 3) := by decide +kernel
theorem dX10_liars_27 : decode cX10_liars 27 = .ok (.iload_n 1, 1) := by decide +kernel
theorem dX10_liars_28 : decode cX10_liars 28 = .ok (.ifCond .lt 9, 3) := by decide +kernel
theorem dX10_liars_31 : decode cX10_liars 31 = .ok (.iload_n 1, 1) := by decide +kernel
theorem dX10_liars_32 : decode cX10_liars 32 = .ok (.bipush 9, 2) := by decide +kernel
theorem dX10_liars_34 : decode cX10_liars 34 = .ok (.if_icmp .le 14, 3) := by decide +kernel
theorem dX10_liars_37 : decode cX10_liars 37 = .ok (.new 107, 3) := by decide +kernel
theorem dX10_liars_40 : decode cX10_liars 40 = .ok (.dup, 1) := by decide +kernel
theorem dX10_liars_41 : decode cX10_liars 41 = .ok (.ldc_w 344, 3) := by decide +kernel
theorem dX10_liars_44 : decode cX10_liars 44 = .ok (.invokespecial 111, 3) := by decide +kernel
theorem dX10_liars_47 : decode cX10_liars 47 = .ok (.athrow, 1) := by decide +kernel
theorem dX10_liars_48 : decode cX10_liars 48 = .ok (.aload_n 0, 1) := by decide +kernel
theorem dX10_liars_49 : decode cX10_liars 49 = .ok (.getfield 35, 3) := by decide +kernel
theorem dX10_liars_52 : decode cX10_liars 52 = .ok (.aload_n 0, 1) := by decide +kernel
theorem dX10_liars_53 : decode cX10_liars 53 = .ok (.getfield 60, 3) := by decide +kernel
theorem dX10_liars_56 : decode cX10_liars 56 = .ok (.aload_n 0, 1) := by decide +kernel
theorem dX10_liars_57 : decode cX10_liars 57 = .ok (.getfield 10, 3) := by decide +kernel
theorem dX10_liars_60 : decode cX10_liars 60 = .ok (.iload_n 3, 1) := by decide +kernel
theorem dX10_liars_61 : decode cX10_liars 61 = .ok (.iload_n 1, 1) := by decide +kernel
theorem dX10_liars_62 : decode cX10_liars 62 = .ok (.iload_n 2, 1) := by decide +kernel
theorem dX10_liars_63 : decode cX10_liars 63 = .ok (.invokevirtual 346, 3) := by decide +kernel
theorem dX10_liars_66 : decode cX10_liars 66 = .ok (.ireturn, 1) := by decide +kernel
theorem dX10_married_0 : decode cX10_married 0 = .ok (.aload_n 0, 1) := by decide +kernel
theorem dX10_married_1 : decode cX10_married 1 = .ok (.iload_n 1, 1) := by decide +kernel
theorem dX10_married_2 : decode cX10_married 2 = .ok (.invokevirtual 269, 3) := by decide +kernel
theorem dX10_married_5 : decode cX10_married 5 = .ok (.aload_n 0, 1) := by decide +kernel
theorem dX10_married_6 : decode cX10_married 6 = .ok (.getfield 35, 3) := by decide +kernel
theorem dX10_married_9 : decode cX10_married 9 = .ok (.aload_n 0, 1) := by decide +kernel
theorem dX10_married_10 : decode cX10_married 10 = .ok (.getfield 60, 3) := by decide +kernel
theorem dX10_married_13 : decode cX10_married 13 = .ok (.iload_n 1, 1) := by decide +kernel
theorem dX10_married_14 : decode cX10_married 14 = .ok (.invokevirtual 350, 3) := by decide +kernel
theorem dX10_married_17 : decode cX10_married 17 = .ok (.ireturn, 1) := by decide +kernel
theorem dX10_led_0 : decode cX10_led 0 = .ok (.aload_n 0, 1) := by decide +kernel
theorem dX10_led_1 : decode cX10_led 1 = .ok (.iload_n 1, 1) := by decide +kernel
theorem dX10_led_2 : decode cX10_led 2 = .ok (.invokevirtual 141, 3) := by decide +kernel
theorem dX10_led_5 : decode cX10_led 5 = .ok (.iconst (-1), 1) := by decide +kernel
theorem dX10_led_6 : decode cX10_led 6 = .ok (.istore_n 2, 1) := by decide +kernel
theorem dX10_led_7 : decode cX10_led 7 = .ok (.iconst 0, 1) := by decide +kernel
theorem dX10_led_8 : decode cX10_led 8 = .ok (.istore_n 3, 1) := by decide +kernel
theorem dX10_led_9 : decode cX10_led 9 = .ok (.iload_n 3, 1) := by decide +kernel
theorem dX10_led_10 : decode cX10_led 10 = .ok (.aload_n 0, 1) := by decide +kernel
theorem dX10_led_11 : decode cX10_led 11 = .ok (.getfield 60, 3) := by decide +kernel
theorem dX10_led_14 : decode cX10_led 14 = .ok (.getfield 353, 3) := by decide +kernel
theorem dX10_led_17 : decode cX10_led 17 = .ok (.if_icmp .ge 29, 3) := by decide +kernel
theorem dX10_led_20 : decode cX10_led 20 = .ok (.aload_n 0, 1) := by decide +kernel
theorem dX10_led_21 : decode cX10_led 21 = .ok (.getfield 60, 3) := by decide +kernel
theorem dX10_led_24 : decode cX10_led 24 = .ok (.iload_n 3, 1) := by decide +kernel
theorem dX10_led_25 : decode cX10_led 25 = .ok (.iconst 4, 1) := by decide +kernel
theorem dX10_led_26 : decode cX10_led 26 = .ok (.invokevirtual 356, 3) := by decide +kernel
theorem dX10_led_29 : decode cX10_led 29 = .ok (.iload_n 1, 1) := by decide +kernel
theorem dX10_led_30 : decode cX10_led 30 = .ok (.ishr, 1) := by decide +kernel
theorem dX10_led_31 : decode cX10_led 31 = .ok (.iconst 1, 1) := by decide +kernel
theorem dX10_led_32 : decode cX10_led 32 = .ok (.iand, 1) := by decide +kernel
theorem dX10_led_33 : decode cX10_led 33 = .ok (.ifCond .ne 5, 3) := by decide +kernel
theorem dX10_led_36 : decode cX10_led 36 = .ok (.iload_n 2, 1) := by decide +kernel
theorem dX10_led_37 : decode cX10_led 37 = .ok (.ireturn, 1) := by decide +kernel
theorem dX10_led_38 : decode cX10_led 38 = .ok (.iload_n 3, 1) := by decide +kernel
theorem dX10_led_39 : decode cX10_led 39 = .ok (.istore_n 2, 1) := by decide +kernel
theorem dX10_led_40 : decode cX10_led 40 = .ok (.iinc 3 1, 3) := by decide +kernel
theorem dX10_led_43 : decode cX10_led 43 = .ok (.goto (-34), 3) := by decide +kernel
theorem dX10_led_46 : decode cX10_led 46 = .ok (.iload_n 2, 1) := by decide +kernel
theorem dX10_led_47 : decode cX10_led 47 = .ok (.ireturn, 1) := by decide +kernel
theorem dX10_widest_0 : decode cX10_widest 0 = .ok (.iconst (-1), 1) := by decide +kernel
theorem dX10_widest_1 : decode cX10_widest 1 = .ok (.istore_n 1, 1) := by decide +kernel
theorem dX10_widest_2 : decode cX10_widest 2 = .ok (.iconst 0, 1) := by decide +kernel
theorem dX10_widest_3 : decode cX10_widest 3 = .ok (.istore_n 2, 1) := by decide +kernel
theorem dX10_widest_4 : decode cX10_widest 4 = .ok (.iconst 0, 1) := by decide +kernel
theorem dX10_widest_5 : decode cX10_widest 5 = .ok (.istore_n 3, 1) := by decide +kernel
theorem dX10_widest_6 : decode cX10_widest 6 = .ok (.iload_n 3, 1) := by decide +kernel
theorem dX10_widest_7 : decode cX10_widest 7 = .ok (.aload_n 0, 1) := by decide +kernel
theorem dX10_widest_8 : decode cX10_widest 8 = .ok (.getfield 60, 3) := by decide +kernel
theorem dX10_widest_11 : decode cX10_widest 11 = .ok (.getfield 293, 3) := by decide +kernel
theorem dX10_widest_14 : decode cX10_widest 14 = .ok (.if_icmp .ge 34, 3) := by decide +kernel
theorem dX10_widest_17 : decode cX10_widest 17 = .ok (.aload_n 0, 1) := by decide +kernel
theorem dX10_widest_18 : decode cX10_widest 18 = .ok (.getfield 19, 3) := by decide +kernel
theorem dX10_widest_21 : decode cX10_widest 21 = .ok (.aload_n 0, 1) := by decide +kernel
theorem dX10_widest_22 : decode cX10_widest 22 = .ok (.getfield 60, 3) := by decide +kernel
theorem dX10_widest_25 : decode cX10_widest 25 = .ok (.iload_n 3, 1) := by decide +kernel
theorem dX10_widest_26 : decode cX10_widest 26 = .ok (.invokevirtual 170, 3) := by decide +kernel
theorem dX10_widest_29 : decode cX10_widest 29 = .ok (.istore 4, 2) := by decide +kernel
theorem dX10_widest_31 : decode cX10_widest 31 = .ok (.iload 4, 2) := by decide +kernel
theorem dX10_widest_33 : decode cX10_widest 33 = .ok (.iload_n 2, 1) := by decide +kernel
theorem dX10_widest_34 : decode cX10_widest 34 = .ok (.if_icmp .le 8, 3) := by decide +kernel
theorem dX10_widest_37 : decode cX10_widest 37 = .ok (.iload 4, 2) := by decide +kernel
theorem dX10_widest_39 : decode cX10_widest 39 = .ok (.istore_n 2, 1) := by decide +kernel
theorem dX10_widest_40 : decode cX10_widest 40 = .ok (.iload_n 3, 1) := by decide +kernel
theorem dX10_widest_41 : decode cX10_widest 41 = .ok (.istore_n 1, 1) := by decide +kernel
theorem dX10_widest_42 : decode cX10_widest 42 = .ok (.iinc 3 1, 3) := by decide +kernel
theorem dX10_widest_45 : decode cX10_widest 45 = .ok (.goto (-39), 3) := by decide +kernel
theorem dX10_widest_48 : decode cX10_widest 48 = .ok (.iload_n 1, 1) := by decide +kernel
theorem dX10_widest_49 : decode cX10_widest 49 = .ok (.ireturn, 1) := by decide +kernel
theorem dX10_under_0 : decode cX10_under 0 = .ok (.iconst (-1), 1) := by decide +kernel
theorem dX10_under_1 : decode cX10_under 1 = .ok (.istore_n 1, 1) := by decide +kernel
theorem dX10_under_2 : decode cX10_under 2 = .ok (.iconst 0, 1) := by decide +kernel
theorem dX10_under_3 : decode cX10_under 3 = .ok (.istore_n 2, 1) := by decide +kernel
theorem dX10_under_4 : decode cX10_under 4 = .ok (.iconst 0, 1) := by decide +kernel
theorem dX10_under_5 : decode cX10_under 5 = .ok (.istore_n 3, 1) := by decide +kernel
theorem dX10_under_6 : decode cX10_under 6 = .ok (.iload_n 3, 1) := by decide +kernel
theorem dX10_under_7 : decode cX10_under 7 = .ok (.aload_n 0, 1) := by decide +kernel
theorem dX10_under_8 : decode cX10_under 8 = .ok (.getfield 60, 3) := by decide +kernel
theorem dX10_under_11 : decode cX10_under 11 = .ok (.getfield 293, 3) := by decide +kernel
theorem dX10_under_14 : decode cX10_under 14 = .ok (.if_icmp .ge 39, 3) := by decide +kernel
theorem dX10_under_17 : decode cX10_under 17 = .ok (.aload_n 0, 1) := by decide +kernel
theorem dX10_under_18 : decode cX10_under 18 = .ok (.getfield 19, 3) := by decide +kernel
theorem dX10_under_21 : decode cX10_under 21 = .ok (.aload_n 0, 1) := by decide +kernel
theorem dX10_under_22 : decode cX10_under 22 = .ok (.getfield 60, 3) := by decide +kernel
theorem dX10_under_25 : decode cX10_under 25 = .ok (.iload_n 3, 1) := by decide +kernel
theorem dX10_under_26 : decode cX10_under 26 = .ok (.invokevirtual 359, 3) := by decide +kernel
theorem dX10_under_29 : decode cX10_under 29 = .ok (.istore 4, 2) := by decide +kernel
theorem dX10_under_31 : decode cX10_under 31 = .ok (.iload_n 1, 1) := by decide +kernel
theorem dX10_under_32 : decode cX10_under 32 = .ok (.iconst (-1), 1) := by decide +kernel
theorem dX10_under_33 : decode cX10_under 33 = .ok (.if_icmp .eq 9, 3) := by decide +kernel
theorem dX10_under_36 : decode cX10_under 36 = .ok (.iload 4, 2) := by decide +kernel
theorem dX10_under_38 : decode cX10_under 38 = .ok (.iload_n 2, 1) := by decide +kernel
theorem dX10_under_39 : decode cX10_under 39 = .ok (.if_icmp .ge 8, 3) := by decide +kernel
theorem dX10_under_42 : decode cX10_under 42 = .ok (.iload 4, 2) := by decide +kernel
theorem dX10_under_44 : decode cX10_under 44 = .ok (.istore_n 2, 1) := by decide +kernel
theorem dX10_under_45 : decode cX10_under 45 = .ok (.iload_n 3, 1) := by decide +kernel
theorem dX10_under_46 : decode cX10_under 46 = .ok (.istore_n 1, 1) := by decide +kernel
theorem dX10_under_47 : decode cX10_under 47 = .ok (.iinc 3 1, 3) := by decide +kernel
theorem dX10_under_50 : decode cX10_under 50 = .ok (.goto (-44), 3) := by decide +kernel
theorem dX10_under_53 : decode cX10_under 53 = .ok (.iload_n 1, 1) := by decide +kernel
theorem dX10_under_54 : decode cX10_under 54 = .ok (.ireturn, 1) := by decide +kernel
theorem dX10_log_0 : decode cX10_log 0 = .ok (.iload_n 2, 1) := by decide +kernel
theorem dX10_log_1 : decode cX10_log 1 = .ok (.ifCond .lt 8, 3) := by decide +kernel
theorem dX10_log_4 : decode cX10_log 4 = .ok (.iload_n 2, 1) := by decide +kernel
theorem dX10_log_5 : decode cX10_log 5 = .ok (.iconst 5, 1) := by decide +kernel
theorem dX10_log_6 : decode cX10_log 6 = .ok (.if_icmp .lt 14, 3) := by decide +kernel
theorem dX10_log_9 : decode cX10_log 9 = .ok (.new 177, 3) := by decide +kernel
theorem dX10_log_12 : decode cX10_log 12 = .ok (.dup, 1) := by decide +kernel
theorem dX10_log_13 : decode cX10_log 13 = .ok (.ldc_w 362, 3) := by decide +kernel
theorem dX10_log_16 : decode cX10_log 16 = .ok (.invokespecial 181, 3) := by decide +kernel
theorem dX10_log_19 : decode cX10_log 19 = .ok (.athrow, 1) := by decide +kernel
theorem dX10_log_20 : decode cX10_log 20 = .ok (.aload_n 0, 1) := by decide +kernel
theorem dX10_log_21 : decode cX10_log 21 = .ok (.getfield 60, 3) := by decide +kernel
theorem dX10_log_24 : decode cX10_log 24 = .ok (.iload_n 1, 1) := by decide +kernel
theorem dX10_log_25 : decode cX10_log 25 = .ok (.iload_n 2, 1) := by decide +kernel
theorem dX10_log_26 : decode cX10_log 26 = .ok (.invokevirtual 356, 3) := by decide +kernel
theorem dX10_log_29 : decode cX10_log 29 = .ok (.ireturn, 1) := by decide +kernel
theorem dX10_seed_0 : decode cX10_seed 0 = .ok (.aload_n 0, 1) := by decide +kernel
theorem dX10_seed_1 : decode cX10_seed 1 = .ok (.getfield 60, 3) := by decide +kernel
theorem dX10_seed_4 : decode cX10_seed 4 = .ok (.getfield 303, 3) := by decide +kernel
theorem dX10_seed_7 : decode cX10_seed 7 = .ok (.istore_n 2, 1) := by decide +kernel
theorem dX10_seed_8 : decode cX10_seed 8 = .ok (.aload_n 0, 1) := by decide +kernel
theorem dX10_seed_9 : decode cX10_seed 9 = .ok (.getfield 60, 3) := by decide +kernel
theorem dX10_seed_12 : decode cX10_seed 12 = .ok (.iload_n 1, 1) := by decide +kernel
theorem dX10_seed_13 : decode cX10_seed 13 = .ok (.putfield 303, 3) := by decide +kernel
theorem dX10_seed_16 : decode cX10_seed 16 = .ok (.iload_n 2, 1) := by decide +kernel
theorem dX10_seed_17 : decode cX10_seed 17 = .ok (.ireturn, 1) := by decide +kernel
theorem dX10_undo_0 : decode cX10_undo 0 = .ok (.aload_n 0, 1) := by decide +kernel
theorem dX10_undo_1 : decode cX10_undo 1 = .ok (.getfield 364, 3) := by decide +kernel
theorem dX10_undo_4 : decode cX10_undo 4 = .ok (.iconst 1, 1) := by decide +kernel
theorem dX10_undo_5 : decode cX10_undo 5 = .ok (.if_icmp .ge 5, 3) := by decide +kernel
theorem dX10_undo_8 : decode cX10_undo 8 = .ok (.iconst 0, 1) := by decide +kernel
theorem dX10_undo_9 : decode cX10_undo 9 = .ok (.ireturn, 1) := by decide +kernel
theorem dX10_undo_10 : decode cX10_undo 10 = .ok (.aload_n 0, 1) := by decide +kernel
theorem dX10_undo_11 : decode cX10_undo 11 = .ok (.dup, 1) := by decide +kernel
theorem dX10_undo_12 : decode cX10_undo 12 = .ok (.getfield 364, 3) := by decide +kernel
theorem dX10_undo_15 : decode cX10_undo 15 = .ok (.iconst 1, 1) := by decide +kernel
theorem dX10_undo_16 : decode cX10_undo 16 = .ok (.isub, 1) := by decide +kernel
theorem dX10_undo_17 : decode cX10_undo 17 = .ok (.putfield 364, 3) := by decide +kernel
theorem dX10_undo_20 : decode cX10_undo 20 = .ok (.aload_n 0, 1) := by decide +kernel
theorem dX10_undo_21 : decode cX10_undo 21 = .ok (.aload_n 0, 1) := by decide +kernel
theorem dX10_undo_22 : decode cX10_undo 22 = .ok (.getfield 367, 3) := by decide +kernel
theorem dX10_undo_25 : decode cX10_undo 25 = .ok (.ifCond .le 12, 3) := by decide +kernel
theorem dX10_undo_28 : decode cX10_undo 28 = .ok (.aload_n 0, 1) := by decide +kernel
theorem dX10_undo_29 : decode cX10_undo 29 = .ok (.getfield 367, 3) := by decide +kernel
theorem dX10_undo_32 : decode cX10_undo 32 = .ok (.iconst 1, 1) := by decide +kernel
theorem dX10_undo_33 : decode cX10_undo 33 = .ok (.isub, 1) := by decide +kernel
theorem dX10_undo_34 : decode cX10_undo 34 = .ok (.goto 5, 3) := by decide +kernel
theorem dX10_undo_37 : decode cX10_undo 37 = .ok (.bipush 7, 2) := by decide +kernel
theorem dX10_undo_39 : decode cX10_undo 39 = .ok (.putfield 367, 3) := by decide +kernel
theorem dX10_undo_42 : decode cX10_undo 42 = .ok (.aload_n 0, 1) := by decide +kernel
theorem dX10_undo_43 : decode cX10_undo 43 = .ok (.getfield 60, 3) := by decide +kernel
theorem dX10_undo_46 : decode cX10_undo 46 = .ok (.aload_n 0, 1) := by decide +kernel
theorem dX10_undo_47 : decode cX10_undo 47 = .ok (.aload_n 0, 1) := by decide +kernel
theorem dX10_undo_48 : decode cX10_undo 48 = .ok (.getfield 367, 3) := by decide +kernel
theorem dX10_undo_51 : decode cX10_undo 51 = .ok (.invokevirtual 370, 3) := by decide +kernel
theorem dX10_undo_54 : decode cX10_undo 54 = .ok (.invokevirtual 89, 3) := by decide +kernel
theorem dX10_undo_57 : decode cX10_undo 57 = .ok (.aload_n 0, 1) := by decide +kernel
theorem dX10_undo_58 : decode cX10_undo 58 = .ok (.getfield 60, 3) := by decide +kernel
theorem dX10_undo_61 : decode cX10_undo 61 = .ok (.iconst 1, 1) := by decide +kernel
theorem dX10_undo_62 : decode cX10_undo 62 = .ok (.putfield 374, 3) := by decide +kernel
theorem dX10_undo_65 : decode cX10_undo 65 = .ok (.iconst 1, 1) := by decide +kernel
theorem dX10_undo_66 : decode cX10_undo 66 = .ok (.ireturn, 1) := by decide +kernel
theorem dX10_image_0 : decode cX10_image 0 = .ok (.aload_n 0, 1) := by decide +kernel
theorem dX10_image_1 : decode cX10_image 1 = .ok (.getfield 378, 3) := by decide +kernel
theorem dX10_image_4 : decode cX10_image 4 = .ok (.ifnonnull 14, 3) := by decide +kernel
theorem dX10_image_7 : decode cX10_image 7 = .ok (.aload_n 0, 1) := by decide +kernel
theorem dX10_image_8 : decode cX10_image 8 = .ok (.new 53, 3) := by decide +kernel
theorem dX10_image_11 : decode cX10_image 11 = .ok (.dup, 1) := by decide +kernel
theorem dX10_image_12 : decode cX10_image 12 = .ok (.invokespecial 59, 3) := by decide +kernel
theorem dX10_image_15 : decode cX10_image 15 = .ok (.putfield 378, 3) := by decide +kernel
theorem dX10_image_18 : decode cX10_image 18 = .ok (.aload_n 0, 1) := by decide +kernel
theorem dX10_image_19 : decode cX10_image 19 = .ok (.getfield 378, 3) := by decide +kernel
theorem dX10_image_22 : decode cX10_image 22 = .ok (.aload_n 0, 1) := by decide +kernel
theorem dX10_image_23 : decode cX10_image 23 = .ok (.getfield 60, 3) := by decide +kernel
theorem dX10_image_26 : decode cX10_image 26 = .ok (.invokevirtual 89, 3) := by decide +kernel
theorem dX10_image_29 : decode cX10_image 29 = .ok (.return_, 1) := by decide +kernel
theorem dX10_back_0 : decode cX10_back 0 = .ok (.aload_n 0, 1) := by decide +kernel
theorem dX10_back_1 : decode cX10_back 1 = .ok (.getfield 378, 3) := by decide +kernel
theorem dX10_back_4 : decode cX10_back 4 = .ok (.ifnonnull 5, 3) := by decide +kernel
theorem dX10_back_7 : decode cX10_back 7 = .ok (.iconst 0, 1) := by decide +kernel
theorem dX10_back_8 : decode cX10_back 8 = .ok (.ireturn, 1) := by decide +kernel
theorem dX10_back_9 : decode cX10_back 9 = .ok (.aload_n 0, 1) := by decide +kernel
theorem dX10_back_10 : decode cX10_back 10 = .ok (.getfield 60, 3) := by decide +kernel
theorem dX10_back_13 : decode cX10_back 13 = .ok (.aload_n 0, 1) := by decide +kernel
theorem dX10_back_14 : decode cX10_back 14 = .ok (.getfield 378, 3) := by decide +kernel
theorem dX10_back_17 : decode cX10_back 17 = .ok (.invokevirtual 89, 3) := by decide +kernel
theorem dX10_back_20 : decode cX10_back 20 = .ok (.aload_n 0, 1) := by decide +kernel
theorem dX10_back_21 : decode cX10_back 21 = .ok (.invokevirtual 122, 3) := by decide +kernel
theorem dX10_back_24 : decode cX10_back 24 = .ok (.iconst 1, 1) := by decide +kernel
theorem dX10_back_25 : decode cX10_back 25 = .ok (.ireturn, 1) := by decide +kernel
theorem dX10_count_0 : decode cX10_count 0 = .ok (.iload_n 1, 1) := by decide +kernel
theorem dX10_count_1 : decode cX10_count 1 = .ok (.tableswitch 176 0 10 #[59, 67, 75, 83, 108, 116, 124, 136, 144, 163, 171], 59) := by decide +kernel
theorem dX10_count_60 : decode cX10_count 60 = .ok (.aload_n 0, 1) := by decide +kernel
theorem dX10_count_61 : decode cX10_count 61 = .ok (.getfield 60, 3) := by decide +kernel
theorem dX10_count_64 : decode cX10_count 64 = .ok (.getfield 293, 3) := by decide +kernel
theorem dX10_count_67 : decode cX10_count 67 = .ok (.ireturn, 1) := by decide +kernel
theorem dX10_count_68 : decode cX10_count 68 = .ok (.aload_n 0, 1) := by decide +kernel
theorem dX10_count_69 : decode cX10_count 69 = .ok (.getfield 60, 3) := by decide +kernel
theorem dX10_count_72 : decode cX10_count 72 = .ok (.getfield 381, 3) := by decide +kernel
theorem dX10_count_75 : decode cX10_count 75 = .ok (.ireturn, 1) := by decide +kernel
theorem dX10_count_76 : decode cX10_count 76 = .ok (.aload_n 0, 1) := by decide +kernel
theorem dX10_count_77 : decode cX10_count 77 = .ok (.getfield 60, 3) := by decide +kernel
theorem dX10_count_80 : decode cX10_count 80 = .ok (.getfield 114, 3) := by decide +kernel
theorem dX10_count_83 : decode cX10_count 83 = .ok (.ireturn, 1) := by decide +kernel
theorem dX10_count_84 : decode cX10_count 84 = .ok (.aload_n 0, 1) := by decide +kernel
theorem dX10_count_85 : decode cX10_count 85 = .ok (.getfield 60, 3) := by decide +kernel
theorem dX10_count_88 : decode cX10_count 88 = .ok (.getfield 137, 3) := by decide +kernel
theorem dX10_count_91 : decode cX10_count 91 = .ok (.ifnonnull 7, 3) := by decide +kernel
theorem dX10_count_94 : decode cX10_count 94 = .ok (.iconst (-1), 1) := by decide +kernel
theorem dX10_count_95 : decode cX10_count 95 = .ok (.goto 13, 3) := by decide +kernel
theorem dX10_count_98 : decode cX10_count 98 = .ok (.aload_n 0, 1) := by decide +kernel
theorem dX10_count_99 : decode cX10_count 99 = .ok (.getfield 60, 3) := by decide +kernel
theorem dX10_count_102 : decode cX10_count 102 = .ok (.getfield 137, 3) := by decide +kernel
theorem dX10_count_105 : decode cX10_count 105 = .ok (.invokevirtual 384, 3) := by decide +kernel
theorem dX10_count_108 : decode cX10_count 108 = .ok (.ireturn, 1) := by decide +kernel
theorem dX10_count_109 : decode cX10_count 109 = .ok (.aload_n 0, 1) := by decide +kernel
theorem dX10_count_110 : decode cX10_count 110 = .ok (.getfield 60, 3) := by decide +kernel
theorem dX10_count_113 : decode cX10_count 113 = .ok (.getfield 389, 3) := by decide +kernel
theorem dX10_count_116 : decode cX10_count 116 = .ok (.ireturn, 1) := by decide +kernel
theorem dX10_count_117 : decode cX10_count 117 = .ok (.aload_n 0, 1) := by decide +kernel
theorem dX10_count_118 : decode cX10_count 118 = .ok (.getfield 60, 3) := by decide +kernel
theorem dX10_count_121 : decode cX10_count 121 = .ok (.getfield 392, 3) := by decide +kernel
theorem dX10_count_124 : decode cX10_count 124 = .ok (.ireturn, 1) := by decide +kernel
theorem dX10_count_125 : decode cX10_count 125 = .ok (.aload_n 0, 1) := by decide +kernel
theorem dX10_count_126 : decode cX10_count 126 = .ok (.getfield 19, 3) := by decide +kernel
theorem dX10_count_129 : decode cX10_count 129 = .ok (.aload_n 0, 1) := by decide +kernel
theorem dX10_count_130 : decode cX10_count 130 = .ok (.getfield 60, 3) := by decide +kernel
theorem dX10_count_133 : decode cX10_count 133 = .ok (.invokevirtual 395, 3) := by decide +kernel
theorem dX10_count_136 : decode cX10_count 136 = .ok (.ireturn, 1) := by decide +kernel
theorem dX10_count_137 : decode cX10_count 137 = .ok (.aload_n 0, 1) := by decide +kernel
theorem dX10_count_138 : decode cX10_count 138 = .ok (.getfield 60, 3) := by decide +kernel
theorem dX10_count_141 : decode cX10_count 141 = .ok (.getfield 144, 3) := by decide +kernel
theorem dX10_count_144 : decode cX10_count 144 = .ok (.ireturn, 1) := by decide +kernel
theorem dX10_count_145 : decode cX10_count 145 = .ok (.aload_n 0, 1) := by decide +kernel
theorem dX10_count_146 : decode cX10_count 146 = .ok (.getfield 19, 3) := by decide +kernel
theorem dX10_count_149 : decode cX10_count 149 = .ok (.aload_n 0, 1) := by decide +kernel
theorem dX10_count_150 : decode cX10_count 150 = .ok (.getfield 60, 3) := by decide +kernel
theorem dX10_count_153 : decode cX10_count 153 = .ok (.aload_n 0, 1) := by decide +kernel
theorem dX10_count_154 : decode cX10_count 154 = .ok (.getfield 60, 3) := by decide +kernel
theorem dX10_count_157 : decode cX10_count 157 = .ok (.getfield 163, 3) := by decide +kernel
theorem dX10_count_160 : decode cX10_count 160 = .ok (.invokevirtual 398, 3) := by decide +kernel
theorem dX10_count_163 : decode cX10_count 163 = .ok (.ireturn, 1) := by decide +kernel
theorem dX10_count_164 : decode cX10_count 164 = .ok (.aload_n 0, 1) := by decide +kernel
theorem dX10_count_165 : decode cX10_count 165 = .ok (.getfield 60, 3) := by decide +kernel
theorem dX10_count_168 : decode cX10_count 168 = .ok (.getfield 353, 3) := by decide +kernel
theorem dX10_count_171 : decode cX10_count 171 = .ok (.ireturn, 1) := by decide +kernel
theorem dX10_count_172 : decode cX10_count 172 = .ok (.aload_n 0, 1) := by decide +kernel
theorem dX10_count_173 : decode cX10_count 173 = .ok (.getfield 364, 3) := by decide +kernel
theorem dX10_count_176 : decode cX10_count 176 = .ok (.ireturn, 1) := by decide +kernel
theorem dX10_count_177 : decode cX10_count 177 = .ok (.iconst (-1), 1) := by decide +kernel
theorem dX10_count_178 : decode cX10_count 178 = .ok (.ireturn, 1) := by decide +kernel
theorem dX3_add_0 : decode cX3_add 0 = .ok (.aload_n 0, 1) := by decide +kernel
theorem dX3_add_1 : decode cX3_add 1 = .ok (.getfield 15, 3) := by decide +kernel
theorem dX3_add_4 : decode cX3_add 4 = .ok (.aload_n 0, 1) := by decide +kernel
theorem dX3_add_5 : decode cX3_add 5 = .ok (.getfield 11, 3) := by decide +kernel
theorem dX3_add_8 : decode cX3_add 8 = .ok (.arraylength, 1) := by decide +kernel
theorem dX3_add_9 : decode cX3_add 9 = .ok (.if_icmp .ge 23, 3) := by decide +kernel
theorem dX3_add_12 : decode cX3_add 12 = .ok (.aload_n 0, 1) := by decide +kernel
theorem dX3_add_13 : decode cX3_add 13 = .ok (.getfield 11, 3) := by decide +kernel
theorem dX3_add_16 : decode cX3_add 16 = .ok (.aload_n 0, 1) := by decide +kernel
theorem dX3_add_17 : decode cX3_add 17 = .ok (.getfield 15, 3) := by decide +kernel
theorem dX3_add_20 : decode cX3_add 20 = .ok (.iload_n 1, 1) := by decide +kernel
theorem dX3_add_21 : decode cX3_add 21 = .ok (.iastore, 1) := by decide +kernel
theorem dX3_add_22 : decode cX3_add 22 = .ok (.aload_n 0, 1) := by decide +kernel
theorem dX3_add_23 : decode cX3_add 23 = .ok (.dup, 1) := by decide +kernel
theorem dX3_add_24 : decode cX3_add 24 = .ok (.getfield 15, 3) := by decide +kernel
theorem dX3_add_27 : decode cX3_add 27 = .ok (.iconst 1, 1) := by decide +kernel
theorem dX3_add_28 : decode cX3_add 28 = .ok (.iadd, 1) := by decide +kernel
theorem dX3_add_29 : decode cX3_add 29 = .ok (.putfield 15, 3) := by decide +kernel
theorem dX3_add_32 : decode cX3_add 32 = .ok (.iconst 1, 1) := by decide +kernel
theorem dX3_add_33 : decode cX3_add 33 = .ok (.ireturn, 1) := by decide +kernel
theorem dX3_partNext_0 : decode cX3_partNext 0 = .ok (.aload_n 0, 1) := by decide +kernel
theorem dX3_partNext_1 : decode cX3_partNext 1 = .ok (.getfield 50, 3) := by decide +kernel
theorem dX3_partNext_4 : decode cX3_partNext 4 = .ok (.lookupswitch 73 #[(2, 52), (316, 57), (317, 61), (318, 65), (319, 69)], 52) := by decide +kernel
theorem dX3_partNext_56 : decode cX3_partNext 56 = .ok (.aload_n 0, 1) := by decide +kernel
theorem dX3_partNext_57 : decode cX3_partNext 57 = .ok (.getfield 43, 3) := by decide +kernel
theorem dX3_partNext_60 : decode cX3_partNext 60 = .ok (.ireturn, 1) := by decide +kernel
theorem dX3_partNext_61 : decode cX3_partNext 61 = .ok (.sipush 1000, 3) := by decide +kernel
theorem dX3_partNext_64 : decode cX3_partNext 64 = .ok (.ireturn, 1) := by decide +kernel
theorem dX3_partNext_65 : decode cX3_partNext 65 = .ok (.sipush 1001, 3) := by decide +kernel
theorem dX3_partNext_68 : decode cX3_partNext 68 = .ok (.ireturn, 1) := by decide +kernel
theorem dX3_partNext_69 : decode cX3_partNext 69 = .ok (.sipush 1002, 3) := by decide +kernel
theorem dX3_partNext_72 : decode cX3_partNext 72 = .ok (.ireturn, 1) := by decide +kernel
theorem dX3_partNext_73 : decode cX3_partNext 73 = .ok (.sipush 1003, 3) := by decide +kernel
theorem dX3_partNext_76 : decode cX3_partNext 76 = .ok (.ireturn, 1) := by decide +kernel
theorem dX3_partNext_77 : decode cX3_partNext 77 = .ok (.iconst (-1), 1) := by decide +kernel
theorem dX3_partNext_78 : decode cX3_partNext 78 = .ok (.ireturn, 1) := by decide +kernel
theorem dX3_readSum_0 : decode cX3_readSum 0 = .ok (.iconst 0, 1) := by decide +kernel
theorem dX3_readSum_1 : decode cX3_readSum 1 = .ok (.istore_n 1, 1) := by decide +kernel
theorem dX3_readSum_2 : decode cX3_readSum 2 = .ok (.iload_n 1, 1) := by decide +kernel
theorem dX3_readSum_3 : decode cX3_readSum 3 = .ok (.sipush 400, 3) := by decide +kernel
theorem dX3_readSum_6 : decode cX3_readSum 6 = .ok (.if_icmp .ge 65, 3) := by decide +kernel
theorem dX3_readSum_9 : decode cX3_readSum 9 = .ok (.aload_n 0, 1) := by decide +kernel
theorem dX3_readSum_10 : decode cX3_readSum 10 = .ok (.invokevirtual 80, 3) := by decide +kernel
theorem dX3_readSum_13 : decode cX3_readSum 13 = .ok (.istore_n 2, 1) := by decide +kernel
theorem dX3_readSum_14 : decode cX3_readSum 14 = .ok (.iload_n 2, 1) := by decide +kernel
theorem dX3_readSum_15 : decode cX3_readSum 15 = .ok (.iconst (-1), 1) := by decide +kernel
theorem dX3_readSum_16 : decode cX3_readSum 16 = .ok (.if_icmp .ne 12, 3) := by decide +kernel
theorem dX3_readSum_19 : decode cX3_readSum 19 = .ok (.aload_n 0, 1) := by decide +kernel
theorem dX3_readSum_20 : decode cX3_readSum 20 = .ok (.aload_n 0, 1) := by decide +kernel
theorem dX3_readSum_21 : decode cX3_readSum 21 = .ok (.getfield 70, 3) := by decide +kernel
theorem dX3_readSum_24 : decode cX3_readSum 24 = .ok (.invokevirtual 73, 3) := by decide +kernel
theorem dX3_readSum_27 : decode cX3_readSum 27 = .ok (.ireturn, 1) := by decide +kernel
theorem dX3_readSum_28 : decode cX3_readSum 28 = .ok (.aload_n 0, 1) := by decide +kernel
theorem dX3_readSum_29 : decode cX3_readSum 29 = .ok (.iload_n 2, 1) := by decide +kernel
theorem dX3_readSum_30 : decode cX3_readSum 30 = .ok (.invokevirtual 59, 3) := by decide +kernel
theorem dX3_readSum_33 : decode cX3_readSum 33 = .ok (.pop, 1) := by decide +kernel
theorem dX3_readSum_34 : decode cX3_readSum 34 = .ok (.aload_n 0, 1) := by decide +kernel
theorem dX3_readSum_35 : decode cX3_readSum 35 = .ok (.invokevirtual 53, 3) := by decide +kernel
theorem dX3_readSum_38 : decode cX3_readSum 38 = .ok (.iload_n 1, 1) := by decide +kernel
theorem dX3_readSum_39 : decode cX3_readSum 39 = .ok (.ifCond .le 11, 3) := by decide +kernel
theorem dX3_readSum_42 : decode cX3_readSum 42 = .ok (.aload_n 0, 1) := by decide +kernel
theorem dX3_readSum_43 : decode cX3_readSum 43 = .ok (.sipush 2000, 3) := by decide +kernel
theorem dX3_readSum_46 : decode cX3_readSum 46 = .ok (.invokevirtual 59, 3) := by decide +kernel
theorem dX3_readSum_49 : decode cX3_readSum 49 = .ok (.pop, 1) := by decide +kernel
theorem dX3_readSum_50 : decode cX3_readSum 50 = .ok (.aload_n 0, 1) := by decide +kernel
theorem dX3_readSum_51 : decode cX3_readSum 51 = .ok (.getfield 50, 3) := by decide +kernel
theorem dX3_readSum_54 : decode cX3_readSum 54 = .ok (.bipush 43, 2) := by decide +kernel
theorem dX3_readSum_56 : decode cX3_readSum 56 = .ok (.if_icmp .eq 5, 3) := by decide +kernel
theorem dX3_readSum_59 : decode cX3_readSum 59 = .ok (.iconst 1, 1) := by decide +kernel
theorem dX3_readSum_60 : decode cX3_readSum 60 = .ok (.ireturn, 1) := by decide +kernel
theorem dX3_readSum_61 : decode cX3_readSum 61 = .ok (.aload_n 0, 1) := by decide +kernel
theorem dX3_readSum_62 : decode cX3_readSum 62 = .ok (.invokevirtual 53, 3) := by decide +kernel
theorem dX3_readSum_65 : decode cX3_readSum 65 = .ok (.iinc 1 1, 3) := by decide +kernel
theorem dX3_readSum_68 : decode cX3_readSum 68 = .ok (.goto (-66), 3) := by decide +kernel
theorem dX3_readSum_71 : decode cX3_readSum 71 = .ok (.aload_n 0, 1) := by decide +kernel
theorem dX3_readSum_72 : decode cX3_readSum 72 = .ok (.aload_n 0, 1) := by decide +kernel
theorem dX3_readSum_73 : decode cX3_readSum 73 = .ok (.getfield 70, 3) := by decide +kernel
theorem dX3_readSum_76 : decode cX3_readSum 76 = .ok (.invokevirtual 73, 3) := by decide +kernel
theorem dX3_readSum_79 : decode cX3_readSum 79 = .ok (.ireturn, 1) := by decide +kernel
theorem dX3_readAtom_0 : decode cX3_readAtom 0 = .ok (.aload_n 0, 1) := by decide +kernel
theorem dX3_readAtom_1 : decode cX3_readAtom 1 = .ok (.getfield 50, 3) := by decide +kernel
theorem dX3_readAtom_4 : decode cX3_readAtom 4 = .ok (.sipush 313, 3) := by decide +kernel
theorem dX3_readAtom_7 : decode cX3_readAtom 7 = .ok (.if_icmp .eq 12, 3) := by decide +kernel
theorem dX3_readAtom_10 : decode cX3_readAtom 10 = .ok (.aload_n 0, 1) := by decide +kernel
theorem dX3_readAtom_11 : decode cX3_readAtom 11 = .ok (.getfield 50, 3) := by decide +kernel
theorem dX3_readAtom_14 : decode cX3_readAtom 14 = .ok (.bipush 40, 2) := by decide +kernel
theorem dX3_readAtom_16 : decode cX3_readAtom 16 = .ok (.if_icmp .ne 95, 3) := by decide +kernel
theorem dX3_readAtom_19 : decode cX3_readAtom 19 = .ok (.iload_n 1, 1) := by decide +kernel
theorem dX3_readAtom_20 : decode cX3_readAtom 20 = .ok (.bipush 6, 2) := by decide +kernel
theorem dX3_readAtom_22 : decode cX3_readAtom 22 = .ok (.if_icmp .lt 12, 3) := by decide +kernel
theorem dX3_readAtom_25 : decode cX3_readAtom 25 = .ok (.aload_n 0, 1) := by decide +kernel
theorem dX3_readAtom_26 : decode cX3_readAtom 26 = .ok (.aload_n 0, 1) := by decide +kernel
theorem dX3_readAtom_27 : decode cX3_readAtom 27 = .ok (.getfield 70, 3) := by decide +kernel
theorem dX3_readAtom_30 : decode cX3_readAtom 30 = .ok (.invokevirtual 73, 3) := by decide +kernel
theorem dX3_readAtom_33 : decode cX3_readAtom 33 = .ok (.ireturn, 1) := by decide +kernel
theorem dX3_readAtom_34 : decode cX3_readAtom 34 = .ok (.aload_n 0, 1) := by decide +kernel
theorem dX3_readAtom_35 : decode cX3_readAtom 35 = .ok (.getfield 50, 3) := by decide +kernel
theorem dX3_readAtom_38 : decode cX3_readAtom 38 = .ok (.sipush 313, 3) := by decide +kernel
theorem dX3_readAtom_41 : decode cX3_readAtom 41 = .ok (.if_icmp .ne 7, 3) := by decide +kernel
theorem dX3_readAtom_44 : decode cX3_readAtom 44 = .ok (.iconst 1, 1) := by decide +kernel
theorem dX3_readAtom_45 : decode cX3_readAtom 45 = .ok (.goto 4, 3) := by decide +kernel
theorem dX3_readAtom_48 : decode cX3_readAtom 48 = .ok (.iconst 0, 1) := by decide +kernel
theorem dX3_readAtom_49 : decode cX3_readAtom 49 = .ok (.istore_n 2, 1) := by decide +kernel
theorem dX3_readAtom_50 : decode cX3_readAtom 50 = .ok (.aload_n 0, 1) := by decide +kernel
theorem dX3_readAtom_51 : decode cX3_readAtom 51 = .ok (.invokevirtual 53, 3) := by decide +kernel
theorem dX3_readAtom_54 : decode cX3_readAtom 54 = .ok (.iload_n 2, 1) := by decide +kernel
theorem dX3_readAtom_55 : decode cX3_readAtom 55 = .ok (.ifCond .eq 31, 3) := by decide +kernel
theorem dX3_readAtom_58 : decode cX3_readAtom 58 = .ok (.aload_n 0, 1) := by decide +kernel
theorem dX3_readAtom_59 : decode cX3_readAtom 59 = .ok (.iload_n 1, 1) := by decide +kernel
theorem dX3_readAtom_60 : decode cX3_readAtom 60 = .ok (.iconst 1, 1) := by decide +kernel
theorem dX3_readAtom_61 : decode cX3_readAtom 61 = .ok (.iadd, 1) := by decide +kernel
theorem dX3_readAtom_62 : decode cX3_readAtom 62 = .ok (.invokevirtual 67, 3) := by decide +kernel
theorem dX3_readAtom_65 : decode cX3_readAtom 65 = .ok (.ifCond .eq 17, 3) := by decide +kernel
theorem dX3_readAtom_68 : decode cX3_readAtom 68 = .ok (.aload_n 0, 1) := by decide +kernel
theorem dX3_readAtom_69 : decode cX3_readAtom 69 = .ok (.sipush 2003, 3) := by decide +kernel
theorem dX3_readAtom_72 : decode cX3_readAtom 72 = .ok (.invokevirtual 59, 3) := by decide +kernel
theorem dX3_readAtom_75 : decode cX3_readAtom 75 = .ok (.ifCond .eq 7, 3) := by decide +kernel
theorem dX3_readAtom_78 : decode cX3_readAtom 78 = .ok (.iconst 1, 1) := by decide +kernel
theorem dX3_readAtom_79 : decode cX3_readAtom 79 = .ok (.goto 31, 3) := by decide +kernel
theorem dX3_readAtom_82 : decode cX3_readAtom 82 = .ok (.iconst 0, 1) := by decide +kernel
theorem dX3_readAtom_83 : decode cX3_readAtom 83 = .ok (.goto 27, 3) := by decide +kernel
theorem dX3_readAtom_86 : decode cX3_readAtom 86 = .ok (.aload_n 0, 1) := by decide +kernel
theorem dX3_readAtom_87 : decode cX3_readAtom 87 = .ok (.iload_n 1, 1) := by decide +kernel
theorem dX3_readAtom_88 : decode cX3_readAtom 88 = .ok (.iconst 1, 1) := by decide +kernel
theorem dX3_readAtom_89 : decode cX3_readAtom 89 = .ok (.iadd, 1) := by decide +kernel
theorem dX3_readAtom_90 : decode cX3_readAtom 90 = .ok (.invokevirtual 56, 3) := by decide +kernel
theorem dX3_readAtom_93 : decode cX3_readAtom 93 = .ok (.ifCond .eq 16, 3) := by decide +kernel
theorem dX3_readAtom_96 : decode cX3_readAtom 96 = .ok (.aload_n 0, 1) := by decide +kernel
theorem dX3_readAtom_97 : decode cX3_readAtom 97 = .ok (.bipush 41, 2) := by decide +kernel
theorem dX3_readAtom_99 : decode cX3_readAtom 99 = .ok (.invokevirtual 39, 3) := by decide +kernel
theorem dX3_readAtom_102 : decode cX3_readAtom 102 = .ok (.ifCond .eq 7, 3) := by decide +kernel
theorem dX3_readAtom_105 : decode cX3_readAtom 105 = .ok (.iconst 1, 1) := by decide +kernel
theorem dX3_readAtom_106 : decode cX3_readAtom 106 = .ok (.goto 4, 3) := by decide +kernel
theorem dX3_readAtom_109 : decode cX3_readAtom 109 = .ok (.iconst 0, 1) := by decide +kernel
theorem dX3_readAtom_110 : decode cX3_readAtom 110 = .ok (.ireturn, 1) := by decide +kernel
theorem dX3_readAtom_111 : decode cX3_readAtom 111 = .ok (.aload_n 0, 1) := by decide +kernel
theorem dX3_readAtom_112 : decode cX3_readAtom 112 = .ok (.getfield 50, 3) := by decide +kernel
theorem dX3_readAtom_115 : decode cX3_readAtom 115 = .ok (.sipush 314, 3) := by decide +kernel
theorem dX3_readAtom_118 : decode cX3_readAtom 118 = .ok (.if_icmp .eq 13, 3) := by decide +kernel
theorem dX3_readAtom_121 : decode cX3_readAtom 121 = .ok (.aload_n 0, 1) := by decide +kernel
theorem dX3_readAtom_122 : decode cX3_readAtom 122 = .ok (.getfield 50, 3) := by decide +kernel
theorem dX3_readAtom_125 : decode cX3_readAtom 125 = .ok (.sipush 315, 3) := by decide +kernel
theorem dX3_readAtom_128 : decode cX3_readAtom 128 = .ok (.if_icmp .ne 33, 3) := by decide +kernel
theorem dX3_readAtom_131 : decode cX3_readAtom 131 = .ok (.aload_n 0, 1) := by decide +kernel
theorem dX3_readAtom_132 : decode cX3_readAtom 132 = .ok (.aload_n 0, 1) := by decide +kernel
theorem dX3_readAtom_133 : decode cX3_readAtom 133 = .ok (.getfield 50, 3) := by decide +kernel
theorem dX3_readAtom_136 : decode cX3_readAtom 136 = .ok (.sipush 314, 3) := by decide +kernel
theorem dX3_readAtom_139 : decode cX3_readAtom 139 = .ok (.if_icmp .ne 9, 3) := by decide +kernel
theorem dX3_readAtom_142 : decode cX3_readAtom 142 = .ok (.sipush 1004, 3) := by decide +kernel
theorem dX3_readAtom_145 : decode cX3_readAtom 145 = .ok (.goto 6, 3) := by decide +kernel
theorem dX3_readAtom_148 : decode cX3_readAtom 148 = .ok (.sipush 1005, 3) := by decide +kernel
theorem dX3_readAtom_151 : decode cX3_readAtom 151 = .ok (.invokevirtual 59, 3) := by decide +kernel
theorem dX3_readAtom_154 : decode cX3_readAtom 154 = .ok (.pop, 1) := by decide +kernel
theorem dX3_readAtom_155 : decode cX3_readAtom 155 = .ok (.aload_n 0, 1) := by decide +kernel
theorem dX3_readAtom_156 : decode cX3_readAtom 156 = .ok (.invokevirtual 53, 3) := by decide +kernel
theorem dX3_readAtom_159 : decode cX3_readAtom 159 = .ok (.iconst 1, 1) := by decide +kernel
theorem dX3_readAtom_160 : decode cX3_readAtom 160 = .ok (.ireturn, 1) := by decide +kernel
theorem dX3_readAtom_161 : decode cX3_readAtom 161 = .ok (.aload_n 0, 1) := by decide +kernel
theorem dX3_readAtom_162 : decode cX3_readAtom 162 = .ok (.invokevirtual 76, 3) := by decide +kernel
theorem dX3_readAtom_165 : decode cX3_readAtom 165 = .ok (.ifCond .ne 5, 3) := by decide +kernel
theorem dX3_readAtom_168 : decode cX3_readAtom 168 = .ok (.iconst 0, 1) := by decide +kernel
theorem dX3_readAtom_169 : decode cX3_readAtom 169 = .ok (.ireturn, 1) := by decide +kernel
theorem dX3_readAtom_170 : decode cX3_readAtom 170 = .ok (.aload_n 0, 1) := by decide +kernel
theorem dX3_readAtom_171 : decode cX3_readAtom 171 = .ok (.getfield 50, 3) := by decide +kernel
theorem dX3_readAtom_174 : decode cX3_readAtom 174 = .ok (.bipush 60, 2) := by decide +kernel
theorem dX3_readAtom_176 : decode cX3_readAtom 176 = .ok (.if_icmp .eq 21, 3) := by decide +kernel
theorem dX3_readAtom_179 : decode cX3_readAtom 179 = .ok (.aload_n 0, 1) := by decide +kernel
theorem dX3_readAtom_180 : decode cX3_readAtom 180 = .ok (.getfield 50, 3) := by decide +kernel
theorem dX3_readAtom_183 : decode cX3_readAtom 183 = .ok (.bipush 62, 2) := by decide +kernel
theorem dX3_readAtom_185 : decode cX3_readAtom 185 = .ok (.if_icmp .eq 12, 3) := by decide +kernel
theorem dX3_readAtom_188 : decode cX3_readAtom 188 = .ok (.aload_n 0, 1) := by decide +kernel
theorem dX3_readAtom_189 : decode cX3_readAtom 189 = .ok (.aload_n 0, 1) := by decide +kernel
theorem dX3_readAtom_190 : decode cX3_readAtom 190 = .ok (.getfield 70, 3) := by decide +kernel
theorem dX3_readAtom_193 : decode cX3_readAtom 193 = .ok (.invokevirtual 73, 3) := by decide +kernel
theorem dX3_readAtom_196 : decode cX3_readAtom 196 = .ok (.ireturn, 1) := by decide +kernel
theorem dX3_readAtom_197 : decode cX3_readAtom 197 = .ok (.aload_n 0, 1) := by decide +kernel
theorem dX3_readAtom_198 : decode cX3_readAtom 198 = .ok (.getfield 50, 3) := by decide +kernel
theorem dX3_readAtom_201 : decode cX3_readAtom 201 = .ok (.bipush 60, 2) := by decide +kernel
theorem dX3_readAtom_203 : decode cX3_readAtom 203 = .ok (.if_icmp .ne 9, 3) := by decide +kernel
theorem dX3_readAtom_206 : decode cX3_readAtom 206 = .ok (.sipush 2001, 3) := by decide +kernel
theorem dX3_readAtom_209 : decode cX3_readAtom 209 = .ok (.goto 6, 3) := by decide +kernel
theorem dX3_readAtom_212 : decode cX3_readAtom 212 = .ok (.sipush 2002, 3) := by decide +kernel
theorem dX3_readAtom_215 : decode cX3_readAtom 215 = .ok (.istore_n 2, 1) := by decide +kernel
theorem dX3_readAtom_216 : decode cX3_readAtom 216 = .ok (.aload_n 0, 1) := by decide +kernel
theorem dX3_readAtom_217 : decode cX3_readAtom 217 = .ok (.invokevirtual 53, 3) := by decide +kernel
theorem dX3_readAtom_220 : decode cX3_readAtom 220 = .ok (.aload_n 0, 1) := by decide +kernel
theorem dX3_readAtom_221 : decode cX3_readAtom 221 = .ok (.invokevirtual 76, 3) := by decide +kernel
theorem dX3_readAtom_224 : decode cX3_readAtom 224 = .ok (.ifCond .eq 15, 3) := by decide +kernel
theorem dX3_readAtom_227 : decode cX3_readAtom 227 = .ok (.aload_n 0, 1) := by decide +kernel
theorem dX3_readAtom_228 : decode cX3_readAtom 228 = .ok (.iload_n 2, 1) := by decide +kernel
theorem dX3_readAtom_229 : decode cX3_readAtom 229 = .ok (.invokevirtual 59, 3) := by decide +kernel
theorem dX3_readAtom_232 : decode cX3_readAtom 232 = .ok (.ifCond .eq 7, 3) := by decide +kernel
theorem dX3_readAtom_235 : decode cX3_readAtom 235 = .ok (.iconst 1, 1) := by decide +kernel
theorem dX3_readAtom_236 : decode cX3_readAtom 236 = .ok (.goto 4, 3) := by decide +kernel
theorem dX3_readAtom_239 : decode cX3_readAtom 239 = .ok (.iconst 0, 1) := by decide +kernel
theorem dX3_readAtom_240 : decode cX3_readAtom 240 = .ok (.ireturn, 1) := by decide +kernel
theorem dX3_readAll_0 : decode cX3_readAll 0 = .ok (.aload_n 0, 1) := by decide +kernel
theorem dX3_readAll_1 : decode cX3_readAll 1 = .ok (.iload_n 1, 1) := by decide +kernel
theorem dX3_readAll_2 : decode cX3_readAll 2 = .ok (.invokevirtual 67, 3) := by decide +kernel
theorem dX3_readAll_5 : decode cX3_readAll 5 = .ok (.ifCond .ne 5, 3) := by decide +kernel
theorem dX3_readAll_8 : decode cX3_readAll 8 = .ok (.iconst 0, 1) := by decide +kernel
theorem dX3_readAll_9 : decode cX3_readAll 9 = .ok (.ireturn, 1) := by decide +kernel
theorem dX3_readAll_10 : decode cX3_readAll 10 = .ok (.iconst 0, 1) := by decide +kernel
theorem dX3_readAll_11 : decode cX3_readAll 11 = .ok (.istore_n 2, 1) := by decide +kernel
theorem dX3_readAll_12 : decode cX3_readAll 12 = .ok (.iload_n 2, 1) := by decide +kernel
theorem dX3_readAll_13 : decode cX3_readAll 13 = .ok (.sipush 400, 3) := by decide +kernel
theorem dX3_readAll_16 : decode cX3_readAll 16 = .ok (.if_icmp .ge 41, 3) := by decide +kernel
theorem dX3_readAll_19 : decode cX3_readAll 19 = .ok (.aload_n 0, 1) := by decide +kernel
theorem dX3_readAll_20 : decode cX3_readAll 20 = .ok (.getfield 50, 3) := by decide +kernel
theorem dX3_readAll_23 : decode cX3_readAll 23 = .ok (.sipush 312, 3) := by decide +kernel
theorem dX3_readAll_26 : decode cX3_readAll 26 = .ok (.if_icmp .ne 31, 3) := by decide +kernel
theorem dX3_readAll_29 : decode cX3_readAll 29 = .ok (.aload_n 0, 1) := by decide +kernel
theorem dX3_readAll_30 : decode cX3_readAll 30 = .ok (.invokevirtual 53, 3) := by decide +kernel
theorem dX3_readAll_33 : decode cX3_readAll 33 = .ok (.aload_n 0, 1) := by decide +kernel
theorem dX3_readAll_34 : decode cX3_readAll 34 = .ok (.iload_n 1, 1) := by decide +kernel
theorem dX3_readAll_35 : decode cX3_readAll 35 = .ok (.invokevirtual 67, 3) := by decide +kernel
theorem dX3_readAll_38 : decode cX3_readAll 38 = .ok (.ifCond .ne 5, 3) := by decide +kernel
theorem dX3_readAll_41 : decode cX3_readAll 41 = .ok (.iconst 0, 1) := by decide +kernel
theorem dX3_readAll_42 : decode cX3_readAll 42 = .ok (.ireturn, 1) := by decide +kernel
theorem dX3_readAll_43 : decode cX3_readAll 43 = .ok (.aload_n 0, 1) := by decide +kernel
theorem dX3_readAll_44 : decode cX3_readAll 44 = .ok (.sipush 2004, 3) := by decide +kernel
theorem dX3_readAll_47 : decode cX3_readAll 47 = .ok (.invokevirtual 59, 3) := by decide +kernel
theorem dX3_readAll_50 : decode cX3_readAll 50 = .ok (.pop, 1) := by decide +kernel
theorem dX3_readAll_51 : decode cX3_readAll 51 = .ok (.iinc 2 1, 3) := by decide +kernel
theorem dX3_readAll_54 : decode cX3_readAll 54 = .ok (.goto (-42), 3) := by decide +kernel
theorem dX3_readAll_57 : decode cX3_readAll 57 = .ok (.iconst 1, 1) := by decide +kernel
theorem dX3_readAll_58 : decode cX3_readAll 58 = .ok (.ireturn, 1) := by decide +kernel
theorem dX3_readAny_0 : decode cX3_readAny 0 = .ok (.aload_n 0, 1) := by decide +kernel
theorem dX3_readAny_1 : decode cX3_readAny 1 = .ok (.iload_n 1, 1) := by decide +kernel
theorem dX3_readAny_2 : decode cX3_readAny 2 = .ok (.invokevirtual 62, 3) := by decide +kernel
theorem dX3_readAny_5 : decode cX3_readAny 5 = .ok (.ifCond .ne 5, 3) := by decide +kernel
theorem dX3_readAny_8 : decode cX3_readAny 8 = .ok (.iconst 0, 1) := by decide +kernel
theorem dX3_readAny_9 : decode cX3_readAny 9 = .ok (.ireturn, 1) := by decide +kernel
theorem dX3_readAny_10 : decode cX3_readAny 10 = .ok (.iconst 0, 1) := by decide +kernel
theorem dX3_readAny_11 : decode cX3_readAny 11 = .ok (.istore_n 2, 1) := by decide +kernel
theorem dX3_readAny_12 : decode cX3_readAny 12 = .ok (.iload_n 2, 1) := by decide +kernel
theorem dX3_readAny_13 : decode cX3_readAny 13 = .ok (.sipush 400, 3) := by decide +kernel
theorem dX3_readAny_16 : decode cX3_readAny 16 = .ok (.if_icmp .ge 41, 3) := by decide +kernel
theorem dX3_readAny_19 : decode cX3_readAny 19 = .ok (.aload_n 0, 1) := by decide +kernel
theorem dX3_readAny_20 : decode cX3_readAny 20 = .ok (.getfield 50, 3) := by decide +kernel
theorem dX3_readAny_23 : decode cX3_readAny 23 = .ok (.sipush 311, 3) := by decide +kernel
theorem dX3_readAny_26 : decode cX3_readAny 26 = .ok (.if_icmp .ne 31, 3) := by decide +kernel
theorem dX3_readAny_29 : decode cX3_readAny 29 = .ok (.aload_n 0, 1) := by decide +kernel
theorem dX3_readAny_30 : decode cX3_readAny 30 = .ok (.invokevirtual 53, 3) := by decide +kernel
theorem dX3_readAny_33 : decode cX3_readAny 33 = .ok (.aload_n 0, 1) := by decide +kernel
theorem dX3_readAny_34 : decode cX3_readAny 34 = .ok (.iload_n 1, 1) := by decide +kernel
theorem dX3_readAny_35 : decode cX3_readAny 35 = .ok (.invokevirtual 62, 3) := by decide +kernel
theorem dX3_readAny_38 : decode cX3_readAny 38 = .ok (.ifCond .ne 5, 3) := by decide +kernel
theorem dX3_readAny_41 : decode cX3_readAny 41 = .ok (.iconst 0, 1) := by decide +kernel
theorem dX3_readAny_42 : decode cX3_readAny 42 = .ok (.ireturn, 1) := by decide +kernel
theorem dX3_readAny_43 : decode cX3_readAny 43 = .ok (.aload_n 0, 1) := by decide +kernel
theorem dX3_readAny_44 : decode cX3_readAny 44 = .ok (.sipush 2005, 3) := by decide +kernel
theorem dX3_readAny_47 : decode cX3_readAny 47 = .ok (.invokevirtual 59, 3) := by decide +kernel
theorem dX3_readAny_50 : decode cX3_readAny 50 = .ok (.pop, 1) := by decide +kernel
theorem dX3_readAny_51 : decode cX3_readAny 51 = .ok (.iinc 2 1, 3) := by decide +kernel
theorem dX3_readAny_54 : decode cX3_readAny 54 = .ok (.goto (-42), 3) := by decide +kernel
theorem dX3_readAny_57 : decode cX3_readAny 57 = .ok (.iconst 1, 1) := by decide +kernel
theorem dX3_readAny_58 : decode cX3_readAny 58 = .ok (.ireturn, 1) := by decide +kernel
theorem dX3_readLine_0 : decode cX3_readLine 0 = .ok (.aload_n 0, 1) := by decide +kernel
theorem dX3_readLine_1 : decode cX3_readLine 1 = .ok (.sipush 309, 3) := by decide +kernel
theorem dX3_readLine_4 : decode cX3_readLine 4 = .ok (.invokevirtual 39, 3) := by decide +kernel
theorem dX3_readLine_7 : decode cX3_readLine 7 = .ok (.ifCond .ne 5, 3) := by decide +kernel
theorem dX3_readLine_10 : decode cX3_readLine 10 = .ok (.iconst 0, 1) := by decide +kernel
theorem dX3_readLine_11 : decode cX3_readLine 11 = .ok (.ireturn, 1) := by decide +kernel
theorem dX3_readLine_12 : decode cX3_readLine 12 = .ok (.aload_n 0, 1) := by decide +kernel
theorem dX3_readLine_13 : decode cX3_readLine 13 = .ok (.getfield 43, 3) := by decide +kernel
theorem dX3_readLine_16 : decode cX3_readLine 16 = .ok (.istore_n 1, 1) := by decide +kernel
theorem dX3_readLine_17 : decode cX3_readLine 17 = .ok (.aload_n 0, 1) := by decide +kernel
theorem dX3_readLine_18 : decode cX3_readLine 18 = .ok (.iconst 0, 1) := by decide +kernel
theorem dX3_readLine_19 : decode cX3_readLine 19 = .ok (.sipush 999, 3) := by decide +kernel
theorem dX3_readLine_22 : decode cX3_readLine 22 = .ok (.invokevirtual 46, 3) := by decide +kernel
theorem dX3_readLine_25 : decode cX3_readLine 25 = .ok (.ifCond .ne 5, 3) := by decide +kernel
theorem dX3_readLine_28 : decode cX3_readLine 28 = .ok (.iconst 0, 1) := by decide +kernel
theorem dX3_readLine_29 : decode cX3_readLine 29 = .ok (.ireturn, 1) := by decide +kernel
theorem dX3_readLine_30 : decode cX3_readLine 30 = .ok (.aload_n 0, 1) := by decide +kernel
theorem dX3_readLine_31 : decode cX3_readLine 31 = .ok (.getfield 50, 3) := by decide +kernel
theorem dX3_readLine_34 : decode cX3_readLine 34 = .ok (.sipush 310, 3) := by decide +kernel
theorem dX3_readLine_37 : decode cX3_readLine 37 = .ok (.if_icmp .ne 17, 3) := by decide +kernel
theorem dX3_readLine_40 : decode cX3_readLine 40 = .ok (.aload_n 0, 1) := by decide +kernel
theorem dX3_readLine_41 : decode cX3_readLine 41 = .ok (.invokevirtual 53, 3) := by decide +kernel
theorem dX3_readLine_44 : decode cX3_readLine 44 = .ok (.aload_n 0, 1) := by decide +kernel
theorem dX3_readLine_45 : decode cX3_readLine 45 = .ok (.iconst 0, 1) := by decide +kernel
theorem dX3_readLine_46 : decode cX3_readLine 46 = .ok (.invokevirtual 56, 3) := by decide +kernel
theorem dX3_readLine_49 : decode cX3_readLine 49 = .ok (.ifCond .ne 11, 3) := by decide +kernel
theorem dX3_readLine_52 : decode cX3_readLine 52 = .ok (.iconst 0, 1) := by decide +kernel
theorem dX3_readLine_53 : decode cX3_readLine 53 = .ok (.ireturn, 1) := by decide +kernel
theorem dX3_readLine_54 : decode cX3_readLine 54 = .ok (.aload_n 0, 1) := by decide +kernel
theorem dX3_readLine_55 : decode cX3_readLine 55 = .ok (.iconst 1, 1) := by decide +kernel
theorem dX3_readLine_56 : decode cX3_readLine 56 = .ok (.invokevirtual 59, 3) := by decide +kernel
theorem dX3_readLine_59 : decode cX3_readLine 59 = .ok (.pop, 1) := by decide +kernel
theorem dX3_readLine_60 : decode cX3_readLine 60 = .ok (.aload_n 0, 1) := by decide +kernel
theorem dX3_readLine_61 : decode cX3_readLine 61 = .ok (.iload_n 1, 1) := by decide +kernel
theorem dX3_readLine_62 : decode cX3_readLine 62 = .ok (.invokevirtual 59, 3) := by decide +kernel
theorem dX3_readLine_65 : decode cX3_readLine 65 = .ok (.pop, 1) := by decide +kernel
theorem dX3_readLine_66 : decode cX3_readLine 66 = .ok (.aload_n 0, 1) := by decide +kernel
theorem dX3_readLine_67 : decode cX3_readLine 67 = .ok (.sipush 2006, 3) := by decide +kernel
theorem dX3_readLine_70 : decode cX3_readLine 70 = .ok (.invokevirtual 59, 3) := by decide +kernel
theorem dX3_readLine_73 : decode cX3_readLine 73 = .ok (.ireturn, 1) := by decide +kernel
theorem dX3_startAnew_0 : decode cX3_startAnew 0 = .ok (.aload_n 0, 1) := by decide +kernel
theorem dX3_startAnew_1 : decode cX3_startAnew 1 = .ok (.iconst 0, 1) := by decide +kernel
theorem dX3_startAnew_2 : decode cX3_startAnew 2 = .ok (.putfield 15, 3) := by decide +kernel
theorem dX3_startAnew_5 : decode cX3_startAnew 5 = .ok (.return_, 1) := by decide +kernel
