theorem dX0_init_0 : decode cX0_init 0 = .ok (.aload_n 0, 1) := by decide +kernel
theorem dX0_init_1 : decode cX0_init 1 = .ok (.iload_n 1, 1) := by decide +kernel
theorem dX0_init_2 : decode cX0_init 2 = .ok (.iload_n 2, 1) := by decide +kernel
theorem dX0_init_3 : decode cX0_init 3 = .ok (.invokespecial 3, 3) := by decide +kernel
theorem dX0_init_6 : decode cX0_init 6 = .ok (.return_, 1) := by decide +kernel
theorem dX0_kind_0 : decode cX0_kind 0 = .ok (.iconst 2, 1) := by decide +kernel
theorem dX0_kind_1 : decode cX0_kind 1 = .ok (.ireturn, 1) := by decide +kernel
theorem dX0_heard_0 : decode cX0_heard 0 = .ok (.iload 4, 2) := by decide +kernel
theorem dX0_heard_2 : decode cX0_heard 2 = .ok (.lload_n 1, 1) := by decide +kernel
theorem dX0_heard_3 : decode cX0_heard 3 = .ok (.iload_n 3, 1) := by decide +kernel
theorem dX0_heard_4 : decode cX0_heard 4 = .ok (.invokestatic 9, 3) := by decide +kernel
theorem dX0_heard_7 : decode cX0_heard 7 = .ok (.invokestatic 15, 3) := by decide +kernel
theorem dX0_heard_10 : decode cX0_heard 10 = .ok (.ireturn, 1) := by decide +kernel
theorem dX0_open_0 : decode cX0_open 0 = .ok (.iload_n 3, 1) := by decide +kernel
theorem dX0_open_1 : decode cX0_open 1 = .ok (.ifCond .eq 10, 3) := by decide +kernel
theorem dX0_open_4 : decode cX0_open 4 = .ok (.lload_n 1, 1) := by decide +kernel
theorem dX0_open_5 : decode cX0_open 5 = .ok (.invokestatic 19, 3) := by decide +kernel
theorem dX0_open_8 : decode cX0_open 8 = .ok (.ifCond .ne 7, 3) := by decide +kernel
theorem dX0_open_11 : decode cX0_open 11 = .ok (.iconst 1, 1) := by decide +kernel
theorem dX0_open_12 : decode cX0_open 12 = .ok (.goto 4, 3) := by decide +kernel
theorem dX0_open_15 : decode cX0_open 15 = .ok (.iconst 0, 1) := by decide +kernel
theorem dX0_open_16 : decode cX0_open 16 = .ok (.ireturn, 1) := by decide +kernel
theorem dX1_init_0 : decode cX1_init 0 = .ok (.aload_n 0, 1) := by decide +kernel
theorem dX1_init_1 : decode cX1_init 1 = .ok (.invokespecial 3, 3) := by decide +kernel
theorem dX1_init_4 : decode cX1_init 4 = .ok (.aload_n 0, 1) := by decide +kernel
theorem dX1_init_5 : decode cX1_init 5 = .ok (.bipush 8, 2) := by decide +kernel
theorem dX1_init_7 : decode cX1_init 7 = .ok (.anewarray 9, 3) := by decide +kernel
theorem dX1_init_10 : decode cX1_init 10 = .ok (.putfield 11, 3) := by decide +kernel
theorem dX1_init_13 : decode cX1_init 13 = .ok (.return_, 1) := by decide +kernel
theorem dX1_read_0 : decode cX1_read 0 = .ok (.aload_n 0, 1) := by decide +kernel
theorem dX1_read_1 : decode cX1_read 1 = .ok (.aload_n 1, 1) := by decide +kernel
theorem dX1_read_2 : decode cX1_read 2 = .ok (.iconst 0, 1) := by decide +kernel
theorem dX1_read_3 : decode cX1_read 3 = .ok (.invokevirtual 17, 3) := by decide +kernel
theorem dX1_read_6 : decode cX1_read 6 = .ok (.putfield 23, 3) := by decide +kernel
theorem dX1_read_9 : decode cX1_read 9 = .ok (.aload_n 0, 1) := by decide +kernel
theorem dX1_read_10 : decode cX1_read 10 = .ok (.aload_n 1, 1) := by decide +kernel
theorem dX1_read_11 : decode cX1_read 11 = .ok (.invokevirtual 27, 3) := by decide +kernel
theorem dX1_read_14 : decode cX1_read 14 = .ok (.aload_n 0, 1) := by decide +kernel
theorem dX1_read_15 : decode cX1_read 15 = .ok (.getfield 11, 3) := by decide +kernel
theorem dX1_read_18 : decode cX1_read 18 = .ok (.arraylength, 1) := by decide +kernel
theorem dX1_read_19 : decode cX1_read 19 = .ok (.invokestatic 30, 3) := by decide +kernel
theorem dX1_read_22 : decode cX1_read 22 = .ok (.putfield 36, 3) := by decide +kernel
theorem dX1_read_25 : decode cX1_read 25 = .ok (.iconst 0, 1) := by decide +kernel
theorem dX1_read_26 : decode cX1_read 26 = .ok (.istore_n 2, 1) := by decide +kernel
theorem dX1_read_27 : decode cX1_read 27 = .ok (.iload_n 2, 1) := by decide +kernel
theorem dX1_read_28 : decode cX1_read 28 = .ok (.aload_n 0, 1) := by decide +kernel
theorem dX1_read_29 : decode cX1_read 29 = .ok (.getfield 36, 3) := by decide +kernel
theorem dX1_read_32 : decode cX1_read 32 = .ok (.if_icmp .ge 33, 3) := by decide +kernel
theorem dX1_read_35 : decode cX1_read 35 = .ok (.aload_n 0, 1) := by decide +kernel
theorem dX1_read_36 : decode cX1_read 36 = .ok (.getfield 11, 3) := by decide +kernel
theorem dX1_read_39 : decode cX1_read 39 = .ok (.iload_n 2, 1) := by decide +kernel
theorem dX1_read_40 : decode cX1_read 40 = .ok (.aload_n 1, 1) := by decide +kernel
theorem dX1_read_41 : decode cX1_read 41 = .ok (.iload_n 2, 1) := by decide +kernel
theorem dX1_read_42 : decode cX1_read 42 = .ok (.invokevirtual 39, 3) := by decide +kernel
theorem dX1_read_45 : decode cX1_read 45 = .ok (.aload_n 1, 1) := by decide +kernel
theorem dX1_read_46 : decode cX1_read 46 = .ok (.iload_n 2, 1) := by decide +kernel
theorem dX1_read_47 : decode cX1_read 47 = .ok (.invokevirtual 42, 3) := by decide +kernel
theorem dX1_read_50 : decode cX1_read 50 = .ok (.aload_n 1, 1) := by decide +kernel
theorem dX1_read_51 : decode cX1_read 51 = .ok (.iload_n 2, 1) := by decide +kernel
theorem dX1_read_52 : decode cX1_read 52 = .ok (.invokevirtual 45, 3) := by decide +kernel
theorem dX1_read_55 : decode cX1_read 55 = .ok (.invokestatic 48, 3) := by decide +kernel
theorem dX1_read_58 : decode cX1_read 58 = .ok (.aastore, 1) := by decide +kernel
theorem dX1_read_59 : decode cX1_read 59 = .ok (.iinc 2 1, 3) := by decide +kernel
theorem dX1_read_62 : decode cX1_read 62 = .ok (.goto (-35), 3) := by decide +kernel
theorem dX1_read_65 : decode cX1_read 65 = .ok (.return_, 1) := by decide +kernel
theorem dX1_make_0 : decode cX1_make 0 = .ok (.iload_n 0, 1) := by decide +kernel
theorem dX1_make_1 : decode cX1_make 1 = .ok (.tableswitch 71 1 4 #[31, 41, 51, 61], 31) := by decide +kernel
theorem dX1_make_32 : decode cX1_make 32 = .ok (.new 52, 3) := by decide +kernel
theorem dX1_make_35 : decode cX1_make 35 = .ok (.dup, 1) := by decide +kernel
theorem dX1_make_36 : decode cX1_make 36 = .ok (.iload_n 1, 1) := by decide +kernel
theorem dX1_make_37 : decode cX1_make 37 = .ok (.iload_n 2, 1) := by decide +kernel
theorem dX1_make_38 : decode cX1_make 38 = .ok (.invokespecial 54, 3) := by decide +kernel
theorem dX1_make_41 : decode cX1_make 41 = .ok (.areturn, 1) := by decide +kernel
theorem dX1_make_42 : decode cX1_make 42 = .ok (.new 57, 3) := by decide +kernel
theorem dX1_make_45 : decode cX1_make 45 = .ok (.dup, 1) := by decide +kernel
theorem dX1_make_46 : decode cX1_make 46 = .ok (.iload_n 1, 1) := by decide +kernel
theorem dX1_make_47 : decode cX1_make 47 = .ok (.iload_n 2, 1) := by decide +kernel
theorem dX1_make_48 : decode cX1_make 48 = .ok (.invokespecial 59, 3) := by decide +kernel
theorem dX1_make_51 : decode cX1_make 51 = .ok (.areturn, 1) := by decide +kernel
theorem dX1_make_52 : decode cX1_make 52 = .ok (.new 60, 3) := by decide +kernel
theorem dX1_make_55 : decode cX1_make 55 = .ok (.dup, 1) := by decide +kernel
theorem dX1_make_56 : decode cX1_make 56 = .ok (.iload_n 1, 1) := by decide +kernel
theorem dX1_make_57 : decode cX1_make 57 = .ok (.iload_n 2, 1) := by decide +kernel
theorem dX1_make_58 : decode cX1_make 58 = .ok (.invokespecial 62, 3) := by decide +kernel
theorem dX1_make_61 : decode cX1_make 61 = .ok (.areturn, 1) := by decide +kernel
theorem dX1_make_62 : decode cX1_make 62 = .ok (.new 63, 3) := by decide +kernel
theorem dX1_make_65 : decode cX1_make 65 = .ok (.dup, 1) := by decide +kernel
theorem dX1_make_66 : decode cX1_make 66 = .ok (.iload_n 1, 1) := by decide +kernel
theorem dX1_make_67 : decode cX1_make 67 = .ok (.iload_n 2, 1) := by decide +kernel
theorem dX1_make_68 : decode cX1_make 68 = .ok (.invokespecial 65, 3) := by decide +kernel
theorem dX1_make_71 : decode cX1_make 71 = .ok (.areturn, 1) := by decide +kernel
theorem dX1_make_72 : decode cX1_make 72 = .ok (.new 9, 3) := by decide +kernel
theorem dX1_make_75 : decode cX1_make 75 = .ok (.dup, 1) := by decide +kernel
theorem dX1_make_76 : decode cX1_make 76 = .ok (.iload_n 1, 1) := by decide +kernel
theorem dX1_make_77 : decode cX1_make 77 = .ok (.iload_n 2, 1) := by decide +kernel
theorem dX1_make_78 : decode cX1_make 78 = .ok (.invokespecial 66, 3) := by decide +kernel
theorem dX1_make_81 : decode cX1_make 81 = .ok (.areturn, 1) := by decide +kernel
theorem dX1_at_0 : decode cX1_at 0 = .ok (.iload_n 1, 1) := by decide +kernel
theorem dX1_at_1 : decode cX1_at 1 = .ok (.ifCond .lt 29, 3) := by decide +kernel
theorem dX1_at_4 : decode cX1_at 4 = .ok (.iload_n 1, 1) := by decide +kernel
theorem dX1_at_5 : decode cX1_at 5 = .ok (.aload_n 0, 1) := by decide +kernel
theorem dX1_at_6 : decode cX1_at 6 = .ok (.getfield 36, 3) := by decide +kernel
theorem dX1_at_9 : decode cX1_at 9 = .ok (.if_icmp .ge 21, 3) := by decide +kernel
theorem dX1_at_12 : decode cX1_at 12 = .ok (.iload_n 1, 1) := by decide +kernel
theorem dX1_at_13 : decode cX1_at 13 = .ok (.aload_n 0, 1) := by decide +kernel
theorem dX1_at_14 : decode cX1_at 14 = .ok (.getfield 11, 3) := by decide +kernel
theorem dX1_at_17 : decode cX1_at 17 = .ok (.arraylength, 1) := by decide +kernel
theorem dX1_at_18 : decode cX1_at 18 = .ok (.if_icmp .ge 12, 3) := by decide +kernel
theorem dX1_at_21 : decode cX1_at 21 = .ok (.aload_n 0, 1) := by decide +kernel
theorem dX1_at_22 : decode cX1_at 22 = .ok (.getfield 11, 3) := by decide +kernel
theorem dX1_at_25 : decode cX1_at 25 = .ok (.iload_n 1, 1) := by decide +kernel
theorem dX1_at_26 : decode cX1_at 26 = .ok (.aaload, 1) := by decide +kernel
theorem dX1_at_27 : decode cX1_at 27 = .ok (.goto 4, 3) := by decide +kernel
theorem dX1_at_30 : decode cX1_at 30 = .ok (.aconst_null, 1) := by decide +kernel
theorem dX1_at_31 : decode cX1_at 31 = .ok (.areturn, 1) := by decide +kernel
theorem dX1_from_0 : decode cX1_from 0 = .ok (.aload_n 0, 1) := by decide +kernel
theorem dX1_from_1 : decode cX1_from 1 = .ok (.iload_n 2, 1) := by decide +kernel
theorem dX1_from_2 : decode cX1_from 2 = .ok (.invokevirtual 67, 3) := by decide +kernel
theorem dX1_from_5 : decode cX1_from 5 = .ok (.astore_n 3, 1) := by decide +kernel
theorem dX1_from_6 : decode cX1_from 6 = .ok (.aload_n 3, 1) := by decide +kernel
theorem dX1_from_7 : decode cX1_from 7 = .ok (.ifnull 15, 3) := by decide +kernel
theorem dX1_from_10 : decode cX1_from 10 = .ok (.aload_n 3, 1) := by decide +kernel
theorem dX1_from_11 : decode cX1_from 11 = .ok (.iload_n 1, 1) := by decide +kernel
theorem dX1_from_12 : decode cX1_from 12 = .ok (.invokevirtual 71, 3) := by decide +kernel
theorem dX1_from_15 : decode cX1_from 15 = .ok (.ifCond .eq 7, 3) := by decide +kernel
theorem dX1_from_18 : decode cX1_from 18 = .ok (.aload_n 3, 1) := by decide +kernel
theorem dX1_from_19 : decode cX1_from 19 = .ok (.goto 4, 3) := by decide +kernel
theorem dX1_from_22 : decode cX1_from 22 = .ok (.aconst_null, 1) := by decide +kernel
theorem dX1_from_23 : decode cX1_from 23 = .ok (.areturn, 1) := by decide +kernel
theorem dX1_countAt_0 : decode cX1_countAt 0 = .ok (.iconst 0, 1) := by decide +kernel
theorem dX1_countAt_1 : decode cX1_countAt 1 = .ok (.istore_n 2, 1) := by decide +kernel
theorem dX1_countAt_2 : decode cX1_countAt 2 = .ok (.iconst 0, 1) := by decide +kernel
theorem dX1_countAt_3 : decode cX1_countAt 3 = .ok (.istore_n 3, 1) := by decide +kernel
theorem dX1_countAt_4 : decode cX1_countAt 4 = .ok (.iload_n 3, 1) := by decide +kernel
theorem dX1_countAt_5 : decode cX1_countAt 5 = .ok (.aload_n 0, 1) := by decide +kernel
theorem dX1_countAt_6 : decode cX1_countAt 6 = .ok (.getfield 36, 3) := by decide +kernel
theorem dX1_countAt_9 : decode cX1_countAt 9 = .ok (.if_icmp .ge 21, 3) := by decide +kernel
theorem dX1_countAt_12 : decode cX1_countAt 12 = .ok (.aload_n 0, 1) := by decide +kernel
theorem dX1_countAt_13 : decode cX1_countAt 13 = .ok (.iload_n 1, 1) := by decide +kernel
theorem dX1_countAt_14 : decode cX1_countAt 14 = .ok (.iload_n 3, 1) := by decide +kernel
theorem dX1_countAt_15 : decode cX1_countAt 15 = .ok (.invokevirtual 75, 3) := by decide +kernel
theorem dX1_countAt_18 : decode cX1_countAt 18 = .ok (.ifnull 6, 3) := by decide +kernel
theorem dX1_countAt_21 : decode cX1_countAt 21 = .ok (.iinc 2 1, 3) := by decide +kernel
theorem dX1_countAt_24 : decode cX1_countAt 24 = .ok (.iinc 3 1, 3) := by decide +kernel
theorem dX1_countAt_27 : decode cX1_countAt 27 = .ok (.goto (-23), 3) := by decide +kernel
theorem dX1_countAt_30 : decode cX1_countAt 30 = .ok (.iload_n 2, 1) := by decide +kernel
theorem dX1_countAt_31 : decode cX1_countAt 31 = .ok (.ireturn, 1) := by decide +kernel
theorem dX1_numberAt_0 : decode cX1_numberAt 0 = .ok (.iconst 0, 1) := by decide +kernel
theorem dX1_numberAt_1 : decode cX1_numberAt 1 = .ok (.istore_n 3, 1) := by decide +kernel
theorem dX1_numberAt_2 : decode cX1_numberAt 2 = .ok (.iconst 0, 1) := by decide +kernel
theorem dX1_numberAt_3 : decode cX1_numberAt 3 = .ok (.istore 4, 2) := by decide +kernel
theorem dX1_numberAt_5 : decode cX1_numberAt 5 = .ok (.iload 4, 2) := by decide +kernel
theorem dX1_numberAt_7 : decode cX1_numberAt 7 = .ok (.aload_n 0, 1) := by decide +kernel
theorem dX1_numberAt_8 : decode cX1_numberAt 8 = .ok (.getfield 36, 3) := by decide +kernel
theorem dX1_numberAt_11 : decode cX1_numberAt 11 = .ok (.if_icmp .ge 30, 3) := by decide +kernel
theorem dX1_numberAt_14 : decode cX1_numberAt 14 = .ok (.aload_n 0, 1) := by decide +kernel
theorem dX1_numberAt_15 : decode cX1_numberAt 15 = .ok (.iload_n 1, 1) := by decide +kernel
theorem dX1_numberAt_16 : decode cX1_numberAt 16 = .ok (.iload 4, 2) := by decide +kernel
theorem dX1_numberAt_18 : decode cX1_numberAt 18 = .ok (.invokevirtual 75, 3) := by decide +kernel
theorem dX1_numberAt_21 : decode cX1_numberAt 21 = .ok (.ifnull 14, 3) := by decide +kernel
theorem dX1_numberAt_24 : decode cX1_numberAt 24 = .ok (.iload_n 3, 1) := by decide +kernel
theorem dX1_numberAt_25 : decode cX1_numberAt 25 = .ok (.iload_n 2, 1) := by decide +kernel
theorem dX1_numberAt_26 : decode cX1_numberAt 26 = .ok (.if_icmp .ne 6, 3) := by decide +kernel
theorem dX1_numberAt_29 : decode cX1_numberAt 29 = .ok (.iload 4, 2) := by decide +kernel
theorem dX1_numberAt_31 : decode cX1_numberAt 31 = .ok (.ireturn, 1) := by decide +kernel
theorem dX1_numberAt_32 : decode cX1_numberAt 32 = .ok (.iinc 3 1, 3) := by decide +kernel
theorem dX1_numberAt_35 : decode cX1_numberAt 35 = .ok (.iinc 4 1, 3) := by decide +kernel
theorem dX1_numberAt_38 : decode cX1_numberAt 38 = .ok (.goto (-33), 3) := by decide +kernel
theorem dX1_numberAt_41 : decode cX1_numberAt 41 = .ok (.iconst (-1), 1) := by decide +kernel
theorem dX1_numberAt_42 : decode cX1_numberAt 42 = .ok (.ireturn, 1) := by decide +kernel
theorem dX2_init_0 : decode cX2_init 0 = .ok (.aload_n 0, 1) := by decide +kernel
theorem dX2_init_1 : decode cX2_init 1 = .ok (.iload_n 1, 1) := by decide +kernel
theorem dX2_init_2 : decode cX2_init 2 = .ok (.iload_n 2, 1) := by decide +kernel
theorem dX2_init_3 : decode cX2_init 3 = .ok (.invokespecial 3, 3) := by decide +kernel
theorem dX2_init_6 : decode cX2_init 6 = .ok (.return_, 1) := by decide +kernel
theorem dX2_kind_0 : decode cX2_kind 0 = .ok (.iconst 1, 1) := by decide +kernel
theorem dX2_kind_1 : decode cX2_kind 1 = .ok (.ireturn, 1) := by decide +kernel
theorem dX2_heard_0 : decode cX2_heard 0 = .ok (.lload_n 1, 1) := by decide +kernel
theorem dX2_heard_1 : decode cX2_heard 1 = .ok (.iload_n 3, 1) := by decide +kernel
theorem dX2_heard_2 : decode cX2_heard 2 = .ok (.invokestatic 9, 3) := by decide +kernel
theorem dX2_heard_5 : decode cX2_heard 5 = .ok (.istore 5, 2) := by decide +kernel
theorem dX2_heard_7 : decode cX2_heard 7 = .ok (.iload 5, 2) := by decide +kernel
theorem dX2_heard_9 : decode cX2_heard 9 = .ok (.iload 4, 2) := by decide +kernel
theorem dX2_heard_11 : decode cX2_heard 11 = .ok (.invokestatic 15, 3) := by decide +kernel
theorem dX2_heard_14 : decode cX2_heard 14 = .ok (.istore 6, 2) := by decide +kernel
theorem dX2_heard_16 : decode cX2_heard 16 = .ok (.iload 6, 2) := by decide +kernel
theorem dX2_heard_18 : decode cX2_heard 18 = .ok (.iconst 4, 1) := by decide +kernel
theorem dX2_heard_19 : decode cX2_heard 19 = .ok (.if_icmp .eq 17, 3) := by decide +kernel
theorem dX2_heard_22 : decode cX2_heard 22 = .ok (.iload 6, 2) := by decide +kernel
theorem dX2_heard_24 : decode cX2_heard 24 = .ok (.bipush 9, 2) := by decide +kernel
theorem dX2_heard_26 : decode cX2_heard 26 = .ok (.if_icmp .eq 10, 3) := by decide +kernel
theorem dX2_heard_29 : decode cX2_heard 29 = .ok (.iload 6, 2) := by decide +kernel
theorem dX2_heard_31 : decode cX2_heard 31 = .ok (.bipush 11, 2) := by decide +kernel
theorem dX2_heard_33 : decode cX2_heard 33 = .ok (.if_icmp .ne 7, 3) := by decide +kernel
theorem dX2_heard_36 : decode cX2_heard 36 = .ok (.iconst 1, 1) := by decide +kernel
theorem dX2_heard_37 : decode cX2_heard 37 = .ok (.goto 4, 3) := by decide +kernel
theorem dX2_heard_40 : decode cX2_heard 40 = .ok (.iconst 0, 1) := by decide +kernel
theorem dX2_heard_41 : decode cX2_heard 41 = .ok (.istore 7, 2) := by decide +kernel
theorem dX2_heard_43 : decode cX2_heard 43 = .ok (.iload 7, 2) := by decide +kernel
theorem dX2_heard_45 : decode cX2_heard 45 = .ok (.ifCond .eq 16, 3) := by decide +kernel
theorem dX2_heard_48 : decode cX2_heard 48 = .ok (.iload 5, 2) := by decide +kernel
theorem dX2_heard_50 : decode cX2_heard 50 = .ok (.bipush 12, 2) := by decide +kernel
theorem dX2_heard_52 : decode cX2_heard 52 = .ok (.iadd, 1) := by decide +kernel
theorem dX2_heard_53 : decode cX2_heard 53 = .ok (.iconst 1, 1) := by decide +kernel
theorem dX2_heard_54 : decode cX2_heard 54 = .ok (.isub, 1) := by decide +kernel
theorem dX2_heard_55 : decode cX2_heard 55 = .ok (.bipush 12, 2) := by decide +kernel
theorem dX2_heard_57 : decode cX2_heard 57 = .ok (.irem, 1) := by decide +kernel
theorem dX2_heard_58 : decode cX2_heard 58 = .ok (.goto 5, 3) := by decide +kernel
theorem dX2_heard_61 : decode cX2_heard 61 = .ok (.iload 5, 2) := by decide +kernel
theorem dX2_heard_63 : decode cX2_heard 63 = .ok (.ireturn, 1) := by decide +kernel
theorem dX3_init_0 : decode cX3_init 0 = .ok (.aload_n 0, 1) := by decide +kernel
theorem dX3_init_1 : decode cX3_init 1 = .ok (.invokespecial 3, 3) := by decide +kernel
theorem dX3_init_4 : decode cX3_init 4 = .ok (.aload_n 0, 1) := by decide +kernel
theorem dX3_init_5 : decode cX3_init 5 = .ok (.bipush 8, 2) := by decide +kernel
theorem dX3_init_7 : decode cX3_init 7 = .ok (.newarray .int, 2) := by decide +kernel
theorem dX3_init_9 : decode cX3_init 9 = .ok (.putfield 9, 3) := by decide +kernel
theorem dX3_init_12 : decode cX3_init 12 = .ok (.aload_n 0, 1) := by decide +kernel
theorem dX3_init_13 : decode cX3_init 13 = .ok (.bipush 8, 2) := by decide +kernel
theorem dX3_init_15 : decode cX3_init 15 = .ok (.newarray .int, 2) := by decide +kernel
theorem dX3_init_17 : decode cX3_init 17 = .ok (.putfield 15, 3) := by decide +kernel
theorem dX3_init_20 : decode cX3_init 20 = .ok (.aload_n 0, 1) := by decide +kernel
theorem dX3_init_21 : decode cX3_init 21 = .ok (.bipush 6, 2) := by decide +kernel
theorem dX3_init_23 : decode cX3_init 23 = .ok (.newarray .int, 2) := by decide +kernel
theorem dX3_init_25 : decode cX3_init 25 = .ok (.putfield 18, 3) := by decide +kernel
theorem dX3_init_28 : decode cX3_init 28 = .ok (.aload_n 0, 1) := by decide +kernel
theorem dX3_init_29 : decode cX3_init 29 = .ok (.bipush 6, 2) := by decide +kernel
theorem dX3_init_31 : decode cX3_init 31 = .ok (.newarray .int, 2) := by decide +kernel
theorem dX3_init_33 : decode cX3_init 33 = .ok (.putfield 21, 3) := by decide +kernel
theorem dX3_init_36 : decode cX3_init 36 = .ok (.aload_n 0, 1) := by decide +kernel
theorem dX3_init_37 : decode cX3_init 37 = .ok (.bipush 6, 2) := by decide +kernel
theorem dX3_init_39 : decode cX3_init 39 = .ok (.newarray .int, 2) := by decide +kernel
theorem dX3_init_41 : decode cX3_init 41 = .ok (.putfield 24, 3) := by decide +kernel
theorem dX3_init_44 : decode cX3_init 44 = .ok (.aload_n 0, 1) := by decide +kernel
theorem dX3_init_45 : decode cX3_init 45 = .ok (.lconst 0, 1) := by decide +kernel
theorem dX3_init_46 : decode cX3_init 46 = .ok (.putfield 27, 3) := by decide +kernel
theorem dX3_init_49 : decode cX3_init 49 = .ok (.aload_n 0, 1) := by decide +kernel
theorem dX3_init_50 : decode cX3_init 50 = .ok (.lconst 0, 1) := by decide +kernel
theorem dX3_init_51 : decode cX3_init 51 = .ok (.putfield 31, 3) := by decide +kernel
theorem dX3_init_54 : decode cX3_init 54 = .ok (.return_, 1) := by decide +kernel
theorem dX3_enter_0 : decode cX3_enter 0 = .ok (.iconst 0, 1) := by decide +kernel
theorem dX3_enter_1 : decode cX3_enter 1 = .ok (.istore_n 3, 1) := by decide +kernel
theorem dX3_enter_2 : decode cX3_enter 2 = .ok (.iload_n 3, 1) := by decide +kernel
theorem dX3_enter_3 : decode cX3_enter 3 = .ok (.iload_n 2, 1) := by decide +kernel
theorem dX3_enter_4 : decode cX3_enter 4 = .ok (.if_icmp .ge 19, 3) := by decide +kernel
theorem dX3_enter_7 : decode cX3_enter 7 = .ok (.aload_n 0, 1) := by decide +kernel
theorem dX3_enter_8 : decode cX3_enter 8 = .ok (.iload_n 3, 1) := by decide +kernel
theorem dX3_enter_9 : decode cX3_enter 9 = .ok (.aload_n 1, 1) := by decide +kernel
theorem dX3_enter_10 : decode cX3_enter 10 = .ok (.iload_n 3, 1) := by decide +kernel
theorem dX3_enter_11 : decode cX3_enter 11 = .ok (.invokevirtual 34, 3) := by decide +kernel
theorem dX3_enter_14 : decode cX3_enter 14 = .ok (.invokevirtual 40, 3) := by decide +kernel
theorem dX3_enter_17 : decode cX3_enter 17 = .ok (.iinc 3 1, 3) := by decide +kernel
theorem dX3_enter_20 : decode cX3_enter 20 = .ok (.goto (-18), 3) := by decide +kernel
theorem dX3_enter_23 : decode cX3_enter 23 = .ok (.iconst 0, 1) := by decide +kernel
theorem dX3_enter_24 : decode cX3_enter 24 = .ok (.istore_n 3, 1) := by decide +kernel
theorem dX3_enter_25 : decode cX3_enter 25 = .ok (.iload_n 3, 1) := by decide +kernel
theorem dX3_enter_26 : decode cX3_enter 26 = .ok (.aload_n 0, 1) := by decide +kernel
theorem dX3_enter_27 : decode cX3_enter 27 = .ok (.getfield 15, 3) := by decide +kernel
theorem dX3_enter_30 : decode cX3_enter 30 = .ok (.arraylength, 1) := by decide +kernel
theorem dX3_enter_31 : decode cX3_enter 31 = .ok (.if_icmp .ge 16, 3) := by decide +kernel
theorem dX3_enter_34 : decode cX3_enter 34 = .ok (.aload_n 0, 1) := by decide +kernel
theorem dX3_enter_35 : decode cX3_enter 35 = .ok (.getfield 15, 3) := by decide +kernel
theorem dX3_enter_38 : decode cX3_enter 38 = .ok (.iload_n 3, 1) := by decide +kernel
theorem dX3_enter_39 : decode cX3_enter 39 = .ok (.iconst 0, 1) := by decide +kernel
theorem dX3_enter_40 : decode cX3_enter 40 = .ok (.iastore, 1) := by decide +kernel
theorem dX3_enter_41 : decode cX3_enter 41 = .ok (.iinc 3 1, 3) := by decide +kernel
theorem dX3_enter_44 : decode cX3_enter 44 = .ok (.goto (-19), 3) := by decide +kernel
theorem dX3_enter_47 : decode cX3_enter 47 = .ok (.aload_n 0, 1) := by decide +kernel
theorem dX3_enter_48 : decode cX3_enter 48 = .ok (.iconst 0, 1) := by decide +kernel
theorem dX3_enter_49 : decode cX3_enter 49 = .ok (.putfield 44, 3) := by decide +kernel
theorem dX3_enter_52 : decode cX3_enter 52 = .ok (.aload_n 0, 1) := by decide +kernel
theorem dX3_enter_53 : decode cX3_enter 53 = .ok (.iconst 0, 1) := by decide +kernel
theorem dX3_enter_54 : decode cX3_enter 54 = .ok (.putfield 48, 3) := by decide +kernel
theorem dX3_enter_57 : decode cX3_enter 57 = .ok (.aload_n 0, 1) := by decide +kernel
theorem dX3_enter_58 : decode cX3_enter 58 = .ok (.iconst 0, 1) := by decide +kernel
theorem dX3_enter_59 : decode cX3_enter 59 = .ok (.putfield 52, 3) := by decide +kernel
theorem dX3_enter_62 : decode cX3_enter 62 = .ok (.aload_n 0, 1) := by decide +kernel
theorem dX3_enter_63 : decode cX3_enter 63 = .ok (.iconst 0, 1) := by decide +kernel
theorem dX3_enter_64 : decode cX3_enter 64 = .ok (.putfield 55, 3) := by decide +kernel
theorem dX3_enter_67 : decode cX3_enter 67 = .ok (.return_, 1) := by decide +kernel
theorem dX3_copy_0 : decode cX3_copy 0 = .ok (.aload_n 1, 1) := by decide +kernel
theorem dX3_copy_1 : decode cX3_copy 1 = .ok (.getfield 9, 3) := by decide +kernel
theorem dX3_copy_4 : decode cX3_copy 4 = .ok (.iconst 0, 1) := by decide +kernel
theorem dX3_copy_5 : decode cX3_copy 5 = .ok (.aload_n 0, 1) := by decide +kernel
theorem dX3_copy_6 : decode cX3_copy 6 = .ok (.getfield 9, 3) := by decide +kernel
theorem dX3_copy_9 : decode cX3_copy 9 = .ok (.iconst 0, 1) := by decide +kernel
theorem dX3_copy_10 : decode cX3_copy 10 = .ok (.bipush 8, 2) := by decide +kernel
theorem dX3_copy_12 : decode cX3_copy 12 = .ok (.invokestatic 58, 3) := by decide +kernel
theorem dX3_copy_15 : decode cX3_copy 15 = .ok (.aload_n 1, 1) := by decide +kernel
theorem dX3_copy_16 : decode cX3_copy 16 = .ok (.getfield 15, 3) := by decide +kernel
theorem dX3_copy_19 : decode cX3_copy 19 = .ok (.iconst 0, 1) := by decide +kernel
theorem dX3_copy_20 : decode cX3_copy 20 = .ok (.aload_n 0, 1) := by decide +kernel
theorem dX3_copy_21 : decode cX3_copy 21 = .ok (.getfield 15, 3) := by decide +kernel
theorem dX3_copy_24 : decode cX3_copy 24 = .ok (.iconst 0, 1) := by decide +kernel
theorem dX3_copy_25 : decode cX3_copy 25 = .ok (.bipush 8, 2) := by decide +kernel
theorem dX3_copy_27 : decode cX3_copy 27 = .ok (.invokestatic 58, 3) := by decide +kernel
theorem dX3_copy_30 : decode cX3_copy 30 = .ok (.aload_n 1, 1) := by decide +kernel
theorem dX3_copy_31 : decode cX3_copy 31 = .ok (.getfield 18, 3) := by decide +kernel
theorem dX3_copy_34 : decode cX3_copy 34 = .ok (.iconst 0, 1) := by decide +kernel
theorem dX3_copy_35 : decode cX3_copy 35 = .ok (.aload_n 0, 1) := by decide +kernel
theorem dX3_copy_36 : decode cX3_copy 36 = .ok (.getfield 18, 3) := by decide +kernel
theorem dX3_copy_39 : decode cX3_copy 39 = .ok (.iconst 0, 1) := by decide +kernel
theorem dX3_copy_40 : decode cX3_copy 40 = .ok (.bipush 6, 2) := by decide +kernel
theorem dX3_copy_42 : decode cX3_copy 42 = .ok (.invokestatic 58, 3) := by decide +kernel
theorem dX3_copy_45 : decode cX3_copy 45 = .ok (.aload_n 1, 1) := by decide +kernel
theorem dX3_copy_46 : decode cX3_copy 46 = .ok (.getfield 21, 3) := by decide +kernel
theorem dX3_copy_49 : decode cX3_copy 49 = .ok (.iconst 0, 1) := by decide +kernel
theorem dX3_copy_50 : decode cX3_copy 50 = .ok (.aload_n 0, 1) := by decide +kernel
theorem dX3_copy_51 : decode cX3_copy 51 = .ok (.getfield 21, 3) := by decide +kernel
theorem dX3_copy_54 : decode cX3_copy 54 = .ok (.iconst 0, 1) := by decide +kernel
theorem dX3_copy_55 : decode cX3_copy 55 = .ok (.bipush 6, 2) := by decide +kernel
theorem dX3_copy_57 : decode cX3_copy 57 = .ok (.invokestatic 58, 3) := by decide +kernel
theorem dX3_copy_60 : decode cX3_copy 60 = .ok (.aload_n 1, 1) := by decide +kernel
theorem dX3_copy_61 : decode cX3_copy 61 = .ok (.getfield 24, 3) := by decide +kernel
theorem dX3_copy_64 : decode cX3_copy 64 = .ok (.iconst 0, 1) := by decide +kernel
theorem dX3_copy_65 : decode cX3_copy 65 = .ok (.aload_n 0, 1) := by decide +kernel
theorem dX3_copy_66 : decode cX3_copy 66 = .ok (.getfield 24, 3) := by decide +kernel
theorem dX3_copy_69 : decode cX3_copy 69 = .ok (.iconst 0, 1) := by decide +kernel
theorem dX3_copy_70 : decode cX3_copy 70 = .ok (.bipush 6, 2) := by decide +kernel
theorem dX3_copy_72 : decode cX3_copy 72 = .ok (.invokestatic 58, 3) := by decide +kernel
theorem dX3_copy_75 : decode cX3_copy 75 = .ok (.aload_n 0, 1) := by decide +kernel
theorem dX3_copy_76 : decode cX3_copy 76 = .ok (.aload_n 1, 1) := by decide +kernel
theorem dX3_copy_77 : decode cX3_copy 77 = .ok (.getfield 27, 3) := by decide +kernel
theorem dX3_copy_80 : decode cX3_copy 80 = .ok (.putfield 27, 3) := by decide +kernel
theorem dX3_copy_83 : decode cX3_copy 83 = .ok (.aload_n 0, 1) := by decide +kernel
theorem dX3_copy_84 : decode cX3_copy 84 = .ok (.aload_n 1, 1) := by decide +kernel
theorem dX3_copy_85 : decode cX3_copy 85 = .ok (.getfield 31, 3) := by decide +kernel
theorem dX3_copy_88 : decode cX3_copy 88 = .ok (.putfield 31, 3) := by decide +kernel
theorem dX3_copy_91 : decode cX3_copy 91 = .ok (.aload_n 0, 1) := by decide +kernel
theorem dX3_copy_92 : decode cX3_copy 92 = .ok (.aload_n 1, 1) := by decide +kernel
theorem dX3_copy_93 : decode cX3_copy 93 = .ok (.getfield 44, 3) := by decide +kernel
theorem dX3_copy_96 : decode cX3_copy 96 = .ok (.putfield 44, 3) := by decide +kernel
theorem dX3_copy_99 : decode cX3_copy 99 = .ok (.aload_n 0, 1) := by decide +kernel
theorem dX3_copy_100 : decode cX3_copy 100 = .ok (.aload_n 1, 1) := by decide +kernel
theorem dX3_copy_101 : decode cX3_copy 101 = .ok (.getfield 48, 3) := by decide +kernel
theorem dX3_copy_104 : decode cX3_copy 104 = .ok (.putfield 48, 3) := by decide +kernel
theorem dX3_copy_107 : decode cX3_copy 107 = .ok (.aload_n 0, 1) := by decide +kernel
theorem dX3_copy_108 : decode cX3_copy 108 = .ok (.aload_n 1, 1) := by decide +kernel
theorem dX3_copy_109 : decode cX3_copy 109 = .ok (.getfield 52, 3) := by decide +kernel
theorem dX3_copy_112 : decode cX3_copy 112 = .ok (.putfield 52, 3) := by decide +kernel
theorem dX3_copy_115 : decode cX3_copy 115 = .ok (.aload_n 0, 1) := by decide +kernel
theorem dX3_copy_116 : decode cX3_copy 116 = .ok (.aload_n 1, 1) := by decide +kernel
theorem dX3_copy_117 : decode cX3_copy 117 = .ok (.getfield 55, 3) := by decide +kernel
theorem dX3_copy_120 : decode cX3_copy 120 = .ok (.putfield 55, 3) := by decide +kernel
theorem dX3_copy_123 : decode cX3_copy 123 = .ok (.return_, 1) := by decide +kernel
theorem dX3_tuneOf_0 : decode cX3_tuneOf 0 = .ok (.iload_n 1, 1) := by decide +kernel
theorem dX3_tuneOf_1 : decode cX3_tuneOf 1 = .ok (.ifCond .ne 8, 3) := by decide +kernel
theorem dX3_tuneOf_4 : decode cX3_tuneOf 4 = .ok (.aload_n 0, 1) := by decide +kernel
theorem dX3_tuneOf_5 : decode cX3_tuneOf 5 = .ok (.getfield 27, 3) := by decide +kernel
theorem dX3_tuneOf_8 : decode cX3_tuneOf 8 = .ok (.lreturn, 1) := by decide +kernel
theorem dX3_tuneOf_9 : decode cX3_tuneOf 9 = .ok (.iload_n 1, 1) := by decide +kernel
theorem dX3_tuneOf_10 : decode cX3_tuneOf 10 = .ok (.iconst 1, 1) := by decide +kernel
theorem dX3_tuneOf_11 : decode cX3_tuneOf 11 = .ok (.if_icmp .ne 10, 3) := by decide +kernel
theorem dX3_tuneOf_14 : decode cX3_tuneOf 14 = .ok (.aload_n 0, 1) := by decide +kernel
theorem dX3_tuneOf_15 : decode cX3_tuneOf 15 = .ok (.getfield 31, 3) := by decide +kernel
theorem dX3_tuneOf_18 : decode cX3_tuneOf 18 = .ok (.goto 4, 3) := by decide +kernel
theorem dX3_tuneOf_21 : decode cX3_tuneOf 21 = .ok (.lconst 0, 1) := by decide +kernel
theorem dX3_tuneOf_22 : decode cX3_tuneOf 22 = .ok (.lreturn, 1) := by decide +kernel
theorem dX3_setTune_0 : decode cX3_setTune 0 = .ok (.iload_n 1, 1) := by decide +kernel
theorem dX3_setTune_1 : decode cX3_setTune 1 = .ok (.ifCond .ne 11, 3) := by decide +kernel
theorem dX3_setTune_4 : decode cX3_setTune 4 = .ok (.aload_n 0, 1) := by decide +kernel
theorem dX3_setTune_5 : decode cX3_setTune 5 = .ok (.lload_n 2, 1) := by decide +kernel
theorem dX3_setTune_6 : decode cX3_setTune 6 = .ok (.putfield 27, 3) := by decide +kernel
theorem dX3_setTune_9 : decode cX3_setTune 9 = .ok (.goto 8, 3) := by decide +kernel
theorem dX3_setTune_12 : decode cX3_setTune 12 = .ok (.aload_n 0, 1) := by decide +kernel
theorem dX3_setTune_13 : decode cX3_setTune 13 = .ok (.lload_n 2, 1) := by decide +kernel
theorem dX3_setTune_14 : decode cX3_setTune 14 = .ok (.putfield 31, 3) := by decide +kernel
theorem dX3_setTune_17 : decode cX3_setTune 17 = .ok (.return_, 1) := by decide +kernel
theorem dX3_tonic_0 : decode cX3_tonic 0 = .ok (.iload_n 1, 1) := by decide +kernel
theorem dX3_tonic_1 : decode cX3_tonic 1 = .ok (.ifCond .lt 21, 3) := by decide +kernel
theorem dX3_tonic_4 : decode cX3_tonic 4 = .ok (.iload_n 1, 1) := by decide +kernel
theorem dX3_tonic_5 : decode cX3_tonic 5 = .ok (.aload_n 0, 1) := by decide +kernel
theorem dX3_tonic_6 : decode cX3_tonic 6 = .ok (.getfield 9, 3) := by decide +kernel
theorem dX3_tonic_9 : decode cX3_tonic 9 = .ok (.arraylength, 1) := by decide +kernel
theorem dX3_tonic_10 : decode cX3_tonic 10 = .ok (.if_icmp .ge 12, 3) := by decide +kernel
theorem dX3_tonic_13 : decode cX3_tonic 13 = .ok (.aload_n 0, 1) := by decide +kernel
theorem dX3_tonic_14 : decode cX3_tonic 14 = .ok (.getfield 9, 3) := by decide +kernel
theorem dX3_tonic_17 : decode cX3_tonic 17 = .ok (.iload_n 1, 1) := by decide +kernel
theorem dX3_tonic_18 : decode cX3_tonic 18 = .ok (.iaload, 1) := by decide +kernel
theorem dX3_tonic_19 : decode cX3_tonic 19 = .ok (.goto 4, 3) := by decide +kernel
theorem dX3_tonic_22 : decode cX3_tonic 22 = .ok (.iconst 0, 1) := by decide +kernel
theorem dX3_tonic_23 : decode cX3_tonic 23 = .ok (.ireturn, 1) := by decide +kernel
theorem dX3_setTonic_0 : decode cX3_setTonic 0 = .ok (.iload_n 1, 1) := by decide +kernel
theorem dX3_setTonic_1 : decode cX3_setTonic 1 = .ok (.ifCond .lt 19, 3) := by decide +kernel
theorem dX3_setTonic_4 : decode cX3_setTonic 4 = .ok (.iload_n 1, 1) := by decide +kernel
theorem dX3_setTonic_5 : decode cX3_setTonic 5 = .ok (.aload_n 0, 1) := by decide +kernel
theorem dX3_setTonic_6 : decode cX3_setTonic 6 = .ok (.getfield 9, 3) := by decide +kernel
theorem dX3_setTonic_9 : decode cX3_setTonic 9 = .ok (.arraylength, 1) := by decide +kernel
theorem dX3_setTonic_10 : decode cX3_setTonic 10 = .ok (.if_icmp .ge 10, 3) := by decide +kernel
theorem dX3_setTonic_13 : decode cX3_setTonic 13 = .ok (.aload_n 0, 1) := by decide +kernel
theorem dX3_setTonic_14 : decode cX3_setTonic 14 = .ok (.getfield 9, 3) := by decide +kernel
theorem dX3_setTonic_17 : decode cX3_setTonic 17 = .ok (.iload_n 1, 1) := by decide +kernel
theorem dX3_setTonic_18 : decode cX3_setTonic 18 = .ok (.iload_n 2, 1) := by decide +kernel
theorem dX3_setTonic_19 : decode cX3_setTonic 19 = .ok (.iastore, 1) := by decide +kernel
theorem dX3_setTonic_20 : decode cX3_setTonic 20 = .ok (.return_, 1) := by decide +kernel
theorem dX3_walks_0 : decode cX3_walks 0 = .ok (.iload_n 1, 1) := by decide +kernel
theorem dX3_walks_1 : decode cX3_walks 1 = .ok (.ifCond .lt 21, 3) := by decide +kernel
theorem dX3_walks_4 : decode cX3_walks 4 = .ok (.iload_n 1, 1) := by decide +kernel
theorem dX3_walks_5 : decode cX3_walks 5 = .ok (.aload_n 0, 1) := by decide +kernel
theorem dX3_walks_6 : decode cX3_walks 6 = .ok (.getfield 15, 3) := by decide +kernel
theorem dX3_walks_9 : decode cX3_walks 9 = .ok (.arraylength, 1) := by decide +kernel
theorem dX3_walks_10 : decode cX3_walks 10 = .ok (.if_icmp .ge 12, 3) := by decide +kernel
theorem dX3_walks_13 : decode cX3_walks 13 = .ok (.aload_n 0, 1) := by decide +kernel
theorem dX3_walks_14 : decode cX3_walks 14 = .ok (.getfield 15, 3) := by decide +kernel
theorem dX3_walks_17 : decode cX3_walks 17 = .ok (.iload_n 1, 1) := by decide +kernel
theorem dX3_walks_18 : decode cX3_walks 18 = .ok (.iaload, 1) := by decide +kernel
theorem dX3_walks_19 : decode cX3_walks 19 = .ok (.goto 4, 3) := by decide +kernel
theorem dX3_walks_22 : decode cX3_walks 22 = .ok (.iconst 0, 1) := by decide +kernel
theorem dX3_walks_23 : decode cX3_walks 23 = .ok (.ireturn, 1) := by decide +kernel
theorem dX3_addWalk_0 : decode cX3_addWalk 0 = .ok (.iload_n 1, 1) := by decide +kernel
theorem dX3_addWalk_1 : decode cX3_addWalk 1 = .ok (.ifCond .lt 32, 3) := by decide +kernel
theorem dX3_addWalk_4 : decode cX3_addWalk 4 = .ok (.iload_n 1, 1) := by decide +kernel
theorem dX3_addWalk_5 : decode cX3_addWalk 5 = .ok (.aload_n 0, 1) := by decide +kernel
theorem dX3_addWalk_6 : decode cX3_addWalk 6 = .ok (.getfield 15, 3) := by decide +kernel
theorem dX3_addWalk_9 : decode cX3_addWalk 9 = .ok (.arraylength, 1) := by decide +kernel
theorem dX3_addWalk_10 : decode cX3_addWalk 10 = .ok (.if_icmp .ge 23, 3) := by decide +kernel
theorem dX3_addWalk_13 : decode cX3_addWalk 13 = .ok (.aload_n 0, 1) := by decide +kernel
theorem dX3_addWalk_14 : decode cX3_addWalk 14 = .ok (.getfield 15, 3) := by decide +kernel
theorem dX3_addWalk_17 : decode cX3_addWalk 17 = .ok (.iload_n 1, 1) := by decide +kernel
theorem dX3_addWalk_18 : decode cX3_addWalk 18 = .ok (.dup2, 1) := by decide +kernel
theorem dX3_addWalk_19 : decode cX3_addWalk 19 = .ok (.iaload, 1) := by decide +kernel
theorem dX3_addWalk_20 : decode cX3_addWalk 20 = .ok (.iconst 1, 1) := by decide +kernel
theorem dX3_addWalk_21 : decode cX3_addWalk 21 = .ok (.iadd, 1) := by decide +kernel
theorem dX3_addWalk_22 : decode cX3_addWalk 22 = .ok (.iastore, 1) := by decide +kernel
theorem dX3_addWalk_23 : decode cX3_addWalk 23 = .ok (.aload_n 0, 1) := by decide +kernel
theorem dX3_addWalk_24 : decode cX3_addWalk 24 = .ok (.dup, 1) := by decide +kernel
theorem dX3_addWalk_25 : decode cX3_addWalk 25 = .ok (.getfield 52, 3) := by decide +kernel
theorem dX3_addWalk_28 : decode cX3_addWalk 28 = .ok (.iconst 1, 1) := by decide +kernel
theorem dX3_addWalk_29 : decode cX3_addWalk 29 = .ok (.iadd, 1) := by decide +kernel
theorem dX3_addWalk_30 : decode cX3_addWalk 30 = .ok (.putfield 52, 3) := by decide +kernel
theorem dX3_addWalk_33 : decode cX3_addWalk 33 = .ok (.return_, 1) := by decide +kernel
theorem dX3_addSight_0 : decode cX3_addSight 0 = .ok (.aload_n 0, 1) := by decide +kernel
theorem dX3_addSight_1 : decode cX3_addSight 1 = .ok (.getfield 55, 3) := by decide +kernel
theorem dX3_addSight_4 : decode cX3_addSight 4 = .ok (.ifCond .lt 52, 3) := by decide +kernel
theorem dX3_addSight_7 : decode cX3_addSight 7 = .ok (.aload_n 0, 1) := by decide +kernel
theorem dX3_addSight_8 : decode cX3_addSight 8 = .ok (.getfield 55, 3) := by decide +kernel
theorem dX3_addSight_11 : decode cX3_addSight 11 = .ok (.bipush 6, 2) := by decide +kernel
theorem dX3_addSight_13 : decode cX3_addSight 13 = .ok (.if_icmp .ge 43, 3) := by decide +kernel
theorem dX3_addSight_16 : decode cX3_addSight 16 = .ok (.aload_n 0, 1) := by decide +kernel
theorem dX3_addSight_17 : decode cX3_addSight 17 = .ok (.getfield 18, 3) := by decide +kernel
theorem dX3_addSight_20 : decode cX3_addSight 20 = .ok (.aload_n 0, 1) := by decide +kernel
theorem dX3_addSight_21 : decode cX3_addSight 21 = .ok (.getfield 55, 3) := by decide +kernel
theorem dX3_addSight_24 : decode cX3_addSight 24 = .ok (.iload_n 1, 1) := by decide +kernel
theorem dX3_addSight_25 : decode cX3_addSight 25 = .ok (.iastore, 1) := by decide +kernel
theorem dX3_addSight_26 : decode cX3_addSight 26 = .ok (.aload_n 0, 1) := by decide +kernel
theorem dX3_addSight_27 : decode cX3_addSight 27 = .ok (.getfield 21, 3) := by decide +kernel
theorem dX3_addSight_30 : decode cX3_addSight 30 = .ok (.aload_n 0, 1) := by decide +kernel
theorem dX3_addSight_31 : decode cX3_addSight 31 = .ok (.getfield 55, 3) := by decide +kernel
theorem dX3_addSight_34 : decode cX3_addSight 34 = .ok (.iload_n 2, 1) := by decide +kernel
theorem dX3_addSight_35 : decode cX3_addSight 35 = .ok (.iastore, 1) := by decide +kernel
theorem dX3_addSight_36 : decode cX3_addSight 36 = .ok (.aload_n 0, 1) := by decide +kernel
theorem dX3_addSight_37 : decode cX3_addSight 37 = .ok (.getfield 24, 3) := by decide +kernel
theorem dX3_addSight_40 : decode cX3_addSight 40 = .ok (.aload_n 0, 1) := by decide +kernel
theorem dX3_addSight_41 : decode cX3_addSight 41 = .ok (.getfield 55, 3) := by decide +kernel
theorem dX3_addSight_44 : decode cX3_addSight 44 = .ok (.iload_n 3, 1) := by decide +kernel
theorem dX3_addSight_45 : decode cX3_addSight 45 = .ok (.iastore, 1) := by decide +kernel
theorem dX3_addSight_46 : decode cX3_addSight 46 = .ok (.aload_n 0, 1) := by decide +kernel
theorem dX3_addSight_47 : decode cX3_addSight 47 = .ok (.dup, 1) := by decide +kernel
theorem dX3_addSight_48 : decode cX3_addSight 48 = .ok (.getfield 55, 3) := by decide +kernel
theorem dX3_addSight_51 : decode cX3_addSight 51 = .ok (.iconst 1, 1) := by decide +kernel
theorem dX3_addSight_52 : decode cX3_addSight 52 = .ok (.iadd, 1) := by decide +kernel
theorem dX3_addSight_53 : decode cX3_addSight 53 = .ok (.putfield 55, 3) := by decide +kernel
theorem dX3_addSight_56 : decode cX3_addSight 56 = .ok (.return_, 1) := by decide +kernel
theorem dX3_fits_0 : decode cX3_fits 0 = .ok (.iconst 0, 1) := by decide +kernel
theorem dX3_fits_1 : decode cX3_fits 1 = .ok (.istore 4, 2) := by decide +kernel
theorem dX3_fits_3 : decode cX3_fits 3 = .ok (.iload 4, 2) := by decide +kernel
theorem dX3_fits_5 : decode cX3_fits 5 = .ok (.aload_n 0, 1) := by decide +kernel
theorem dX3_fits_6 : decode cX3_fits 6 = .ok (.getfield 55, 3) := by decide +kernel
theorem dX3_fits_9 : decode cX3_fits 9 = .ok (.if_icmp .ge 51, 3) := by decide +kernel
theorem dX3_fits_12 : decode cX3_fits 12 = .ok (.iload 4, 2) := by decide +kernel
theorem dX3_fits_14 : decode cX3_fits 14 = .ok (.bipush 6, 2) := by decide +kernel
theorem dX3_fits_16 : decode cX3_fits 16 = .ok (.if_icmp .ge 44, 3) := by decide +kernel
theorem dX3_fits_19 : decode cX3_fits 19 = .ok (.aload_n 0, 1) := by decide +kernel
theorem dX3_fits_20 : decode cX3_fits 20 = .ok (.getfield 18, 3) := by decide +kernel
theorem dX3_fits_23 : decode cX3_fits 23 = .ok (.iload 4, 2) := by decide +kernel
theorem dX3_fits_25 : decode cX3_fits 25 = .ok (.iaload, 1) := by decide +kernel
theorem dX3_fits_26 : decode cX3_fits 26 = .ok (.iload_n 2, 1) := by decide +kernel
theorem dX3_fits_27 : decode cX3_fits 27 = .ok (.if_icmp .ne 27, 3) := by decide +kernel
theorem dX3_fits_30 : decode cX3_fits 30 = .ok (.aload_n 1, 1) := by decide +kernel
theorem dX3_fits_31 : decode cX3_fits 31 = .ok (.aload_n 0, 1) := by decide +kernel
theorem dX3_fits_32 : decode cX3_fits 32 = .ok (.getfield 21, 3) := by decide +kernel
theorem dX3_fits_35 : decode cX3_fits 35 = .ok (.iload 4, 2) := by decide +kernel
theorem dX3_fits_37 : decode cX3_fits 37 = .ok (.iaload, 1) := by decide +kernel
theorem dX3_fits_38 : decode cX3_fits 38 = .ok (.iload_n 3, 1) := by decide +kernel
theorem dX3_fits_39 : decode cX3_fits 39 = .ok (.invokevirtual 64, 3) := by decide +kernel
theorem dX3_fits_42 : decode cX3_fits 42 = .ok (.aload_n 0, 1) := by decide +kernel
theorem dX3_fits_43 : decode cX3_fits 43 = .ok (.getfield 24, 3) := by decide +kernel
theorem dX3_fits_46 : decode cX3_fits 46 = .ok (.iload 4, 2) := by decide +kernel
theorem dX3_fits_48 : decode cX3_fits 48 = .ok (.iaload, 1) := by decide +kernel
theorem dX3_fits_49 : decode cX3_fits 49 = .ok (.if_icmp .eq 5, 3) := by decide +kernel
theorem dX3_fits_52 : decode cX3_fits 52 = .ok (.iconst 0, 1) := by decide +kernel
theorem dX3_fits_53 : decode cX3_fits 53 = .ok (.ireturn, 1) := by decide +kernel
theorem dX3_fits_54 : decode cX3_fits 54 = .ok (.iinc 4 1, 3) := by decide +kernel
theorem dX3_fits_57 : decode cX3_fits 57 = .ok (.goto (-54), 3) := by decide +kernel
theorem dX3_fits_60 : decode cX3_fits 60 = .ok (.iconst 1, 1) := by decide +kernel
theorem dX3_fits_61 : decode cX3_fits 61 = .ok (.ireturn, 1) := by decide +kernel
theorem dX4_init_0 : decode cX4_init 0 = .ok (.aload_n 0, 1) := by decide +kernel
theorem dX4_init_1 : decode cX4_init 1 = .ok (.invokespecial 5, 3) := by decide +kernel
theorem dX4_init_4 : decode cX4_init 4 = .ok (.aload_n 0, 1) := by decide +kernel
theorem dX4_init_5 : decode cX4_init 5 = .ok (.bipush 44, 2) := by decide +kernel
theorem dX4_init_7 : decode cX4_init 7 = .ok (.newarray .int, 2) := by decide +kernel
theorem dX4_init_9 : decode cX4_init 9 = .ok (.putfield 11, 3) := by decide +kernel
theorem dX4_init_12 : decode cX4_init 12 = .ok (.return_, 1) := by decide +kernel
theorem dX4_add_0 : decode cX4_add 0 = .ok (.aload_n 0, 1) := by decide +kernel
theorem dX4_add_1 : decode cX4_add 1 = .ok (.getfield 15, 3) := by decide +kernel
theorem dX4_add_4 : decode cX4_add 4 = .ok (.ifCond .lt 35, 3) := by decide +kernel
theorem dX4_add_7 : decode cX4_add 7 = .ok (.aload_n 0, 1) := by decide +kernel
theorem dX4_add_8 : decode cX4_add 8 = .ok (.getfield 15, 3) := by decide +kernel
theorem dX4_add_11 : decode cX4_add 11 = .ok (.aload_n 0, 1) := by decide +kernel
theorem dX4_add_12 : decode cX4_add 12 = .ok (.getfield 11, 3) := by decide +kernel
theorem dX4_add_15 : decode cX4_add 15 = .ok (.arraylength, 1) := by decide +kernel
theorem dX4_add_16 : decode cX4_add 16 = .ok (.if_icmp .ge 23, 3) := by decide +kernel
theorem dX4_add_19 : decode cX4_add 19 = .ok (.aload_n 0, 1) := by decide +kernel
theorem dX4_add_20 : decode cX4_add 20 = .ok (.getfield 11, 3) := by decide +kernel
theorem dX4_add_23 : decode cX4_add 23 = .ok (.aload_n 0, 1) := by decide +kernel
theorem dX4_add_24 : decode cX4_add 24 = .ok (.getfield 15, 3) := by decide +kernel
theorem dX4_add_27 : decode cX4_add 27 = .ok (.iload_n 1, 1) := by decide +kernel
theorem dX4_add_28 : decode cX4_add 28 = .ok (.iastore, 1) := by decide +kernel
theorem dX4_add_29 : decode cX4_add 29 = .ok (.aload_n 0, 1) := by decide +kernel
theorem dX4_add_30 : decode cX4_add 30 = .ok (.dup, 1) := by decide +kernel
theorem dX4_add_31 : decode cX4_add 31 = .ok (.getfield 15, 3) := by decide +kernel
theorem dX4_add_34 : decode cX4_add 34 = .ok (.iconst 1, 1) := by decide +kernel
theorem dX4_add_35 : decode cX4_add 35 = .ok (.iadd, 1) := by decide +kernel
theorem dX4_add_36 : decode cX4_add 36 = .ok (.putfield 15, 3) := by decide +kernel
theorem dX4_add_39 : decode cX4_add 39 = .ok (.return_, 1) := by decide +kernel
theorem dX4_at_0 : decode cX4_at 0 = .ok (.iload_n 1, 1) := by decide +kernel
theorem dX4_at_1 : decode cX4_at 1 = .ok (.ifCond .lt 29, 3) := by decide +kernel
theorem dX4_at_4 : decode cX4_at 4 = .ok (.iload_n 1, 1) := by decide +kernel
theorem dX4_at_5 : decode cX4_at 5 = .ok (.aload_n 0, 1) := by decide +kernel
theorem dX4_at_6 : decode cX4_at 6 = .ok (.getfield 15, 3) := by decide +kernel
theorem dX4_at_9 : decode cX4_at 9 = .ok (.if_icmp .ge 21, 3) := by decide +kernel
theorem dX4_at_12 : decode cX4_at 12 = .ok (.iload_n 1, 1) := by decide +kernel
theorem dX4_at_13 : decode cX4_at 13 = .ok (.aload_n 0, 1) := by decide +kernel
theorem dX4_at_14 : decode cX4_at 14 = .ok (.getfield 11, 3) := by decide +kernel
theorem dX4_at_17 : decode cX4_at 17 = .ok (.arraylength, 1) := by decide +kernel
theorem dX4_at_18 : decode cX4_at 18 = .ok (.if_icmp .ge 12, 3) := by decide +kernel
theorem dX4_at_21 : decode cX4_at 21 = .ok (.aload_n 0, 1) := by decide +kernel
theorem dX4_at_22 : decode cX4_at 22 = .ok (.getfield 11, 3) := by decide +kernel
theorem dX4_at_25 : decode cX4_at 25 = .ok (.iload_n 1, 1) := by decide +kernel
theorem dX4_at_26 : decode cX4_at 26 = .ok (.iaload, 1) := by decide +kernel
theorem dX4_at_27 : decode cX4_at 27 = .ok (.goto 4, 3) := by decide +kernel
theorem dX4_at_30 : decode cX4_at 30 = .ok (.iconst 0, 1) := by decide +kernel
theorem dX4_at_31 : decode cX4_at 31 = .ok (.ireturn, 1) := by decide +kernel
theorem dX4_noteAt_0 : decode cX4_noteAt 0 = .ok (.aload_n 0, 1) := by decide +kernel
theorem dX4_noteAt_1 : decode cX4_noteAt 1 = .ok (.iload_n 1, 1) := by decide +kernel
theorem dX4_noteAt_2 : decode cX4_noteAt 2 = .ok (.invokevirtual 19, 3) := by decide +kernel
theorem dX4_noteAt_5 : decode cX4_noteAt 5 = .ok (.bipush 97, 2) := by decide +kernel
theorem dX4_noteAt_7 : decode cX4_noteAt 7 = .ok (.isub, 1) := by decide +kernel
theorem dX4_noteAt_8 : decode cX4_noteAt 8 = .ok (.istore_n 2, 1) := by decide +kernel
theorem dX4_noteAt_9 : decode cX4_noteAt 9 = .ok (.iload_n 2, 1) := by decide +kernel
theorem dX4_noteAt_10 : decode cX4_noteAt 10 = .ok (.invokestatic 23, 3) := by decide +kernel
theorem dX4_noteAt_13 : decode cX4_noteAt 13 = .ok (.ifCond .eq 7, 3) := by decide +kernel
theorem dX4_noteAt_16 : decode cX4_noteAt 16 = .ok (.iload_n 2, 1) := by decide +kernel
theorem dX4_noteAt_17 : decode cX4_noteAt 17 = .ok (.goto 4, 3) := by decide +kernel
theorem dX4_noteAt_20 : decode cX4_noteAt 20 = .ok (.iconst (-1), 1) := by decide +kernel
theorem dX4_noteAt_21 : decode cX4_noteAt 21 = .ok (.ireturn, 1) := by decide +kernel
theorem dX4_digitAt_0 : decode cX4_digitAt 0 = .ok (.aload_n 0, 1) := by decide +kernel
theorem dX4_digitAt_1 : decode cX4_digitAt 1 = .ok (.iload_n 1, 1) := by decide +kernel
theorem dX4_digitAt_2 : decode cX4_digitAt 2 = .ok (.invokevirtual 19, 3) := by decide +kernel
theorem dX4_digitAt_5 : decode cX4_digitAt 5 = .ok (.bipush 48, 2) := by decide +kernel
theorem dX4_digitAt_7 : decode cX4_digitAt 7 = .ok (.isub, 1) := by decide +kernel
theorem dX4_digitAt_8 : decode cX4_digitAt 8 = .ok (.ireturn, 1) := by decide +kernel
theorem dX4_kindOf_0 : decode cX4_kindOf 0 = .ok (.ldc 27, 2) := by decide +kernel
theorem dX4_kindOf_2 : decode cX4_kindOf 2 = .ok (.aload_n 0, 1) := by decide +kernel
theorem dX4_kindOf_3 : decode cX4_kindOf 3 = .ok (.iconst 2, 1) := by decide +kernel
theorem dX4_kindOf_4 : decode cX4_kindOf 4 = .ok (.iload_n 1, 1) := by decide +kernel
theorem dX4_kindOf_5 : decode cX4_kindOf 5 = .ok (.iconst 5, 1) := by decide +kernel
theorem dX4_kindOf_6 : decode cX4_kindOf 6 = .ok (.imul, 1) := by decide +kernel
theorem dX4_kindOf_7 : decode cX4_kindOf 7 = .ok (.iadd, 1) := by decide +kernel
theorem dX4_kindOf_8 : decode cX4_kindOf 8 = .ok (.invokevirtual 19, 3) := by decide +kernel
theorem dX4_kindOf_11 : decode cX4_kindOf 11 = .ok (.i2c, 1) := by decide +kernel
theorem dX4_kindOf_12 : decode cX4_kindOf 12 = .ok (.invokevirtual 29, 3) := by decide +kernel
theorem dX4_kindOf_15 : decode cX4_kindOf 15 = .ok (.ireturn, 1) := by decide +kernel
theorem dX4_oneEndOf_0 : decode cX4_oneEndOf 0 = .ok (.aload_n 0, 1) := by decide +kernel
theorem dX4_oneEndOf_1 : decode cX4_oneEndOf 1 = .ok (.iconst 2, 1) := by decide +kernel
theorem dX4_oneEndOf_2 : decode cX4_oneEndOf 2 = .ok (.iload_n 1, 1) := by decide +kernel
theorem dX4_oneEndOf_3 : decode cX4_oneEndOf 3 = .ok (.iconst 5, 1) := by decide +kernel
theorem dX4_oneEndOf_4 : decode cX4_oneEndOf 4 = .ok (.imul, 1) := by decide +kernel
theorem dX4_oneEndOf_5 : decode cX4_oneEndOf 5 = .ok (.iadd, 1) := by decide +kernel
theorem dX4_oneEndOf_6 : decode cX4_oneEndOf 6 = .ok (.iconst 1, 1) := by decide +kernel
theorem dX4_oneEndOf_7 : decode cX4_oneEndOf 7 = .ok (.iadd, 1) := by decide +kernel
theorem dX4_oneEndOf_8 : decode cX4_oneEndOf 8 = .ok (.invokevirtual 34, 3) := by decide +kernel
theorem dX4_oneEndOf_11 : decode cX4_oneEndOf 11 = .ok (.ireturn, 1) := by decide +kernel
theorem dX4_otherEndOf_0 : decode cX4_otherEndOf 0 = .ok (.aload_n 0, 1) := by decide +kernel
theorem dX4_otherEndOf_1 : decode cX4_otherEndOf 1 = .ok (.iconst 2, 1) := by decide +kernel
theorem dX4_otherEndOf_2 : decode cX4_otherEndOf 2 = .ok (.iload_n 1, 1) := by decide +kernel
theorem dX4_otherEndOf_3 : decode cX4_otherEndOf 3 = .ok (.iconst 5, 1) := by decide +kernel
theorem dX4_otherEndOf_4 : decode cX4_otherEndOf 4 = .ok (.imul, 1) := by decide +kernel
theorem dX4_otherEndOf_5 : decode cX4_otherEndOf 5 = .ok (.iadd, 1) := by decide +kernel
theorem dX4_otherEndOf_6 : decode cX4_otherEndOf 6 = .ok (.iconst 2, 1) := by decide +kernel
theorem dX4_otherEndOf_7 : decode cX4_otherEndOf 7 = .ok (.iadd, 1) := by decide +kernel
theorem dX4_otherEndOf_8 : decode cX4_otherEndOf 8 = .ok (.invokevirtual 34, 3) := by decide +kernel
theorem dX4_otherEndOf_11 : decode cX4_otherEndOf 11 = .ok (.ireturn, 1) := by decide +kernel
theorem dX4_tonicOf_0 : decode cX4_tonicOf 0 = .ok (.aload_n 0, 1) := by decide +kernel
theorem dX4_tonicOf_1 : decode cX4_tonicOf 1 = .ok (.iconst 2, 1) := by decide +kernel
theorem dX4_tonicOf_2 : decode cX4_tonicOf 2 = .ok (.iload_n 1, 1) := by decide +kernel
theorem dX4_tonicOf_3 : decode cX4_tonicOf 3 = .ok (.iconst 5, 1) := by decide +kernel
theorem dX4_tonicOf_4 : decode cX4_tonicOf 4 = .ok (.imul, 1) := by decide +kernel
theorem dX4_tonicOf_5 : decode cX4_tonicOf 5 = .ok (.iadd, 1) := by decide +kernel
theorem dX4_tonicOf_6 : decode cX4_tonicOf 6 = .ok (.iconst 3, 1) := by decide +kernel
theorem dX4_tonicOf_7 : decode cX4_tonicOf 7 = .ok (.iadd, 1) := by decide +kernel
theorem dX4_tonicOf_8 : decode cX4_tonicOf 8 = .ok (.invokevirtual 37, 3) := by decide +kernel
theorem dX4_tonicOf_11 : decode cX4_tonicOf 11 = .ok (.ireturn, 1) := by decide +kernel
theorem dX4_asTune_0 : decode cX4_asTune 0 = .ok (.aload_n 0, 1) := by decide +kernel
theorem dX4_asTune_1 : decode cX4_asTune 1 = .ok (.getfield 15, 3) := by decide +kernel
theorem dX4_asTune_4 : decode cX4_asTune 4 = .ok (.iconst 1, 1) := by decide +kernel
theorem dX4_asTune_5 : decode cX4_asTune 5 = .ok (.if_icmp .lt 12, 3) := by decide +kernel
theorem dX4_asTune_8 : decode cX4_asTune 8 = .ok (.aload_n 0, 1) := by decide +kernel
theorem dX4_asTune_9 : decode cX4_asTune 9 = .ok (.getfield 15, 3) := by decide +kernel
theorem dX4_asTune_12 : decode cX4_asTune 12 = .ok (.bipush 8, 2) := by decide +kernel
theorem dX4_asTune_14 : decode cX4_asTune 14 = .ok (.if_icmp .le 5, 3) := by decide +kernel
theorem dX4_asTune_17 : decode cX4_asTune 17 = .ok (.lconst 0, 1) := by decide +kernel
theorem dX4_asTune_18 : decode cX4_asTune 18 = .ok (.lreturn, 1) := by decide +kernel
theorem dX4_asTune_19 : decode cX4_asTune 19 = .ok (.lconst 0, 1) := by decide +kernel
theorem dX4_asTune_20 : decode cX4_asTune 20 = .ok (.lstore_n 1, 1) := by decide +kernel
theorem dX4_asTune_21 : decode cX4_asTune 21 = .ok (.iconst 0, 1) := by decide +kernel
theorem dX4_asTune_22 : decode cX4_asTune 22 = .ok (.istore_n 3, 1) := by decide +kernel
theorem dX4_asTune_23 : decode cX4_asTune 23 = .ok (.iload_n 3, 1) := by decide +kernel
theorem dX4_asTune_24 : decode cX4_asTune 24 = .ok (.aload_n 0, 1) := by decide +kernel
theorem dX4_asTune_25 : decode cX4_asTune 25 = .ok (.getfield 15, 3) := by decide +kernel
theorem dX4_asTune_28 : decode cX4_asTune 28 = .ok (.if_icmp .ge 32, 3) := by decide +kernel
theorem dX4_asTune_31 : decode cX4_asTune 31 = .ok (.aload_n 0, 1) := by decide +kernel
theorem dX4_asTune_32 : decode cX4_asTune 32 = .ok (.iload_n 3, 1) := by decide +kernel
theorem dX4_asTune_33 : decode cX4_asTune 33 = .ok (.invokevirtual 37, 3) := by decide +kernel
theorem dX4_asTune_36 : decode cX4_asTune 36 = .ok (.istore 4, 2) := by decide +kernel
theorem dX4_asTune_38 : decode cX4_asTune 38 = .ok (.iload 4, 2) := by decide +kernel
theorem dX4_asTune_40 : decode cX4_asTune 40 = .ok (.iconst (-1), 1) := by decide +kernel
theorem dX4_asTune_41 : decode cX4_asTune 41 = .ok (.if_icmp .ne 5, 3) := by decide +kernel
theorem dX4_asTune_44 : decode cX4_asTune 44 = .ok (.lconst 0, 1) := by decide +kernel
theorem dX4_asTune_45 : decode cX4_asTune 45 = .ok (.lreturn, 1) := by decide +kernel
theorem dX4_asTune_46 : decode cX4_asTune 46 = .ok (.lload_n 1, 1) := by decide +kernel
theorem dX4_asTune_47 : decode cX4_asTune 47 = .ok (.iload_n 3, 1) := by decide +kernel
theorem dX4_asTune_48 : decode cX4_asTune 48 = .ok (.iload 4, 2) := by decide +kernel
theorem dX4_asTune_50 : decode cX4_asTune 50 = .ok (.invokestatic 40, 3) := by decide +kernel
theorem dX4_asTune_53 : decode cX4_asTune 53 = .ok (.lstore_n 1, 1) := by decide +kernel
theorem dX4_asTune_54 : decode cX4_asTune 54 = .ok (.iinc 3 1, 3) := by decide +kernel
theorem dX4_asTune_57 : decode cX4_asTune 57 = .ok (.goto (-34), 3) := by decide +kernel
theorem dX4_asTune_60 : decode cX4_asTune 60 = .ok (.lload_n 1, 1) := by decide +kernel
theorem dX4_asTune_61 : decode cX4_asTune 61 = .ok (.lreturn, 1) := by decide +kernel
theorem dX4_isCity_0 : decode cX4_isCity 0 = .ok (.aload_n 0, 1) := by decide +kernel
theorem dX4_isCity_1 : decode cX4_isCity 1 = .ok (.getfield 15, 3) := by decide +kernel
theorem dX4_isCity_4 : decode cX4_isCity 4 = .ok (.iconst 1, 1) := by decide +kernel
theorem dX4_isCity_5 : decode cX4_isCity 5 = .ok (.iadd, 1) := by decide +kernel
theorem dX4_isCity_6 : decode cX4_isCity 6 = .ok (.iconst 2, 1) := by decide +kernel
theorem dX4_isCity_7 : decode cX4_isCity 7 = .ok (.isub, 1) := by decide +kernel
theorem dX4_isCity_8 : decode cX4_isCity 8 = .ok (.iconst 5, 1) := by decide +kernel
theorem dX4_isCity_9 : decode cX4_isCity 9 = .ok (.irem, 1) := by decide +kernel
theorem dX4_isCity_10 : decode cX4_isCity 10 = .ok (.ifCond .ne 7, 3) := by decide +kernel
theorem dX4_isCity_13 : decode cX4_isCity 13 = .ok (.iconst 1, 1) := by decide +kernel
theorem dX4_isCity_14 : decode cX4_isCity 14 = .ok (.goto 4, 3) := by decide +kernel
theorem dX4_isCity_17 : decode cX4_isCity 17 = .ok (.iconst 0, 1) := by decide +kernel
theorem dX4_isCity_18 : decode cX4_isCity 18 = .ok (.istore_n 1, 1) := by decide +kernel
theorem dX4_isCity_19 : decode cX4_isCity 19 = .ok (.aload_n 0, 1) := by decide +kernel
theorem dX4_isCity_20 : decode cX4_isCity 20 = .ok (.getfield 15, 3) := by decide +kernel
theorem dX4_isCity_23 : decode cX4_isCity 23 = .ok (.bipush 11, 2) := by decide +kernel
theorem dX4_isCity_25 : decode cX4_isCity 25 = .ok (.if_icmp .lt 22, 3) := by decide +kernel
theorem dX4_isCity_28 : decode cX4_isCity 28 = .ok (.iload_n 1, 1) := by decide +kernel
theorem dX4_isCity_29 : decode cX4_isCity 29 = .ok (.ifCond .eq 18, 3) := by decide +kernel
theorem dX4_isCity_32 : decode cX4_isCity 32 = .ok (.aload_n 0, 1) := by decide +kernel
theorem dX4_isCity_33 : decode cX4_isCity 33 = .ok (.invokevirtual 46, 3) := by decide +kernel
theorem dX4_isCity_36 : decode cX4_isCity 36 = .ok (.aload_n 0, 1) := by decide +kernel
theorem dX4_isCity_37 : decode cX4_isCity 37 = .ok (.getfield 15, 3) := by decide +kernel
theorem dX4_isCity_40 : decode cX4_isCity 40 = .ok (.if_icmp .ne 7, 3) := by decide +kernel
theorem dX4_isCity_43 : decode cX4_isCity 43 = .ok (.iconst 1, 1) := by decide +kernel
theorem dX4_isCity_44 : decode cX4_isCity 44 = .ok (.goto 4, 3) := by decide +kernel
theorem dX4_isCity_47 : decode cX4_isCity 47 = .ok (.iconst 0, 1) := by decide +kernel
theorem dX4_isCity_48 : decode cX4_isCity 48 = .ok (.ireturn, 1) := by decide +kernel
theorem dX4_streets_0 : decode cX4_streets 0 = .ok (.aload_n 0, 1) := by decide +kernel
theorem dX4_streets_1 : decode cX4_streets 1 = .ok (.getfield 15, 3) := by decide +kernel
theorem dX4_streets_4 : decode cX4_streets 4 = .ok (.iconst 1, 1) := by decide +kernel
theorem dX4_streets_5 : decode cX4_streets 5 = .ok (.iadd, 1) := by decide +kernel
theorem dX4_streets_6 : decode cX4_streets 6 = .ok (.iconst 2, 1) := by decide +kernel
theorem dX4_streets_7 : decode cX4_streets 7 = .ok (.isub, 1) := by decide +kernel
theorem dX4_streets_8 : decode cX4_streets 8 = .ok (.iconst 5, 1) := by decide +kernel
theorem dX4_streets_9 : decode cX4_streets 9 = .ok (.idiv, 1) := by decide +kernel
theorem dX4_streets_10 : decode cX4_streets 10 = .ok (.ireturn, 1) := by decide +kernel
theorem dX4_firstFault_0 : decode cX4_firstFault 0 = .ok (.iconst 0, 1) := by decide +kernel
theorem dX4_firstFault_1 : decode cX4_firstFault 1 = .ok (.istore_n 1, 1) := by decide +kernel
theorem dX4_firstFault_2 : decode cX4_firstFault 2 = .ok (.iload_n 1, 1) := by decide +kernel
theorem dX4_firstFault_3 : decode cX4_firstFault 3 = .ok (.aload_n 0, 1) := by decide +kernel
theorem dX4_firstFault_4 : decode cX4_firstFault 4 = .ok (.getfield 15, 3) := by decide +kernel
theorem dX4_firstFault_7 : decode cX4_firstFault 7 = .ok (.if_icmp .ge 19, 3) := by decide +kernel
theorem dX4_firstFault_10 : decode cX4_firstFault 10 = .ok (.aload_n 0, 1) := by decide +kernel
theorem dX4_firstFault_11 : decode cX4_firstFault 11 = .ok (.iload_n 1, 1) := by decide +kernel
theorem dX4_firstFault_12 : decode cX4_firstFault 12 = .ok (.invokevirtual 50, 3) := by decide +kernel
theorem dX4_firstFault_15 : decode cX4_firstFault 15 = .ok (.ifCond .ne 5, 3) := by decide +kernel
theorem dX4_firstFault_18 : decode cX4_firstFault 18 = .ok (.iload_n 1, 1) := by decide +kernel
theorem dX4_firstFault_19 : decode cX4_firstFault 19 = .ok (.ireturn, 1) := by decide +kernel
theorem dX4_firstFault_20 : decode cX4_firstFault 20 = .ok (.iinc 1 1, 3) := by decide +kernel
theorem dX4_firstFault_23 : decode cX4_firstFault 23 = .ok (.goto (-21), 3) := by decide +kernel
theorem dX4_firstFault_26 : decode cX4_firstFault 26 = .ok (.aload_n 0, 1) := by decide +kernel
theorem dX4_firstFault_27 : decode cX4_firstFault 27 = .ok (.getfield 15, 3) := by decide +kernel
theorem dX4_firstFault_30 : decode cX4_firstFault 30 = .ok (.ireturn, 1) := by decide +kernel
theorem dX4_belongs_0 : decode cX4_belongs 0 = .ok (.iload_n 1, 1) := by decide +kernel
theorem dX4_belongs_1 : decode cX4_belongs 1 = .ok (.ifCond .ne 27, 3) := by decide +kernel
theorem dX4_belongs_4 : decode cX4_belongs 4 = .ok (.aload_n 0, 1) := by decide +kernel
theorem dX4_belongs_5 : decode cX4_belongs 5 = .ok (.iconst 0, 1) := by decide +kernel
theorem dX4_belongs_6 : decode cX4_belongs 6 = .ok (.invokevirtual 34, 3) := by decide +kernel
theorem dX4_belongs_9 : decode cX4_belongs 9 = .ok (.iconst 2, 1) := by decide +kernel
theorem dX4_belongs_10 : decode cX4_belongs 10 = .ok (.if_icmp .lt 16, 3) := by decide +kernel
theorem dX4_belongs_13 : decode cX4_belongs 13 = .ok (.aload_n 0, 1) := by decide +kernel
theorem dX4_belongs_14 : decode cX4_belongs 14 = .ok (.iconst 0, 1) := by decide +kernel
theorem dX4_belongs_15 : decode cX4_belongs 15 = .ok (.invokevirtual 34, 3) := by decide +kernel
theorem dX4_belongs_18 : decode cX4_belongs 18 = .ok (.iconst 5, 1) := by decide +kernel
theorem dX4_belongs_19 : decode cX4_belongs 19 = .ok (.if_icmp .gt 7, 3) := by decide +kernel
theorem dX4_belongs_22 : decode cX4_belongs 22 = .ok (.iconst 1, 1) := by decide +kernel
theorem dX4_belongs_23 : decode cX4_belongs 23 = .ok (.goto 4, 3) := by decide +kernel
theorem dX4_belongs_26 : decode cX4_belongs 26 = .ok (.iconst 0, 1) := by decide +kernel
theorem dX4_belongs_27 : decode cX4_belongs 27 = .ok (.ireturn, 1) := by decide +kernel
theorem dX4_belongs_28 : decode cX4_belongs 28 = .ok (.iload_n 1, 1) := by decide +kernel
theorem dX4_belongs_29 : decode cX4_belongs 29 = .ok (.iconst 1, 1) := by decide +kernel
theorem dX4_belongs_30 : decode cX4_belongs 30 = .ok (.if_icmp .ne 19, 3) := by decide +kernel
theorem dX4_belongs_33 : decode cX4_belongs 33 = .ok (.aload_n 0, 1) := by decide +kernel
theorem dX4_belongs_34 : decode cX4_belongs 34 = .ok (.iconst 1, 1) := by decide +kernel
theorem dX4_belongs_35 : decode cX4_belongs 35 = .ok (.invokevirtual 19, 3) := by decide +kernel
theorem dX4_belongs_38 : decode cX4_belongs 38 = .ok (.bipush 59, 2) := by decide +kernel
theorem dX4_belongs_40 : decode cX4_belongs 40 = .ok (.if_icmp .ne 7, 3) := by decide +kernel
theorem dX4_belongs_43 : decode cX4_belongs 43 = .ok (.iconst 1, 1) := by decide +kernel
theorem dX4_belongs_44 : decode cX4_belongs 44 = .ok (.goto 4, 3) := by decide +kernel
theorem dX4_belongs_47 : decode cX4_belongs 47 = .ok (.iconst 0, 1) := by decide +kernel
theorem dX4_belongs_48 : decode cX4_belongs 48 = .ok (.ireturn, 1) := by decide +kernel
theorem dX4_belongs_49 : decode cX4_belongs 49 = .ok (.iload_n 1, 1) := by decide +kernel
theorem dX4_belongs_50 : decode cX4_belongs 50 = .ok (.bipush 41, 2) := by decide +kernel
theorem dX4_belongs_52 : decode cX4_belongs 52 = .ok (.if_icmp .lt 5, 3) := by decide +kernel
theorem dX4_belongs_55 : decode cX4_belongs 55 = .ok (.iconst 0, 1) := by decide +kernel
theorem dX4_belongs_56 : decode cX4_belongs 56 = .ok (.ireturn, 1) := by decide +kernel
theorem dX4_belongs_57 : decode cX4_belongs 57 = .ok (.iload_n 1, 1) := by decide +kernel
theorem dX4_belongs_58 : decode cX4_belongs 58 = .ok (.iconst 2, 1) := by decide +kernel
theorem dX4_belongs_59 : decode cX4_belongs 59 = .ok (.isub, 1) := by decide +kernel
theorem dX4_belongs_60 : decode cX4_belongs 60 = .ok (.iconst 5, 1) := by decide +kernel
theorem dX4_belongs_61 : decode cX4_belongs 61 = .ok (.irem, 1) := by decide +kernel
theorem dX4_belongs_62 : decode cX4_belongs 62 = .ok (.tableswitch 108 0 3 #[30, 50, 60, 93], 30) := by decide +kernel
theorem dX4_belongs_92 : decode cX4_belongs 92 = .ok (.ldc 27, 2) := by decide +kernel
theorem dX4_belongs_94 : decode cX4_belongs 94 = .ok (.aload_n 0, 1) := by decide +kernel
theorem dX4_belongs_95 : decode cX4_belongs 95 = .ok (.iload_n 1, 1) := by decide +kernel
theorem dX4_belongs_96 : decode cX4_belongs 96 = .ok (.invokevirtual 19, 3) := by decide +kernel
theorem dX4_belongs_99 : decode cX4_belongs 99 = .ok (.i2c, 1) := by decide +kernel
theorem dX4_belongs_100 : decode cX4_belongs 100 = .ok (.invokevirtual 29, 3) := by decide +kernel
theorem dX4_belongs_103 : decode cX4_belongs 103 = .ok (.ifCond .lt 7, 3) := by decide +kernel
theorem dX4_belongs_106 : decode cX4_belongs 106 = .ok (.iconst 1, 1) := by decide +kernel
theorem dX4_belongs_107 : decode cX4_belongs 107 = .ok (.goto 4, 3) := by decide +kernel
theorem dX4_belongs_110 : decode cX4_belongs 110 = .ok (.iconst 0, 1) := by decide +kernel
theorem dX4_belongs_111 : decode cX4_belongs 111 = .ok (.ireturn, 1) := by decide +kernel
theorem dX4_belongs_112 : decode cX4_belongs 112 = .ok (.aload_n 0, 1) := by decide +kernel
theorem dX4_belongs_113 : decode cX4_belongs 113 = .ok (.aload_n 0, 1) := by decide +kernel
theorem dX4_belongs_114 : decode cX4_belongs 114 = .ok (.iload_n 1, 1) := by decide +kernel
theorem dX4_belongs_115 : decode cX4_belongs 115 = .ok (.invokevirtual 34, 3) := by decide +kernel
theorem dX4_belongs_118 : decode cX4_belongs 118 = .ok (.invokevirtual 53, 3) := by decide +kernel
theorem dX4_belongs_121 : decode cX4_belongs 121 = .ok (.ireturn, 1) := by decide +kernel
theorem dX4_belongs_122 : decode cX4_belongs 122 = .ok (.aload_n 0, 1) := by decide +kernel
theorem dX4_belongs_123 : decode cX4_belongs 123 = .ok (.aload_n 0, 1) := by decide +kernel
theorem dX4_belongs_124 : decode cX4_belongs 124 = .ok (.iload_n 1, 1) := by decide +kernel
theorem dX4_belongs_125 : decode cX4_belongs 125 = .ok (.invokevirtual 34, 3) := by decide +kernel
theorem dX4_belongs_128 : decode cX4_belongs 128 = .ok (.invokevirtual 53, 3) := by decide +kernel
theorem dX4_belongs_131 : decode cX4_belongs 131 = .ok (.ifCond .eq 22, 3) := by decide +kernel
theorem dX4_belongs_134 : decode cX4_belongs 134 = .ok (.aload_n 0, 1) := by decide +kernel
theorem dX4_belongs_135 : decode cX4_belongs 135 = .ok (.iload_n 1, 1) := by decide +kernel
theorem dX4_belongs_136 : decode cX4_belongs 136 = .ok (.invokevirtual 34, 3) := by decide +kernel
theorem dX4_belongs_139 : decode cX4_belongs 139 = .ok (.aload_n 0, 1) := by decide +kernel
theorem dX4_belongs_140 : decode cX4_belongs 140 = .ok (.iload_n 1, 1) := by decide +kernel
theorem dX4_belongs_141 : decode cX4_belongs 141 = .ok (.iconst 1, 1) := by decide +kernel
theorem dX4_belongs_142 : decode cX4_belongs 142 = .ok (.isub, 1) := by decide +kernel
theorem dX4_belongs_143 : decode cX4_belongs 143 = .ok (.invokevirtual 34, 3) := by decide +kernel
theorem dX4_belongs_146 : decode cX4_belongs 146 = .ok (.if_icmp .eq 7, 3) := by decide +kernel
theorem dX4_belongs_149 : decode cX4_belongs 149 = .ok (.iconst 1, 1) := by decide +kernel
theorem dX4_belongs_150 : decode cX4_belongs 150 = .ok (.goto 4, 3) := by decide +kernel
theorem dX4_belongs_153 : decode cX4_belongs 153 = .ok (.iconst 0, 1) := by decide +kernel
theorem dX4_belongs_154 : decode cX4_belongs 154 = .ok (.ireturn, 1) := by decide +kernel
theorem dX4_belongs_155 : decode cX4_belongs 155 = .ok (.aload_n 0, 1) := by decide +kernel
theorem dX4_belongs_156 : decode cX4_belongs 156 = .ok (.iload_n 1, 1) := by decide +kernel
theorem dX4_belongs_157 : decode cX4_belongs 157 = .ok (.invokevirtual 37, 3) := by decide +kernel
theorem dX4_belongs_160 : decode cX4_belongs 160 = .ok (.iconst (-1), 1) := by decide +kernel
theorem dX4_belongs_161 : decode cX4_belongs 161 = .ok (.if_icmp .eq 7, 3) := by decide +kernel
theorem dX4_belongs_164 : decode cX4_belongs 164 = .ok (.iconst 1, 1) := by decide +kernel
theorem dX4_belongs_165 : decode cX4_belongs 165 = .ok (.goto 4, 3) := by decide +kernel
theorem dX4_belongs_168 : decode cX4_belongs 168 = .ok (.iconst 0, 1) := by decide +kernel
theorem dX4_belongs_169 : decode cX4_belongs 169 = .ok (.ireturn, 1) := by decide +kernel
theorem dX4_belongs_170 : decode cX4_belongs 170 = .ok (.aload_n 0, 1) := by decide +kernel
theorem dX4_belongs_171 : decode cX4_belongs 171 = .ok (.iload_n 1, 1) := by decide +kernel
theorem dX4_belongs_172 : decode cX4_belongs 172 = .ok (.invokevirtual 19, 3) := by decide +kernel
theorem dX4_belongs_175 : decode cX4_belongs 175 = .ok (.bipush 44, 2) := by decide +kernel
theorem dX4_belongs_177 : decode cX4_belongs 177 = .ok (.if_icmp .ne 7, 3) := by decide +kernel
theorem dX4_belongs_180 : decode cX4_belongs 180 = .ok (.iconst 1, 1) := by decide +kernel
theorem dX4_belongs_181 : decode cX4_belongs 181 = .ok (.goto 4, 3) := by decide +kernel
theorem dX4_belongs_184 : decode cX4_belongs 184 = .ok (.iconst 0, 1) := by decide +kernel
theorem dX4_belongs_185 : decode cX4_belongs 185 = .ok (.ireturn, 1) := by decide +kernel
theorem dX4_isCorner_0 : decode cX4_isCorner 0 = .ok (.iload_n 1, 1) := by decide +kernel
theorem dX4_isCorner_1 : decode cX4_isCorner 1 = .ok (.ifCond .lt 16, 3) := by decide +kernel
theorem dX4_isCorner_4 : decode cX4_isCorner 4 = .ok (.iload_n 1, 1) := by decide +kernel
theorem dX4_isCorner_5 : decode cX4_isCorner 5 = .ok (.aload_n 0, 1) := by decide +kernel
theorem dX4_isCorner_6 : decode cX4_isCorner 6 = .ok (.iconst 0, 1) := by decide +kernel
theorem dX4_isCorner_7 : decode cX4_isCorner 7 = .ok (.invokevirtual 34, 3) := by decide +kernel
theorem dX4_isCorner_10 : decode cX4_isCorner 10 = .ok (.if_icmp .ge 7, 3) := by decide +kernel
theorem dX4_isCorner_13 : decode cX4_isCorner 13 = .ok (.iconst 1, 1) := by decide +kernel
theorem dX4_isCorner_14 : decode cX4_isCorner 14 = .ok (.goto 4, 3) := by decide +kernel
theorem dX4_isCorner_17 : decode cX4_isCorner 17 = .ok (.iconst 0, 1) := by decide +kernel
theorem dX4_isCorner_18 : decode cX4_isCorner 18 = .ok (.ireturn, 1) := by decide +kernel
theorem dX5_init_0 : decode cX5_init 0 = .ok (.aload_n 0, 1) := by decide +kernel
theorem dX5_init_1 : decode cX5_init 1 = .ok (.iload_n 1, 1) := by decide +kernel
theorem dX5_init_2 : decode cX5_init 2 = .ok (.iload_n 2, 1) := by decide +kernel
theorem dX5_init_3 : decode cX5_init 3 = .ok (.invokespecial 3, 3) := by decide +kernel
theorem dX5_init_6 : decode cX5_init 6 = .ok (.return_, 1) := by decide +kernel
theorem dX5_kind_0 : decode cX5_kind 0 = .ok (.iconst 4, 1) := by decide +kernel
theorem dX5_kind_1 : decode cX5_kind 1 = .ok (.ireturn, 1) := by decide +kernel
theorem dX5_heard_0 : decode cX5_heard 0 = .ok (.aload_n 0, 1) := by decide +kernel
theorem dX5_heard_1 : decode cX5_heard 1 = .ok (.lload_n 1, 1) := by decide +kernel
theorem dX5_heard_2 : decode cX5_heard 2 = .ok (.iload_n 3, 1) := by decide +kernel
theorem dX5_heard_3 : decode cX5_heard 3 = .ok (.iload 4, 2) := by decide +kernel
theorem dX5_heard_5 : decode cX5_heard 5 = .ok (.invokespecial 9, 3) := by decide +kernel
theorem dX5_heard_8 : decode cX5_heard 8 = .ok (.istore 5, 2) := by decide +kernel
theorem dX5_heard_10 : decode cX5_heard 10 = .ok (.lload_n 1, 1) := by decide +kernel
theorem dX5_heard_11 : decode cX5_heard 11 = .ok (.iload_n 3, 1) := by decide +kernel
theorem dX5_heard_12 : decode cX5_heard 12 = .ok (.iconst 1, 1) := by decide +kernel
theorem dX5_heard_13 : decode cX5_heard 13 = .ok (.iadd, 1) := by decide +kernel
theorem dX5_heard_14 : decode cX5_heard 14 = .ok (.invokestatic 13, 3) := by decide +kernel
theorem dX5_heard_17 : decode cX5_heard 17 = .ok (.iconst (-1), 1) := by decide +kernel
theorem dX5_heard_18 : decode cX5_heard 18 = .ok (.if_icmp .ne 7, 3) := by decide +kernel
theorem dX5_heard_21 : decode cX5_heard 21 = .ok (.iconst 1, 1) := by decide +kernel
theorem dX5_heard_22 : decode cX5_heard 22 = .ok (.goto 4, 3) := by decide +kernel
theorem dX5_heard_25 : decode cX5_heard 25 = .ok (.iconst 0, 1) := by decide +kernel
theorem dX5_heard_26 : decode cX5_heard 26 = .ok (.istore 6, 2) := by decide +kernel
theorem dX5_heard_28 : decode cX5_heard 28 = .ok (.iload 6, 2) := by decide +kernel
theorem dX5_heard_30 : decode cX5_heard 30 = .ok (.ifCond .eq 24, 3) := by decide +kernel
theorem dX5_heard_33 : decode cX5_heard 33 = .ok (.iload 5, 2) := by decide +kernel
theorem dX5_heard_35 : decode cX5_heard 35 = .ok (.iload 4, 2) := by decide +kernel
theorem dX5_heard_37 : decode cX5_heard 37 = .ok (.invokestatic 19, 3) := by decide +kernel
theorem dX5_heard_40 : decode cX5_heard 40 = .ok (.iconst 3, 1) := by decide +kernel
theorem dX5_heard_41 : decode cX5_heard 41 = .ok (.if_icmp .ne 13, 3) := by decide +kernel
theorem dX5_heard_44 : decode cX5_heard 44 = .ok (.iload 4, 2) := by decide +kernel
theorem dX5_heard_46 : decode cX5_heard 46 = .ok (.iconst 4, 1) := by decide +kernel
theorem dX5_heard_47 : decode cX5_heard 47 = .ok (.iadd, 1) := by decide +kernel
theorem dX5_heard_48 : decode cX5_heard 48 = .ok (.bipush 12, 2) := by decide +kernel
theorem dX5_heard_50 : decode cX5_heard 50 = .ok (.irem, 1) := by decide +kernel
theorem dX5_heard_51 : decode cX5_heard 51 = .ok (.goto 5, 3) := by decide +kernel
theorem dX5_heard_54 : decode cX5_heard 54 = .ok (.iload 5, 2) := by decide +kernel
theorem dX5_heard_56 : decode cX5_heard 56 = .ok (.ireturn, 1) := by decide +kernel
theorem dX6_init_0 : decode cX6_init 0 = .ok (.aload_n 0, 1) := by decide +kernel
theorem dX6_init_1 : decode cX6_init 1 = .ok (.iload_n 1, 1) := by decide +kernel
theorem dX6_init_2 : decode cX6_init 2 = .ok (.iload_n 2, 1) := by decide +kernel
theorem dX6_init_3 : decode cX6_init 3 = .ok (.invokespecial 3, 3) := by decide +kernel
theorem dX6_init_6 : decode cX6_init 6 = .ok (.return_, 1) := by decide +kernel
theorem dX6_kind_0 : decode cX6_kind 0 = .ok (.iconst 3, 1) := by decide +kernel
theorem dX6_kind_1 : decode cX6_kind 1 = .ok (.ireturn, 1) := by decide +kernel
theorem dX6_heard_0 : decode cX6_heard 0 = .ok (.lload_n 1, 1) := by decide +kernel
theorem dX6_heard_1 : decode cX6_heard 1 = .ok (.iconst 0, 1) := by decide +kernel
theorem dX6_heard_2 : decode cX6_heard 2 = .ok (.invokestatic 9, 3) := by decide +kernel
theorem dX6_heard_5 : decode cX6_heard 5 = .ok (.ireturn, 1) := by decide +kernel
theorem dX7_init_0 : decode cX7_init 0 = .ok (.aload_n 0, 1) := by decide +kernel
theorem dX7_init_1 : decode cX7_init 1 = .ok (.invokespecial 3, 3) := by decide +kernel
theorem dX7_init_4 : decode cX7_init 4 = .ok (.aload_n 0, 1) := by decide +kernel
theorem dX7_init_5 : decode cX7_init 5 = .ok (.iload_n 1, 1) := by decide +kernel
theorem dX7_init_6 : decode cX7_init 6 = .ok (.putfield 9, 3) := by decide +kernel
theorem dX7_init_9 : decode cX7_init 9 = .ok (.aload_n 0, 1) := by decide +kernel
theorem dX7_init_10 : decode cX7_init 10 = .ok (.iload_n 2, 1) := by decide +kernel
theorem dX7_init_11 : decode cX7_init 11 = .ok (.putfield 15, 3) := by decide +kernel
theorem dX7_init_14 : decode cX7_init 14 = .ok (.return_, 1) := by decide +kernel
theorem dX7_kind_0 : decode cX7_kind 0 = .ok (.iconst 0, 1) := by decide +kernel
theorem dX7_kind_1 : decode cX7_kind 1 = .ok (.ireturn, 1) := by decide +kernel
theorem dX7_heard_0 : decode cX7_heard 0 = .ok (.lload_n 1, 1) := by decide +kernel
theorem dX7_heard_1 : decode cX7_heard 1 = .ok (.iload_n 3, 1) := by decide +kernel
theorem dX7_heard_2 : decode cX7_heard 2 = .ok (.invokestatic 18, 3) := by decide +kernel
theorem dX7_heard_5 : decode cX7_heard 5 = .ok (.iload 4, 2) := by decide +kernel
theorem dX7_heard_7 : decode cX7_heard 7 = .ok (.iadd, 1) := by decide +kernel
theorem dX7_heard_8 : decode cX7_heard 8 = .ok (.bipush 12, 2) := by decide +kernel
theorem dX7_heard_10 : decode cX7_heard 10 = .ok (.irem, 1) := by decide +kernel
theorem dX7_heard_11 : decode cX7_heard 11 = .ok (.ireturn, 1) := by decide +kernel
theorem dX7_open_0 : decode cX7_open 0 = .ok (.iconst 1, 1) := by decide +kernel
theorem dX7_open_1 : decode cX7_open 1 = .ok (.ireturn, 1) := by decide +kernel
theorem dX7_endsAt_0 : decode cX7_endsAt 0 = .ok (.iload_n 1, 1) := by decide +kernel
theorem dX7_endsAt_1 : decode cX7_endsAt 1 = .ok (.aload_n 0, 1) := by decide +kernel
theorem dX7_endsAt_2 : decode cX7_endsAt 2 = .ok (.getfield 9, 3) := by decide +kernel
theorem dX7_endsAt_5 : decode cX7_endsAt 5 = .ok (.if_icmp .eq 11, 3) := by decide +kernel
theorem dX7_endsAt_8 : decode cX7_endsAt 8 = .ok (.iload_n 1, 1) := by decide +kernel
theorem dX7_endsAt_9 : decode cX7_endsAt 9 = .ok (.aload_n 0, 1) := by decide +kernel
theorem dX7_endsAt_10 : decode cX7_endsAt 10 = .ok (.getfield 15, 3) := by decide +kernel
theorem dX7_endsAt_13 : decode cX7_endsAt 13 = .ok (.if_icmp .ne 7, 3) := by decide +kernel
theorem dX7_endsAt_16 : decode cX7_endsAt 16 = .ok (.iconst 1, 1) := by decide +kernel
theorem dX7_endsAt_17 : decode cX7_endsAt 17 = .ok (.goto 4, 3) := by decide +kernel
theorem dX7_endsAt_20 : decode cX7_endsAt 20 = .ok (.iconst 0, 1) := by decide +kernel
theorem dX7_endsAt_21 : decode cX7_endsAt 21 = .ok (.ireturn, 1) := by decide +kernel
theorem dX7_across_0 : decode cX7_across 0 = .ok (.iload_n 1, 1) := by decide +kernel
theorem dX7_across_1 : decode cX7_across 1 = .ok (.aload_n 0, 1) := by decide +kernel
theorem dX7_across_2 : decode cX7_across 2 = .ok (.getfield 9, 3) := by decide +kernel
theorem dX7_across_5 : decode cX7_across 5 = .ok (.if_icmp .ne 10, 3) := by decide +kernel
theorem dX7_across_8 : decode cX7_across 8 = .ok (.aload_n 0, 1) := by decide +kernel
theorem dX7_across_9 : decode cX7_across 9 = .ok (.getfield 15, 3) := by decide +kernel
theorem dX7_across_12 : decode cX7_across 12 = .ok (.goto 7, 3) := by decide +kernel
theorem dX7_across_15 : decode cX7_across 15 = .ok (.aload_n 0, 1) := by decide +kernel
theorem dX7_across_16 : decode cX7_across 16 = .ok (.getfield 9, 3) := by decide +kernel
theorem dX7_across_19 : decode cX7_across 19 = .ok (.ireturn, 1) := by decide +kernel
theorem dX7_carry_0 : decode cX7_carry 0 = .ok (.lconst 0, 1) := by decide +kernel
theorem dX7_carry_1 : decode cX7_carry 1 = .ok (.lstore 4, 2) := by decide +kernel
theorem dX7_carry_3 : decode cX7_carry 3 = .ok (.iconst 0, 1) := by decide +kernel
theorem dX7_carry_4 : decode cX7_carry 4 = .ok (.istore 6, 2) := by decide +kernel
theorem dX7_carry_6 : decode cX7_carry 6 = .ok (.iload 6, 2) := by decide +kernel
theorem dX7_carry_8 : decode cX7_carry 8 = .ok (.bipush 8, 2) := by decide +kernel
theorem dX7_carry_10 : decode cX7_carry 10 = .ok (.if_icmp .ge 36, 3) := by decide +kernel
theorem dX7_carry_13 : decode cX7_carry 13 = .ok (.lload_n 1, 1) := by decide +kernel
theorem dX7_carry_14 : decode cX7_carry 14 = .ok (.iload 6, 2) := by decide +kernel
theorem dX7_carry_16 : decode cX7_carry 16 = .ok (.invokestatic 18, 3) := by decide +kernel
theorem dX7_carry_19 : decode cX7_carry 19 = .ok (.iconst (-1), 1) := by decide +kernel
theorem dX7_carry_20 : decode cX7_carry 20 = .ok (.if_icmp .eq 26, 3) := by decide +kernel
theorem dX7_carry_23 : decode cX7_carry 23 = .ok (.lload 4, 2) := by decide +kernel
theorem dX7_carry_25 : decode cX7_carry 25 = .ok (.iload 6, 2) := by decide +kernel
theorem dX7_carry_27 : decode cX7_carry 27 = .ok (.aload_n 0, 1) := by decide +kernel
theorem dX7_carry_28 : decode cX7_carry 28 = .ok (.lload_n 1, 1) := by decide +kernel
theorem dX7_carry_29 : decode cX7_carry 29 = .ok (.iload 6, 2) := by decide +kernel
theorem dX7_carry_31 : decode cX7_carry 31 = .ok (.iload_n 3, 1) := by decide +kernel
theorem dX7_carry_32 : decode cX7_carry 32 = .ok (.invokevirtual 24, 3) := by decide +kernel
theorem dX7_carry_35 : decode cX7_carry 35 = .ok (.invokestatic 28, 3) := by decide +kernel
theorem dX7_carry_38 : decode cX7_carry 38 = .ok (.lstore 4, 2) := by decide +kernel
theorem dX7_carry_40 : decode cX7_carry 40 = .ok (.iinc 6 1, 3) := by decide +kernel
theorem dX7_carry_43 : decode cX7_carry 43 = .ok (.goto (-37), 3) := by decide +kernel
theorem dX7_carry_46 : decode cX7_carry 46 = .ok (.lload 4, 2) := by decide +kernel
theorem dX7_carry_48 : decode cX7_carry 48 = .ok (.lreturn, 1) := by decide +kernel
theorem dX7_makes_0 : decode cX7_makes 0 = .ok (.iconst 0, 1) := by decide +kernel
theorem dX7_makes_1 : decode cX7_makes 1 = .ok (.istore 6, 2) := by decide +kernel
theorem dX7_makes_3 : decode cX7_makes 3 = .ok (.iload 6, 2) := by decide +kernel
theorem dX7_makes_5 : decode cX7_makes 5 = .ok (.bipush 8, 2) := by decide +kernel
theorem dX7_makes_7 : decode cX7_makes 7 = .ok (.if_icmp .ge 39, 3) := by decide +kernel
theorem dX7_makes_10 : decode cX7_makes 10 = .ok (.lload_n 1, 1) := by decide +kernel
theorem dX7_makes_11 : decode cX7_makes 11 = .ok (.iload 6, 2) := by decide +kernel
theorem dX7_makes_13 : decode cX7_makes 13 = .ok (.invokestatic 18, 3) := by decide +kernel
theorem dX7_makes_16 : decode cX7_makes 16 = .ok (.iconst (-1), 1) := by decide +kernel
theorem dX7_makes_17 : decode cX7_makes 17 = .ok (.if_icmp .eq 29, 3) := by decide +kernel
theorem dX7_makes_20 : decode cX7_makes 20 = .ok (.aload_n 0, 1) := by decide +kernel
theorem dX7_makes_21 : decode cX7_makes 21 = .ok (.lload_n 1, 1) := by decide +kernel
theorem dX7_makes_22 : decode cX7_makes 22 = .ok (.iload 6, 2) := by decide +kernel
theorem dX7_makes_24 : decode cX7_makes 24 = .ok (.iload_n 3, 1) := by decide +kernel
theorem dX7_makes_25 : decode cX7_makes 25 = .ok (.invokevirtual 24, 3) := by decide +kernel
theorem dX7_makes_28 : decode cX7_makes 28 = .ok (.lload 4, 2) := by decide +kernel
theorem dX7_makes_30 : decode cX7_makes 30 = .ok (.iload 6, 2) := by decide +kernel
theorem dX7_makes_32 : decode cX7_makes 32 = .ok (.invokestatic 18, 3) := by decide +kernel
theorem dX7_makes_35 : decode cX7_makes 35 = .ok (.if_icmp .eq 5, 3) := by decide +kernel
theorem dX7_makes_38 : decode cX7_makes 38 = .ok (.iconst 0, 1) := by decide +kernel
theorem dX7_makes_39 : decode cX7_makes 39 = .ok (.ireturn, 1) := by decide +kernel
theorem dX7_makes_40 : decode cX7_makes 40 = .ok (.iinc 6 1, 3) := by decide +kernel
theorem dX7_makes_43 : decode cX7_makes 43 = .ok (.goto (-40), 3) := by decide +kernel
theorem dX7_makes_46 : decode cX7_makes 46 = .ok (.lload 4, 2) := by decide +kernel
theorem dX7_makes_48 : decode cX7_makes 48 = .ok (.iload 6, 2) := by decide +kernel
theorem dX7_makes_50 : decode cX7_makes 50 = .ok (.invokestatic 18, 3) := by decide +kernel
theorem dX7_makes_53 : decode cX7_makes 53 = .ok (.iconst (-1), 1) := by decide +kernel
theorem dX7_makes_54 : decode cX7_makes 54 = .ok (.if_icmp .ne 7, 3) := by decide +kernel
theorem dX7_makes_57 : decode cX7_makes 57 = .ok (.iconst 1, 1) := by decide +kernel
theorem dX7_makes_58 : decode cX7_makes 58 = .ok (.goto 4, 3) := by decide +kernel
theorem dX7_makes_61 : decode cX7_makes 61 = .ok (.iconst 0, 1) := by decide +kernel
theorem dX7_makes_62 : decode cX7_makes 62 = .ok (.ireturn, 1) := by decide +kernel
theorem dX7_alone_0 : decode cX7_alone 0 = .ok (.aload_n 0, 1) := by decide +kernel
theorem dX7_alone_1 : decode cX7_alone 1 = .ok (.lconst 0, 1) := by decide +kernel
theorem dX7_alone_2 : decode cX7_alone 2 = .ok (.iconst 0, 1) := by decide +kernel
theorem dX7_alone_3 : decode cX7_alone 3 = .ok (.iload_n 1, 1) := by decide +kernel
theorem dX7_alone_4 : decode cX7_alone 4 = .ok (.invokestatic 28, 3) := by decide +kernel
theorem dX7_alone_7 : decode cX7_alone 7 = .ok (.iconst 0, 1) := by decide +kernel
theorem dX7_alone_8 : decode cX7_alone 8 = .ok (.iload_n 2, 1) := by decide +kernel
theorem dX7_alone_9 : decode cX7_alone 9 = .ok (.invokevirtual 24, 3) := by decide +kernel
theorem dX7_alone_12 : decode cX7_alone 12 = .ok (.ireturn, 1) := by decide +kernel
theorem dX8_note_0 : decode cX8_note 0 = .ok (.iload_n 2, 1) := by decide +kernel
theorem dX8_note_1 : decode cX8_note 1 = .ok (.ifCond .lt 9, 3) := by decide +kernel
theorem dX8_note_4 : decode cX8_note 4 = .ok (.iload_n 2, 1) := by decide +kernel
theorem dX8_note_5 : decode cX8_note 5 = .ok (.bipush 8, 2) := by decide +kernel
theorem dX8_note_7 : decode cX8_note 7 = .ok (.if_icmp .lt 5, 3) := by decide +kernel
theorem dX8_note_10 : decode cX8_note 10 = .ok (.iconst (-1), 1) := by decide +kernel
theorem dX8_note_11 : decode cX8_note 11 = .ok (.ireturn, 1) := by decide +kernel
theorem dX8_note_12 : decode cX8_note 12 = .ok (.lload_n 0, 1) := by decide +kernel
theorem dX8_note_13 : decode cX8_note 13 = .ok (.iconst 4, 1) := by decide +kernel
theorem dX8_note_14 : decode cX8_note 14 = .ok (.iload_n 2, 1) := by decide +kernel
theorem dX8_note_15 : decode cX8_note 15 = .ok (.imul, 1) := by decide +kernel
theorem dX8_note_16 : decode cX8_note 16 = .ok (.lushr, 1) := by decide +kernel
theorem dX8_note_17 : decode cX8_note 17 = .ok (.ldc2_w 9, 3) := by decide +kernel
theorem dX8_note_20 : decode cX8_note 20 = .ok (.land, 1) := by decide +kernel
theorem dX8_note_21 : decode cX8_note 21 = .ok (.l2i, 1) := by decide +kernel
theorem dX8_note_22 : decode cX8_note 22 = .ok (.iconst 1, 1) := by decide +kernel
theorem dX8_note_23 : decode cX8_note 23 = .ok (.isub, 1) := by decide +kernel
theorem dX8_note_24 : decode cX8_note 24 = .ok (.ireturn, 1) := by decide +kernel
theorem dX8_with_0 : decode cX8_with 0 = .ok (.iconst 4, 1) := by decide +kernel
theorem dX8_with_1 : decode cX8_with 1 = .ok (.iload_n 2, 1) := by decide +kernel
theorem dX8_with_2 : decode cX8_with 2 = .ok (.imul, 1) := by decide +kernel
theorem dX8_with_3 : decode cX8_with 3 = .ok (.istore 4, 2) := by decide +kernel
theorem dX8_with_5 : decode cX8_with 5 = .ok (.lload_n 0, 1) := by decide +kernel
theorem dX8_with_6 : decode cX8_with 6 = .ok (.ldc2_w 9, 3) := by decide +kernel
theorem dX8_with_9 : decode cX8_with 9 = .ok (.iload 4, 2) := by decide +kernel
theorem dX8_with_11 : decode cX8_with 11 = .ok (.lshl, 1) := by decide +kernel
theorem dX8_with_12 : decode cX8_with 12 = .ok (.ldc2_w 11, 3) := by decide +kernel
theorem dX8_with_15 : decode cX8_with 15 = .ok (.lxor, 1) := by decide +kernel
theorem dX8_with_16 : decode cX8_with 16 = .ok (.land, 1) := by decide +kernel
theorem dX8_with_17 : decode cX8_with 17 = .ok (.iload_n 3, 1) := by decide +kernel
theorem dX8_with_18 : decode cX8_with 18 = .ok (.i2l, 1) := by decide +kernel
theorem dX8_with_19 : decode cX8_with 19 = .ok (.lconst 1, 1) := by decide +kernel
theorem dX8_with_20 : decode cX8_with 20 = .ok (.ladd, 1) := by decide +kernel
theorem dX8_with_21 : decode cX8_with 21 = .ok (.iload 4, 2) := by decide +kernel
theorem dX8_with_23 : decode cX8_with 23 = .ok (.lshl, 1) := by decide +kernel
theorem dX8_with_24 : decode cX8_with 24 = .ok (.lor, 1) := by decide +kernel
theorem dX8_with_25 : decode cX8_with 25 = .ok (.lreturn, 1) := by decide +kernel
theorem dX8_length_0 : decode cX8_length 0 = .ok (.iconst 0, 1) := by decide +kernel
theorem dX8_length_1 : decode cX8_length 1 = .ok (.istore_n 2, 1) := by decide +kernel
theorem dX8_length_2 : decode cX8_length 2 = .ok (.iload_n 2, 1) := by decide +kernel
theorem dX8_length_3 : decode cX8_length 3 = .ok (.bipush 8, 2) := by decide +kernel
theorem dX8_length_5 : decode cX8_length 5 = .ok (.if_icmp .ge 18, 3) := by decide +kernel
theorem dX8_length_8 : decode cX8_length 8 = .ok (.lload_n 0, 1) := by decide +kernel
theorem dX8_length_9 : decode cX8_length 9 = .ok (.iload_n 2, 1) := by decide +kernel
theorem dX8_length_10 : decode cX8_length 10 = .ok (.invokestatic 13, 3) := by decide +kernel
theorem dX8_length_13 : decode cX8_length 13 = .ok (.iconst (-1), 1) := by decide +kernel
theorem dX8_length_14 : decode cX8_length 14 = .ok (.if_icmp .eq 9, 3) := by decide +kernel
theorem dX8_length_17 : decode cX8_length 17 = .ok (.iinc 2 1, 3) := by decide +kernel
theorem dX8_length_20 : decode cX8_length 20 = .ok (.goto (-18), 3) := by decide +kernel
theorem dX8_length_23 : decode cX8_length 23 = .ok (.iload_n 2, 1) := by decide +kernel
theorem dX8_length_24 : decode cX8_length 24 = .ok (.ireturn, 1) := by decide +kernel
theorem dX8_above_0 : decode cX8_above 0 = .ok (.iload_n 0, 1) := by decide +kernel
theorem dX8_above_1 : decode cX8_above 1 = .ok (.iload_n 1, 1) := by decide +kernel
theorem dX8_above_2 : decode cX8_above 2 = .ok (.isub, 1) := by decide +kernel
theorem dX8_above_3 : decode cX8_above 3 = .ok (.bipush 12, 2) := by decide +kernel
theorem dX8_above_5 : decode cX8_above 5 = .ok (.iadd, 1) := by decide +kernel
theorem dX8_above_6 : decode cX8_above 6 = .ok (.bipush 12, 2) := by decide +kernel
theorem dX8_above_8 : decode cX8_above 8 = .ok (.irem, 1) := by decide +kernel
theorem dX8_above_9 : decode cX8_above 9 = .ok (.ireturn, 1) := by decide +kernel
theorem dX8_tritones_0 : decode cX8_tritones 0 = .ok (.iconst 0, 1) := by decide +kernel
theorem dX8_tritones_1 : decode cX8_tritones 1 = .ok (.istore_n 2, 1) := by decide +kernel
theorem dX8_tritones_2 : decode cX8_tritones 2 = .ok (.iconst 1, 1) := by decide +kernel
theorem dX8_tritones_3 : decode cX8_tritones 3 = .ok (.istore_n 3, 1) := by decide +kernel
theorem dX8_tritones_4 : decode cX8_tritones 4 = .ok (.iload_n 3, 1) := by decide +kernel
theorem dX8_tritones_5 : decode cX8_tritones 5 = .ok (.bipush 8, 2) := by decide +kernel
theorem dX8_tritones_7 : decode cX8_tritones 7 = .ok (.if_icmp .ge 42, 3) := by decide +kernel
theorem dX8_tritones_10 : decode cX8_tritones 10 = .ok (.lload_n 0, 1) := by decide +kernel
theorem dX8_tritones_11 : decode cX8_tritones 11 = .ok (.iload_n 3, 1) := by decide +kernel
theorem dX8_tritones_12 : decode cX8_tritones 12 = .ok (.invokestatic 13, 3) := by decide +kernel
theorem dX8_tritones_15 : decode cX8_tritones 15 = .ok (.iconst (-1), 1) := by decide +kernel
theorem dX8_tritones_16 : decode cX8_tritones 16 = .ok (.if_icmp .eq 33, 3) := by decide +kernel
theorem dX8_tritones_19 : decode cX8_tritones 19 = .ok (.lload_n 0, 1) := by decide +kernel
theorem dX8_tritones_20 : decode cX8_tritones 20 = .ok (.iload_n 3, 1) := by decide +kernel
theorem dX8_tritones_21 : decode cX8_tritones 21 = .ok (.invokestatic 13, 3) := by decide +kernel
theorem dX8_tritones_24 : decode cX8_tritones 24 = .ok (.lload_n 0, 1) := by decide +kernel
theorem dX8_tritones_25 : decode cX8_tritones 25 = .ok (.iload_n 3, 1) := by decide +kernel
theorem dX8_tritones_26 : decode cX8_tritones 26 = .ok (.iconst 1, 1) := by decide +kernel
theorem dX8_tritones_27 : decode cX8_tritones 27 = .ok (.isub, 1) := by decide +kernel
theorem dX8_tritones_28 : decode cX8_tritones 28 = .ok (.invokestatic 13, 3) := by decide +kernel
theorem dX8_tritones_31 : decode cX8_tritones 31 = .ok (.isub, 1) := by decide +kernel
theorem dX8_tritones_32 : decode cX8_tritones 32 = .ok (.invokestatic 19, 3) := by decide +kernel
theorem dX8_tritones_35 : decode cX8_tritones 35 = .ok (.bipush 6, 2) := by decide +kernel
theorem dX8_tritones_37 : decode cX8_tritones 37 = .ok (.if_icmp .ne 6, 3) := by decide +kernel
theorem dX8_tritones_40 : decode cX8_tritones 40 = .ok (.iinc 2 1, 3) := by decide +kernel
theorem dX8_tritones_43 : decode cX8_tritones 43 = .ok (.iinc 3 1, 3) := by decide +kernel
theorem dX8_tritones_46 : decode cX8_tritones 46 = .ok (.goto (-42), 3) := by decide +kernel
theorem dX8_tritones_49 : decode cX8_tritones 49 = .ok (.iload_n 2, 1) := by decide +kernel
theorem dX8_tritones_50 : decode cX8_tritones 50 = .ok (.ireturn, 1) := by decide +kernel
theorem dX8_bits_0 : decode cX8_bits 0 = .ok (.iconst 0, 1) := by decide +kernel
theorem dX8_bits_1 : decode cX8_bits 1 = .ok (.istore_n 2, 1) := by decide +kernel
theorem dX8_bits_2 : decode cX8_bits 2 = .ok (.lload_n 0, 1) := by decide +kernel
theorem dX8_bits_3 : decode cX8_bits 3 = .ok (.invokestatic 25, 3) := by decide +kernel
theorem dX8_bits_6 : decode cX8_bits 6 = .ok (.istore_n 3, 1) := by decide +kernel
theorem dX8_bits_7 : decode cX8_bits 7 = .ok (.iconst 0, 1) := by decide +kernel
theorem dX8_bits_8 : decode cX8_bits 8 = .ok (.istore 4, 2) := by decide +kernel
theorem dX8_bits_10 : decode cX8_bits 10 = .ok (.iload 4, 2) := by decide +kernel
theorem dX8_bits_12 : decode cX8_bits 12 = .ok (.iload_n 3, 1) := by decide +kernel
theorem dX8_bits_13 : decode cX8_bits 13 = .ok (.if_icmp .ge 20, 3) := by decide +kernel
theorem dX8_bits_16 : decode cX8_bits 16 = .ok (.iload_n 2, 1) := by decide +kernel
theorem dX8_bits_17 : decode cX8_bits 17 = .ok (.iconst 1, 1) := by decide +kernel
theorem dX8_bits_18 : decode cX8_bits 18 = .ok (.lload_n 0, 1) := by decide +kernel
theorem dX8_bits_19 : decode cX8_bits 19 = .ok (.iload 4, 2) := by decide +kernel
theorem dX8_bits_21 : decode cX8_bits 21 = .ok (.invokestatic 13, 3) := by decide +kernel
theorem dX8_bits_24 : decode cX8_bits 24 = .ok (.ishl, 1) := by decide +kernel
theorem dX8_bits_25 : decode cX8_bits 25 = .ok (.ior, 1) := by decide +kernel
theorem dX8_bits_26 : decode cX8_bits 26 = .ok (.istore_n 2, 1) := by decide +kernel
theorem dX8_bits_27 : decode cX8_bits 27 = .ok (.iinc 4 1, 3) := by decide +kernel
theorem dX8_bits_30 : decode cX8_bits 30 = .ok (.goto (-20), 3) := by decide +kernel
theorem dX8_bits_33 : decode cX8_bits 33 = .ok (.iload_n 2, 1) := by decide +kernel
theorem dX8_bits_34 : decode cX8_bits 34 = .ok (.ireturn, 1) := by decide +kernel
theorem dX8_key_0 : decode cX8_key 0 = .ok (.iconst 0, 1) := by decide +kernel
theorem dX8_key_1 : decode cX8_key 1 = .ok (.istore_n 2, 1) := by decide +kernel
theorem dX8_key_2 : decode cX8_key 2 = .ok (.lload_n 0, 1) := by decide +kernel
theorem dX8_key_3 : decode cX8_key 3 = .ok (.iconst 0, 1) := by decide +kernel
theorem dX8_key_4 : decode cX8_key 4 = .ok (.invokestatic 29, 3) := by decide +kernel
theorem dX8_key_7 : decode cX8_key 7 = .ok (.istore_n 3, 1) := by decide +kernel
theorem dX8_key_8 : decode cX8_key 8 = .ok (.iconst 1, 1) := by decide +kernel
theorem dX8_key_9 : decode cX8_key 9 = .ok (.istore 4, 2) := by decide +kernel
theorem dX8_key_11 : decode cX8_key 11 = .ok (.iload 4, 2) := by decide +kernel
theorem dX8_key_13 : decode cX8_key 13 = .ok (.bipush 24, 2) := by decide +kernel
theorem dX8_key_15 : decode cX8_key 15 = .ok (.if_icmp .ge 29, 3) := by decide +kernel
theorem dX8_key_18 : decode cX8_key 18 = .ok (.lload_n 0, 1) := by decide +kernel
theorem dX8_key_19 : decode cX8_key 19 = .ok (.iload 4, 2) := by decide +kernel
theorem dX8_key_21 : decode cX8_key 21 = .ok (.invokestatic 29, 3) := by decide +kernel
theorem dX8_key_24 : decode cX8_key 24 = .ok (.istore 5, 2) := by decide +kernel
theorem dX8_key_26 : decode cX8_key 26 = .ok (.iload 5, 2) := by decide +kernel
theorem dX8_key_28 : decode cX8_key 28 = .ok (.iload_n 3, 1) := by decide +kernel
theorem dX8_key_29 : decode cX8_key 29 = .ok (.if_icmp .le 9, 3) := by decide +kernel
theorem dX8_key_32 : decode cX8_key 32 = .ok (.iload 5, 2) := by decide +kernel
theorem dX8_key_34 : decode cX8_key 34 = .ok (.istore_n 3, 1) := by decide +kernel
theorem dX8_key_35 : decode cX8_key 35 = .ok (.iload 4, 2) := by decide +kernel
theorem dX8_key_37 : decode cX8_key 37 = .ok (.istore_n 2, 1) := by decide +kernel
theorem dX8_key_38 : decode cX8_key 38 = .ok (.iinc 4 1, 3) := by decide +kernel
theorem dX8_key_41 : decode cX8_key 41 = .ok (.goto (-30), 3) := by decide +kernel
theorem dX8_key_44 : decode cX8_key 44 = .ok (.iload_n 2, 1) := by decide +kernel
theorem dX8_key_45 : decode cX8_key 45 = .ok (.ireturn, 1) := by decide +kernel
theorem dX8_inKey_0 : decode cX8_inKey 0 = .ok (.iload_n 2, 1) := by decide +kernel
theorem dX8_inKey_1 : decode cX8_inKey 1 = .ok (.bipush 12, 2) := by decide +kernel
theorem dX8_inKey_3 : decode cX8_inKey 3 = .ok (.if_icmp .ge 9, 3) := by decide +kernel
theorem dX8_inKey_6 : decode cX8_inKey 6 = .ok (.sipush 2741, 3) := by decide +kernel
theorem dX8_inKey_9 : decode cX8_inKey 9 = .ok (.goto 6, 3) := by decide +kernel
theorem dX8_inKey_12 : decode cX8_inKey 12 = .ok (.sipush 1453, 3) := by decide +kernel
theorem dX8_inKey_15 : decode cX8_inKey 15 = .ok (.istore_n 3, 1) := by decide +kernel
theorem dX8_inKey_16 : decode cX8_inKey 16 = .ok (.iload_n 2, 1) := by decide +kernel
theorem dX8_inKey_17 : decode cX8_inKey 17 = .ok (.bipush 12, 2) := by decide +kernel
theorem dX8_inKey_19 : decode cX8_inKey 19 = .ok (.irem, 1) := by decide +kernel
theorem dX8_inKey_20 : decode cX8_inKey 20 = .ok (.istore 4, 2) := by decide +kernel
theorem dX8_inKey_22 : decode cX8_inKey 22 = .ok (.lload_n 0, 1) := by decide +kernel
theorem dX8_inKey_23 : decode cX8_inKey 23 = .ok (.invokestatic 25, 3) := by decide +kernel
theorem dX8_inKey_26 : decode cX8_inKey 26 = .ok (.istore 5, 2) := by decide +kernel
theorem dX8_inKey_28 : decode cX8_inKey 28 = .ok (.iconst 0, 1) := by decide +kernel
theorem dX8_inKey_29 : decode cX8_inKey 29 = .ok (.istore 6, 2) := by decide +kernel
theorem dX8_inKey_31 : decode cX8_inKey 31 = .ok (.iconst 0, 1) := by decide +kernel
theorem dX8_inKey_32 : decode cX8_inKey 32 = .ok (.istore 7, 2) := by decide +kernel
theorem dX8_inKey_34 : decode cX8_inKey 34 = .ok (.iload 7, 2) := by decide +kernel
theorem dX8_inKey_36 : decode cX8_inKey 36 = .ok (.iload 5, 2) := by decide +kernel
theorem dX8_inKey_38 : decode cX8_inKey 38 = .ok (.if_icmp .ge 29, 3) := by decide +kernel
theorem dX8_inKey_41 : decode cX8_inKey 41 = .ok (.iload 6, 2) := by decide +kernel
theorem dX8_inKey_43 : decode cX8_inKey 43 = .ok (.iload_n 3, 1) := by decide +kernel
theorem dX8_inKey_44 : decode cX8_inKey 44 = .ok (.lload_n 0, 1) := by decide +kernel
theorem dX8_inKey_45 : decode cX8_inKey 45 = .ok (.iload 7, 2) := by decide +kernel
theorem dX8_inKey_47 : decode cX8_inKey 47 = .ok (.invokestatic 13, 3) := by decide +kernel
theorem dX8_inKey_50 : decode cX8_inKey 50 = .ok (.iload 4, 2) := by decide +kernel
theorem dX8_inKey_52 : decode cX8_inKey 52 = .ok (.invokestatic 32, 3) := by decide +kernel
theorem dX8_inKey_55 : decode cX8_inKey 55 = .ok (.ishr, 1) := by decide +kernel
theorem dX8_inKey_56 : decode cX8_inKey 56 = .ok (.iconst 1, 1) := by decide +kernel
theorem dX8_inKey_57 : decode cX8_inKey 57 = .ok (.iand, 1) := by decide +kernel
theorem dX8_inKey_58 : decode cX8_inKey 58 = .ok (.iadd, 1) := by decide +kernel
theorem dX8_inKey_59 : decode cX8_inKey 59 = .ok (.istore 6, 2) := by decide +kernel
theorem dX8_inKey_61 : decode cX8_inKey 61 = .ok (.iinc 7 1, 3) := by decide +kernel
theorem dX8_inKey_64 : decode cX8_inKey 64 = .ok (.goto (-30), 3) := by decide +kernel
theorem dX8_inKey_67 : decode cX8_inKey 67 = .ok (.iload 6, 2) := by decide +kernel
theorem dX8_inKey_69 : decode cX8_inKey 69 = .ok (.ireturn, 1) := by decide +kernel
theorem dX8_unlike_0 : decode cX8_unlike 0 = .ok (.iconst 0, 1) := by decide +kernel
theorem dX8_unlike_1 : decode cX8_unlike 1 = .ok (.istore 4, 2) := by decide +kernel
theorem dX8_unlike_3 : decode cX8_unlike 3 = .ok (.iconst 0, 1) := by decide +kernel
theorem dX8_unlike_4 : decode cX8_unlike 4 = .ok (.istore 5, 2) := by decide +kernel
theorem dX8_unlike_6 : decode cX8_unlike 6 = .ok (.iload 5, 2) := by decide +kernel
theorem dX8_unlike_8 : decode cX8_unlike 8 = .ok (.bipush 8, 2) := by decide +kernel
theorem dX8_unlike_10 : decode cX8_unlike 10 = .ok (.if_icmp .ge 27, 3) := by decide +kernel
theorem dX8_unlike_13 : decode cX8_unlike 13 = .ok (.lload_n 0, 1) := by decide +kernel
theorem dX8_unlike_14 : decode cX8_unlike 14 = .ok (.iload 5, 2) := by decide +kernel
theorem dX8_unlike_16 : decode cX8_unlike 16 = .ok (.invokestatic 13, 3) := by decide +kernel
theorem dX8_unlike_19 : decode cX8_unlike 19 = .ok (.lload_n 2, 1) := by decide +kernel
theorem dX8_unlike_20 : decode cX8_unlike 20 = .ok (.iload 5, 2) := by decide +kernel
theorem dX8_unlike_22 : decode cX8_unlike 22 = .ok (.invokestatic 13, 3) := by decide +kernel
theorem dX8_unlike_25 : decode cX8_unlike 25 = .ok (.if_icmp .eq 6, 3) := by decide +kernel
theorem dX8_unlike_28 : decode cX8_unlike 28 = .ok (.iinc 4 1, 3) := by decide +kernel
theorem dX8_unlike_31 : decode cX8_unlike 31 = .ok (.iinc 5 1, 3) := by decide +kernel
theorem dX8_unlike_34 : decode cX8_unlike 34 = .ok (.goto (-28), 3) := by decide +kernel
theorem dX8_unlike_37 : decode cX8_unlike 37 = .ok (.iload 4, 2) := by decide +kernel
theorem dX8_unlike_39 : decode cX8_unlike 39 = .ok (.ireturn, 1) := by decide +kernel
theorem dX9_init_0 : decode cX9_init 0 = .ok (.aload_n 0, 1) := by decide +kernel
theorem dX9_init_1 : decode cX9_init 1 = .ok (.invokespecial 3, 3) := by decide +kernel
theorem dX9_init_4 : decode cX9_init 4 = .ok (.aload_n 0, 1) := by decide +kernel
theorem dX9_init_5 : decode cX9_init 5 = .ok (.new 9, 3) := by decide +kernel
theorem dX9_init_8 : decode cX9_init 8 = .ok (.dup, 1) := by decide +kernel
theorem dX9_init_9 : decode cX9_init 9 = .ok (.invokespecial 11, 3) := by decide +kernel
theorem dX9_init_12 : decode cX9_init 12 = .ok (.putfield 12, 3) := by decide +kernel
theorem dX9_init_15 : decode cX9_init 15 = .ok (.aload_n 0, 1) := by decide +kernel
theorem dX9_init_16 : decode cX9_init 16 = .ok (.new 18, 3) := by decide +kernel
theorem dX9_init_19 : decode cX9_init 19 = .ok (.dup, 1) := by decide +kernel
theorem dX9_init_20 : decode cX9_init 20 = .ok (.invokespecial 20, 3) := by decide +kernel
theorem dX9_init_23 : decode cX9_init 23 = .ok (.putfield 21, 3) := by decide +kernel
theorem dX9_init_26 : decode cX9_init 26 = .ok (.aload_n 0, 1) := by decide +kernel
theorem dX9_init_27 : decode cX9_init 27 = .ok (.iconst 5, 1) := by decide +kernel
theorem dX9_init_28 : decode cX9_init 28 = .ok (.newarray .int, 2) := by decide +kernel
theorem dX9_init_30 : decode cX9_init 30 = .ok (.putfield 25, 3) := by decide +kernel
theorem dX9_init_33 : decode cX9_init 33 = .ok (.aload_n 0, 1) := by decide +kernel
theorem dX9_init_34 : decode cX9_init 34 = .ok (.sipush 1024, 3) := by decide +kernel
theorem dX9_init_37 : decode cX9_init 37 = .ok (.newarray .long, 2) := by decide +kernel
theorem dX9_init_39 : decode cX9_init 39 = .ok (.putfield 29, 3) := by decide +kernel
theorem dX9_init_42 : decode cX9_init 42 = .ok (.return_, 1) := by decide +kernel
theorem dX9_passage_0 : decode cX9_passage 0 = .ok (.aload_n 0, 1) := by decide +kernel
theorem dX9_passage_1 : decode cX9_passage 1 = .ok (.getfield 12, 3) := by decide +kernel
theorem dX9_passage_4 : decode cX9_passage 4 = .ok (.iload_n 1, 1) := by decide +kernel
theorem dX9_passage_5 : decode cX9_passage 5 = .ok (.iload_n 2, 1) := by decide +kernel
theorem dX9_passage_6 : decode cX9_passage 6 = .ok (.invokevirtual 33, 3) := by decide +kernel
theorem dX9_passage_9 : decode cX9_passage 9 = .ok (.astore 5, 2) := by decide +kernel
theorem dX9_passage_11 : decode cX9_passage 11 = .ok (.aload 5, 2) := by decide +kernel
theorem dX9_passage_13 : decode cX9_passage 13 = .ok (.ifnull 24, 3) := by decide +kernel
theorem dX9_passage_16 : decode cX9_passage 16 = .ok (.aload 5, 2) := by decide +kernel
theorem dX9_passage_18 : decode cX9_passage 18 = .ok (.lload_n 3, 1) := by decide +kernel
theorem dX9_passage_19 : decode cX9_passage 19 = .ok (.aload_n 0, 1) := by decide +kernel
theorem dX9_passage_20 : decode cX9_passage 20 = .ok (.getfield 21, 3) := by decide +kernel
theorem dX9_passage_23 : decode cX9_passage 23 = .ok (.getfield 37, 3) := by decide +kernel
theorem dX9_passage_26 : decode cX9_passage 26 = .ok (.invokevirtual 41, 3) := by decide +kernel
theorem dX9_passage_29 : decode cX9_passage 29 = .ok (.ifCond .eq 8, 3) := by decide +kernel
theorem dX9_passage_32 : decode cX9_passage 32 = .ok (.aload 5, 2) := by decide +kernel
theorem dX9_passage_34 : decode cX9_passage 34 = .ok (.goto 4, 3) := by decide +kernel
theorem dX9_passage_37 : decode cX9_passage 37 = .ok (.aconst_null, 1) := by decide +kernel
theorem dX9_passage_38 : decode cX9_passage 38 = .ok (.areturn, 1) := by decide +kernel
theorem dX9_countOpen_0 : decode cX9_countOpen 0 = .ok (.iconst 0, 1) := by decide +kernel
theorem dX9_countOpen_1 : decode cX9_countOpen 1 = .ok (.istore_n 1, 1) := by decide +kernel
theorem dX9_countOpen_2 : decode cX9_countOpen 2 = .ok (.iconst 0, 1) := by decide +kernel
theorem dX9_countOpen_3 : decode cX9_countOpen 3 = .ok (.istore_n 2, 1) := by decide +kernel
theorem dX9_countOpen_4 : decode cX9_countOpen 4 = .ok (.iload_n 2, 1) := by decide +kernel
theorem dX9_countOpen_5 : decode cX9_countOpen 5 = .ok (.aload_n 0, 1) := by decide +kernel
theorem dX9_countOpen_6 : decode cX9_countOpen 6 = .ok (.getfield 12, 3) := by decide +kernel
theorem dX9_countOpen_9 : decode cX9_countOpen 9 = .ok (.getfield 47, 3) := by decide +kernel
theorem dX9_countOpen_12 : decode cX9_countOpen 12 = .ok (.if_icmp .ge 34, 3) := by decide +kernel
theorem dX9_countOpen_15 : decode cX9_countOpen 15 = .ok (.aload_n 0, 1) := by decide +kernel
theorem dX9_countOpen_16 : decode cX9_countOpen 16 = .ok (.aload_n 0, 1) := by decide +kernel
theorem dX9_countOpen_17 : decode cX9_countOpen 17 = .ok (.getfield 21, 3) := by decide +kernel
theorem dX9_countOpen_20 : decode cX9_countOpen 20 = .ok (.getfield 51, 3) := by decide +kernel
theorem dX9_countOpen_23 : decode cX9_countOpen 23 = .ok (.iload_n 2, 1) := by decide +kernel
theorem dX9_countOpen_24 : decode cX9_countOpen 24 = .ok (.aload_n 0, 1) := by decide +kernel
theorem dX9_countOpen_25 : decode cX9_countOpen 25 = .ok (.getfield 21, 3) := by decide +kernel
theorem dX9_countOpen_28 : decode cX9_countOpen 28 = .ok (.getfield 54, 3) := by decide +kernel
theorem dX9_countOpen_31 : decode cX9_countOpen 31 = .ok (.invokevirtual 58, 3) := by decide +kernel
theorem dX9_countOpen_34 : decode cX9_countOpen 34 = .ok (.ifnull 6, 3) := by decide +kernel
theorem dX9_countOpen_37 : decode cX9_countOpen 37 = .ok (.iinc 1 1, 3) := by decide +kernel
theorem dX9_countOpen_40 : decode cX9_countOpen 40 = .ok (.iinc 2 1, 3) := by decide +kernel
theorem dX9_countOpen_43 : decode cX9_countOpen 43 = .ok (.goto (-39), 3) := by decide +kernel
theorem dX9_countOpen_46 : decode cX9_countOpen 46 = .ok (.iload_n 1, 1) := by decide +kernel
theorem dX9_countOpen_47 : decode cX9_countOpen 47 = .ok (.ireturn, 1) := by decide +kernel
theorem dX9_nearest_0 : decode cX9_nearest 0 = .ok (.iconst (-1), 1) := by decide +kernel
theorem dX9_nearest_1 : decode cX9_nearest 1 = .ok (.istore_n 1, 1) := by decide +kernel
theorem dX9_nearest_2 : decode cX9_nearest 2 = .ok (.bipush 9, 2) := by decide +kernel
theorem dX9_nearest_4 : decode cX9_nearest 4 = .ok (.istore_n 2, 1) := by decide +kernel
theorem dX9_nearest_5 : decode cX9_nearest 5 = .ok (.iconst 0, 1) := by decide +kernel
theorem dX9_nearest_6 : decode cX9_nearest 6 = .ok (.istore_n 3, 1) := by decide +kernel
theorem dX9_nearest_7 : decode cX9_nearest 7 = .ok (.iload_n 3, 1) := by decide +kernel
theorem dX9_nearest_8 : decode cX9_nearest 8 = .ok (.aload_n 0, 1) := by decide +kernel
theorem dX9_nearest_9 : decode cX9_nearest 9 = .ok (.getfield 12, 3) := by decide +kernel
theorem dX9_nearest_12 : decode cX9_nearest 12 = .ok (.getfield 47, 3) := by decide +kernel
theorem dX9_nearest_15 : decode cX9_nearest 15 = .ok (.if_icmp .ge 78, 3) := by decide +kernel
theorem dX9_nearest_18 : decode cX9_nearest 18 = .ok (.aload_n 0, 1) := by decide +kernel
theorem dX9_nearest_19 : decode cX9_nearest 19 = .ok (.aload_n 0, 1) := by decide +kernel
theorem dX9_nearest_20 : decode cX9_nearest 20 = .ok (.getfield 21, 3) := by decide +kernel
theorem dX9_nearest_23 : decode cX9_nearest 23 = .ok (.getfield 51, 3) := by decide +kernel
theorem dX9_nearest_26 : decode cX9_nearest 26 = .ok (.iload_n 3, 1) := by decide +kernel
theorem dX9_nearest_27 : decode cX9_nearest 27 = .ok (.aload_n 0, 1) := by decide +kernel
theorem dX9_nearest_28 : decode cX9_nearest 28 = .ok (.getfield 21, 3) := by decide +kernel
theorem dX9_nearest_31 : decode cX9_nearest 31 = .ok (.getfield 54, 3) := by decide +kernel
theorem dX9_nearest_34 : decode cX9_nearest 34 = .ok (.invokevirtual 58, 3) := by decide +kernel
theorem dX9_nearest_37 : decode cX9_nearest 37 = .ok (.astore 4, 2) := by decide +kernel
theorem dX9_nearest_39 : decode cX9_nearest 39 = .ok (.aload 4, 2) := by decide +kernel
theorem dX9_nearest_41 : decode cX9_nearest 41 = .ok (.ifnull 46, 3) := by decide +kernel
theorem dX9_nearest_44 : decode cX9_nearest 44 = .ok (.aload 4, 2) := by decide +kernel
theorem dX9_nearest_46 : decode cX9_nearest 46 = .ok (.aload_n 0, 1) := by decide +kernel
theorem dX9_nearest_47 : decode cX9_nearest 47 = .ok (.getfield 21, 3) := by decide +kernel
theorem dX9_nearest_50 : decode cX9_nearest 50 = .ok (.getfield 54, 3) := by decide +kernel
theorem dX9_nearest_53 : decode cX9_nearest 53 = .ok (.aload_n 0, 1) := by decide +kernel
theorem dX9_nearest_54 : decode cX9_nearest 54 = .ok (.getfield 21, 3) := by decide +kernel
theorem dX9_nearest_57 : decode cX9_nearest 57 = .ok (.iload_n 3, 1) := by decide +kernel
theorem dX9_nearest_58 : decode cX9_nearest 58 = .ok (.invokevirtual 62, 3) := by decide +kernel
theorem dX9_nearest_61 : decode cX9_nearest 61 = .ok (.invokevirtual 66, 3) := by decide +kernel
theorem dX9_nearest_64 : decode cX9_nearest 64 = .ok (.aload_n 0, 1) := by decide +kernel
theorem dX9_nearest_65 : decode cX9_nearest 65 = .ok (.getfield 21, 3) := by decide +kernel
theorem dX9_nearest_68 : decode cX9_nearest 68 = .ok (.getfield 70, 3) := by decide +kernel
theorem dX9_nearest_71 : decode cX9_nearest 71 = .ok (.invokestatic 73, 3) := by decide +kernel
theorem dX9_nearest_74 : decode cX9_nearest 74 = .ok (.istore 5, 2) := by decide +kernel
theorem dX9_nearest_76 : decode cX9_nearest 76 = .ok (.iload 5, 2) := by decide +kernel
theorem dX9_nearest_78 : decode cX9_nearest 78 = .ok (.iload_n 2, 1) := by decide +kernel
theorem dX9_nearest_79 : decode cX9_nearest 79 = .ok (.if_icmp .ge 8, 3) := by decide +kernel
theorem dX9_nearest_82 : decode cX9_nearest 82 = .ok (.iload 5, 2) := by decide +kernel
theorem dX9_nearest_84 : decode cX9_nearest 84 = .ok (.istore_n 2, 1) := by decide +kernel
theorem dX9_nearest_85 : decode cX9_nearest 85 = .ok (.iload_n 3, 1) := by decide +kernel
theorem dX9_nearest_86 : decode cX9_nearest 86 = .ok (.istore_n 1, 1) := by decide +kernel
theorem dX9_nearest_87 : decode cX9_nearest 87 = .ok (.iinc 3 1, 3) := by decide +kernel
theorem dX9_nearest_90 : decode cX9_nearest 90 = .ok (.goto (-83), 3) := by decide +kernel
theorem dX9_nearest_93 : decode cX9_nearest 93 = .ok (.iload_n 1, 1) := by decide +kernel
theorem dX9_nearest_94 : decode cX9_nearest 94 = .ok (.ireturn, 1) := by decide +kernel
theorem dX9_findWay_0 : decode cX9_findWay 0 = .ok (.aload_n 0, 1) := by decide +kernel
theorem dX9_findWay_1 : decode cX9_findWay 1 = .ok (.getfield 21, 3) := by decide +kernel
theorem dX9_findWay_4 : decode cX9_findWay 4 = .ok (.getfield 54, 3) := by decide +kernel
theorem dX9_findWay_7 : decode cX9_findWay 7 = .ok (.aload_n 0, 1) := by decide +kernel
theorem dX9_findWay_8 : decode cX9_findWay 8 = .ok (.getfield 21, 3) := by decide +kernel
theorem dX9_findWay_11 : decode cX9_findWay 11 = .ok (.getfield 70, 3) := by decide +kernel
theorem dX9_findWay_14 : decode cX9_findWay 14 = .ok (.lcmp, 1) := by decide +kernel
theorem dX9_findWay_15 : decode cX9_findWay 15 = .ok (.ifCond .ne 16, 3) := by decide +kernel
theorem dX9_findWay_18 : decode cX9_findWay 18 = .ok (.aload_n 0, 1) := by decide +kernel
theorem dX9_findWay_19 : decode cX9_findWay 19 = .ok (.aload_n 0, 1) := by decide +kernel
theorem dX9_findWay_20 : decode cX9_findWay 20 = .ok (.getfield 21, 3) := by decide +kernel
theorem dX9_findWay_23 : decode cX9_findWay 23 = .ok (.getfield 51, 3) := by decide +kernel
theorem dX9_findWay_26 : decode cX9_findWay 26 = .ok (.putfield 79, 3) := by decide +kernel
theorem dX9_findWay_29 : decode cX9_findWay 29 = .ok (.iconst 0, 1) := by decide +kernel
theorem dX9_findWay_30 : decode cX9_findWay 30 = .ok (.ireturn, 1) := by decide +kernel
theorem dX9_findWay_31 : decode cX9_findWay 31 = .ok (.aload_n 0, 1) := by decide +kernel
theorem dX9_findWay_32 : decode cX9_findWay 32 = .ok (.getfield 21, 3) := by decide +kernel
theorem dX9_findWay_35 : decode cX9_findWay 35 = .ok (.getfield 54, 3) := by decide +kernel
theorem dX9_findWay_38 : decode cX9_findWay 38 = .ok (.invokestatic 82, 3) := by decide +kernel
theorem dX9_findWay_41 : decode cX9_findWay 41 = .ok (.aload_n 0, 1) := by decide +kernel
theorem dX9_findWay_42 : decode cX9_findWay 42 = .ok (.getfield 21, 3) := by decide +kernel
theorem dX9_findWay_45 : decode cX9_findWay 45 = .ok (.getfield 70, 3) := by decide +kernel
theorem dX9_findWay_48 : decode cX9_findWay 48 = .ok (.invokestatic 82, 3) := by decide +kernel
theorem dX9_findWay_51 : decode cX9_findWay 51 = .ok (.if_icmp .eq 5, 3) := by decide +kernel
theorem dX9_findWay_54 : decode cX9_findWay 54 = .ok (.iconst (-1), 1) := by decide +kernel
theorem dX9_findWay_55 : decode cX9_findWay 55 = .ok (.ireturn, 1) := by decide +kernel
theorem dX9_findWay_56 : decode cX9_findWay 56 = .ok (.iconst 1, 1) := by decide +kernel
theorem dX9_findWay_57 : decode cX9_findWay 57 = .ok (.istore_n 1, 1) := by decide +kernel
theorem dX9_findWay_58 : decode cX9_findWay 58 = .ok (.iload_n 1, 1) := by decide +kernel
theorem dX9_findWay_59 : decode cX9_findWay 59 = .ok (.iconst 5, 1) := by decide +kernel
theorem dX9_findWay_60 : decode cX9_findWay 60 = .ok (.if_icmp .gt 34, 3) := by decide +kernel
theorem dX9_findWay_63 : decode cX9_findWay 63 = .ok (.aload_n 0, 1) := by decide +kernel
theorem dX9_findWay_64 : decode cX9_findWay 64 = .ok (.aload_n 0, 1) := by decide +kernel
theorem dX9_findWay_65 : decode cX9_findWay 65 = .ok (.getfield 21, 3) := by decide +kernel
theorem dX9_findWay_68 : decode cX9_findWay 68 = .ok (.getfield 54, 3) := by decide +kernel
theorem dX9_findWay_71 : decode cX9_findWay 71 = .ok (.aload_n 0, 1) := by decide +kernel
theorem dX9_findWay_72 : decode cX9_findWay 72 = .ok (.getfield 21, 3) := by decide +kernel
theorem dX9_findWay_75 : decode cX9_findWay 75 = .ok (.getfield 51, 3) := by decide +kernel
theorem dX9_findWay_78 : decode cX9_findWay 78 = .ok (.iconst 0, 1) := by decide +kernel
theorem dX9_findWay_79 : decode cX9_findWay 79 = .ok (.iload_n 1, 1) := by decide +kernel
theorem dX9_findWay_80 : decode cX9_findWay 80 = .ok (.invokevirtual 86, 3) := by decide +kernel
theorem dX9_findWay_83 : decode cX9_findWay 83 = .ok (.ifCond .eq 5, 3) := by decide +kernel
theorem dX9_findWay_86 : decode cX9_findWay 86 = .ok (.iload_n 1, 1) := by decide +kernel
theorem dX9_findWay_87 : decode cX9_findWay 87 = .ok (.ireturn, 1) := by decide +kernel
theorem dX9_findWay_88 : decode cX9_findWay 88 = .ok (.iinc 1 1, 3) := by decide +kernel
theorem dX9_findWay_91 : decode cX9_findWay 91 = .ok (.goto (-33), 3) := by decide +kernel
theorem dX9_findWay_94 : decode cX9_findWay 94 = .ok (.iconst (-1), 1) := by decide +kernel
theorem dX9_findWay_95 : decode cX9_findWay 95 = .ok (.ireturn, 1) := by decide +kernel
theorem dX9_seekWay_0 : decode cX9_seekWay 0 = .ok (.iload 4, 2) := by decide +kernel
theorem dX9_seekWay_2 : decode cX9_seekWay 2 = .ok (.ifCond .lt 20, 3) := by decide +kernel
theorem dX9_seekWay_5 : decode cX9_seekWay 5 = .ok (.iload 4, 2) := by decide +kernel
theorem dX9_seekWay_7 : decode cX9_seekWay 7 = .ok (.iload 5, 2) := by decide +kernel
theorem dX9_seekWay_9 : decode cX9_seekWay 9 = .ok (.if_icmp .ge 13, 3) := by decide +kernel
theorem dX9_seekWay_12 : decode cX9_seekWay 12 = .ok (.iload 4, 2) := by decide +kernel
theorem dX9_seekWay_14 : decode cX9_seekWay 14 = .ok (.aload_n 0, 1) := by decide +kernel
theorem dX9_seekWay_15 : decode cX9_seekWay 15 = .ok (.getfield 25, 3) := by decide +kernel
theorem dX9_seekWay_18 : decode cX9_seekWay 18 = .ok (.arraylength, 1) := by decide +kernel
theorem dX9_seekWay_19 : decode cX9_seekWay 19 = .ok (.if_icmp .lt 5, 3) := by decide +kernel
theorem dX9_seekWay_22 : decode cX9_seekWay 22 = .ok (.iconst 0, 1) := by decide +kernel
theorem dX9_seekWay_23 : decode cX9_seekWay 23 = .ok (.ireturn, 1) := by decide +kernel
theorem dX9_seekWay_24 : decode cX9_seekWay 24 = .ok (.iload 4, 2) := by decide +kernel
theorem dX9_seekWay_26 : decode cX9_seekWay 26 = .ok (.iload 5, 2) := by decide +kernel
theorem dX9_seekWay_28 : decode cX9_seekWay 28 = .ok (.iconst 1, 1) := by decide +kernel
theorem dX9_seekWay_29 : decode cX9_seekWay 29 = .ok (.isub, 1) := by decide +kernel
theorem dX9_seekWay_30 : decode cX9_seekWay 30 = .ok (.if_icmp .ne 7, 3) := by decide +kernel
theorem dX9_seekWay_33 : decode cX9_seekWay 33 = .ok (.iconst 1, 1) := by decide +kernel
theorem dX9_seekWay_34 : decode cX9_seekWay 34 = .ok (.goto 4, 3) := by decide +kernel
theorem dX9_seekWay_37 : decode cX9_seekWay 37 = .ok (.iconst 0, 1) := by decide +kernel
theorem dX9_seekWay_38 : decode cX9_seekWay 38 = .ok (.istore 6, 2) := by decide +kernel
theorem dX9_seekWay_40 : decode cX9_seekWay 40 = .ok (.iconst 0, 1) := by decide +kernel
theorem dX9_seekWay_41 : decode cX9_seekWay 41 = .ok (.istore 7, 2) := by decide +kernel
theorem dX9_seekWay_43 : decode cX9_seekWay 43 = .ok (.iload 7, 2) := by decide +kernel
theorem dX9_seekWay_45 : decode cX9_seekWay 45 = .ok (.aload_n 0, 1) := by decide +kernel
theorem dX9_seekWay_46 : decode cX9_seekWay 46 = .ok (.getfield 12, 3) := by decide +kernel
theorem dX9_seekWay_49 : decode cX9_seekWay 49 = .ok (.getfield 47, 3) := by decide +kernel
theorem dX9_seekWay_52 : decode cX9_seekWay 52 = .ok (.if_icmp .ge 125, 3) := by decide +kernel
theorem dX9_seekWay_55 : decode cX9_seekWay 55 = .ok (.aload_n 0, 1) := by decide +kernel
theorem dX9_seekWay_56 : decode cX9_seekWay 56 = .ok (.iload_n 3, 1) := by decide +kernel
theorem dX9_seekWay_57 : decode cX9_seekWay 57 = .ok (.iload 7, 2) := by decide +kernel
theorem dX9_seekWay_59 : decode cX9_seekWay 59 = .ok (.lload_n 1, 1) := by decide +kernel
theorem dX9_seekWay_60 : decode cX9_seekWay 60 = .ok (.invokevirtual 58, 3) := by decide +kernel
theorem dX9_seekWay_63 : decode cX9_seekWay 63 = .ok (.astore 8, 2) := by decide +kernel
theorem dX9_seekWay_65 : decode cX9_seekWay 65 = .ok (.aload 8, 2) := by decide +kernel
theorem dX9_seekWay_67 : decode cX9_seekWay 67 = .ok (.ifnonnull 6, 3) := by decide +kernel
theorem dX9_seekWay_70 : decode cX9_seekWay 70 = .ok (.goto 101, 3) := by decide +kernel
theorem dX9_seekWay_73 : decode cX9_seekWay 73 = .ok (.aload_n 0, 1) := by decide +kernel
theorem dX9_seekWay_74 : decode cX9_seekWay 74 = .ok (.getfield 21, 3) := by decide +kernel
theorem dX9_seekWay_77 : decode cX9_seekWay 77 = .ok (.iload 7, 2) := by decide +kernel
theorem dX9_seekWay_79 : decode cX9_seekWay 79 = .ok (.invokevirtual 62, 3) := by decide +kernel
theorem dX9_seekWay_82 : decode cX9_seekWay 82 = .ok (.istore 9, 2) := by decide +kernel
theorem dX9_seekWay_84 : decode cX9_seekWay 84 = .ok (.aload 8, 2) := by decide +kernel
theorem dX9_seekWay_86 : decode cX9_seekWay 86 = .ok (.iload_n 3, 1) := by decide +kernel
theorem dX9_seekWay_87 : decode cX9_seekWay 87 = .ok (.invokevirtual 90, 3) := by decide +kernel
theorem dX9_seekWay_90 : decode cX9_seekWay 90 = .ok (.istore 10, 2) := by decide +kernel
theorem dX9_seekWay_92 : decode cX9_seekWay 92 = .ok (.iload 6, 2) := by decide +kernel
theorem dX9_seekWay_94 : decode cX9_seekWay 94 = .ok (.ifCond .eq 21, 3) := by decide +kernel
theorem dX9_seekWay_97 : decode cX9_seekWay 97 = .ok (.aload 8, 2) := by decide +kernel
theorem dX9_seekWay_99 : decode cX9_seekWay 99 = .ok (.lload_n 1, 1) := by decide +kernel
theorem dX9_seekWay_100 : decode cX9_seekWay 100 = .ok (.iload 9, 2) := by decide +kernel
theorem dX9_seekWay_102 : decode cX9_seekWay 102 = .ok (.aload_n 0, 1) := by decide +kernel
theorem dX9_seekWay_103 : decode cX9_seekWay 103 = .ok (.getfield 21, 3) := by decide +kernel
theorem dX9_seekWay_106 : decode cX9_seekWay 106 = .ok (.getfield 70, 3) := by decide +kernel
theorem dX9_seekWay_109 : decode cX9_seekWay 109 = .ok (.invokevirtual 93, 3) := by decide +kernel
theorem dX9_seekWay_112 : decode cX9_seekWay 112 = .ok (.goto 23, 3) := by decide +kernel
theorem dX9_seekWay_115 : decode cX9_seekWay 115 = .ok (.aload_n 0, 1) := by decide +kernel
theorem dX9_seekWay_116 : decode cX9_seekWay 116 = .ok (.aload 8, 2) := by decide +kernel
theorem dX9_seekWay_118 : decode cX9_seekWay 118 = .ok (.lload_n 1, 1) := by decide +kernel
theorem dX9_seekWay_119 : decode cX9_seekWay 119 = .ok (.iload 9, 2) := by decide +kernel
theorem dX9_seekWay_121 : decode cX9_seekWay 121 = .ok (.invokevirtual 66, 3) := by decide +kernel
theorem dX9_seekWay_124 : decode cX9_seekWay 124 = .ok (.iload 10, 2) := by decide +kernel
theorem dX9_seekWay_126 : decode cX9_seekWay 126 = .ok (.iload 4, 2) := by decide +kernel
theorem dX9_seekWay_128 : decode cX9_seekWay 128 = .ok (.iconst 1, 1) := by decide +kernel
theorem dX9_seekWay_129 : decode cX9_seekWay 129 = .ok (.iadd, 1) := by decide +kernel
theorem dX9_seekWay_130 : decode cX9_seekWay 130 = .ok (.iload 5, 2) := by decide +kernel
theorem dX9_seekWay_132 : decode cX9_seekWay 132 = .ok (.invokevirtual 86, 3) := by decide +kernel
theorem dX9_seekWay_135 : decode cX9_seekWay 135 = .ok (.istore 11, 2) := by decide +kernel
theorem dX9_seekWay_137 : decode cX9_seekWay 137 = .ok (.iload 11, 2) := by decide +kernel
theorem dX9_seekWay_139 : decode cX9_seekWay 139 = .ok (.ifCond .eq 32, 3) := by decide +kernel
theorem dX9_seekWay_142 : decode cX9_seekWay 142 = .ok (.aload_n 0, 1) := by decide +kernel
theorem dX9_seekWay_143 : decode cX9_seekWay 143 = .ok (.getfield 25, 3) := by decide +kernel
theorem dX9_seekWay_146 : decode cX9_seekWay 146 = .ok (.iload 4, 2) := by decide +kernel
theorem dX9_seekWay_148 : decode cX9_seekWay 148 = .ok (.iload 7, 2) := by decide +kernel
theorem dX9_seekWay_150 : decode cX9_seekWay 150 = .ok (.iastore, 1) := by decide +kernel
theorem dX9_seekWay_151 : decode cX9_seekWay 151 = .ok (.aload_n 0, 1) := by decide +kernel
theorem dX9_seekWay_152 : decode cX9_seekWay 152 = .ok (.iload 6, 2) := by decide +kernel
theorem dX9_seekWay_154 : decode cX9_seekWay 154 = .ok (.ifCond .eq 8, 3) := by decide +kernel
theorem dX9_seekWay_157 : decode cX9_seekWay 157 = .ok (.iload 10, 2) := by decide +kernel
theorem dX9_seekWay_159 : decode cX9_seekWay 159 = .ok (.goto 7, 3) := by decide +kernel
theorem dX9_seekWay_162 : decode cX9_seekWay 162 = .ok (.aload_n 0, 1) := by decide +kernel
theorem dX9_seekWay_163 : decode cX9_seekWay 163 = .ok (.getfield 79, 3) := by decide +kernel
theorem dX9_seekWay_166 : decode cX9_seekWay 166 = .ok (.putfield 79, 3) := by decide +kernel
theorem dX9_seekWay_169 : decode cX9_seekWay 169 = .ok (.iconst 1, 1) := by decide +kernel
theorem dX9_seekWay_170 : decode cX9_seekWay 170 = .ok (.ireturn, 1) := by decide +kernel
theorem dX9_seekWay_171 : decode cX9_seekWay 171 = .ok (.iinc 7 1, 3) := by decide +kernel
theorem dX9_seekWay_174 : decode cX9_seekWay 174 = .ok (.goto (-131), 3) := by decide +kernel
theorem dX9_seekWay_177 : decode cX9_seekWay 177 = .ok (.iconst 0, 1) := by decide +kernel
theorem dX9_seekWay_178 : decode cX9_seekWay 178 = .ok (.ireturn, 1) := by decide +kernel
theorem dX9_wayStreet_0 : decode cX9_wayStreet 0 = .ok (.iload_n 1, 1) := by decide +kernel
theorem dX9_wayStreet_1 : decode cX9_wayStreet 1 = .ok (.ifCond .lt 26, 3) := by decide +kernel
theorem dX9_wayStreet_4 : decode cX9_wayStreet 4 = .ok (.iload_n 1, 1) := by decide +kernel
theorem dX9_wayStreet_5 : decode cX9_wayStreet 5 = .ok (.iload_n 2, 1) := by decide +kernel
theorem dX9_wayStreet_6 : decode cX9_wayStreet 6 = .ok (.if_icmp .ge 21, 3) := by decide +kernel
theorem dX9_wayStreet_9 : decode cX9_wayStreet 9 = .ok (.iload_n 1, 1) := by decide +kernel
theorem dX9_wayStreet_10 : decode cX9_wayStreet 10 = .ok (.aload_n 0, 1) := by decide +kernel
theorem dX9_wayStreet_11 : decode cX9_wayStreet 11 = .ok (.getfield 25, 3) := by decide +kernel
theorem dX9_wayStreet_14 : decode cX9_wayStreet 14 = .ok (.arraylength, 1) := by decide +kernel
theorem dX9_wayStreet_15 : decode cX9_wayStreet 15 = .ok (.if_icmp .ge 12, 3) := by decide +kernel
theorem dX9_wayStreet_18 : decode cX9_wayStreet 18 = .ok (.aload_n 0, 1) := by decide +kernel
theorem dX9_wayStreet_19 : decode cX9_wayStreet 19 = .ok (.getfield 25, 3) := by decide +kernel
theorem dX9_wayStreet_22 : decode cX9_wayStreet 22 = .ok (.iload_n 1, 1) := by decide +kernel
theorem dX9_wayStreet_23 : decode cX9_wayStreet 23 = .ok (.iaload, 1) := by decide +kernel
theorem dX9_wayStreet_24 : decode cX9_wayStreet 24 = .ok (.goto 4, 3) := by decide +kernel
theorem dX9_wayStreet_27 : decode cX9_wayStreet 27 = .ok (.iconst (-1), 1) := by decide +kernel
theorem dX9_wayStreet_28 : decode cX9_wayStreet 28 = .ok (.ireturn, 1) := by decide +kernel
theorem dX9_tunesBehind_0 : decode cX9_tunesBehind 0 = .ok (.aload_n 0, 1) := by decide +kernel
theorem dX9_tunesBehind_1 : decode cX9_tunesBehind 1 = .ok (.iconst 0, 1) := by decide +kernel
theorem dX9_tunesBehind_2 : decode cX9_tunesBehind 2 = .ok (.putfield 97, 3) := by decide +kernel
theorem dX9_tunesBehind_5 : decode cX9_tunesBehind 5 = .ok (.iconst 0, 1) := by decide +kernel
theorem dX9_tunesBehind_6 : decode cX9_tunesBehind 6 = .ok (.istore_n 2, 1) := by decide +kernel
theorem dX9_tunesBehind_7 : decode cX9_tunesBehind 7 = .ok (.iload_n 2, 1) := by decide +kernel
theorem dX9_tunesBehind_8 : decode cX9_tunesBehind 8 = .ok (.aload_n 0, 1) := by decide +kernel
theorem dX9_tunesBehind_9 : decode cX9_tunesBehind 9 = .ok (.getfield 29, 3) := by decide +kernel
theorem dX9_tunesBehind_12 : decode cX9_tunesBehind 12 = .ok (.arraylength, 1) := by decide +kernel
theorem dX9_tunesBehind_13 : decode cX9_tunesBehind 13 = .ok (.if_icmp .ge 16, 3) := by decide +kernel
theorem dX9_tunesBehind_16 : decode cX9_tunesBehind 16 = .ok (.aload_n 0, 1) := by decide +kernel
theorem dX9_tunesBehind_17 : decode cX9_tunesBehind 17 = .ok (.getfield 29, 3) := by decide +kernel
theorem dX9_tunesBehind_20 : decode cX9_tunesBehind 20 = .ok (.iload_n 2, 1) := by decide +kernel
theorem dX9_tunesBehind_21 : decode cX9_tunesBehind 21 = .ok (.lconst 0, 1) := by decide +kernel
theorem dX9_tunesBehind_22 : decode cX9_tunesBehind 22 = .ok (.lastore, 1) := by decide +kernel
theorem dX9_tunesBehind_23 : decode cX9_tunesBehind 23 = .ok (.iinc 2 1, 3) := by decide +kernel
theorem dX9_tunesBehind_26 : decode cX9_tunesBehind 26 = .ok (.goto (-19), 3) := by decide +kernel
theorem dX9_tunesBehind_29 : decode cX9_tunesBehind 29 = .ok (.aload_n 0, 1) := by decide +kernel
theorem dX9_tunesBehind_30 : decode cX9_tunesBehind 30 = .ok (.aload_n 0, 1) := by decide +kernel
theorem dX9_tunesBehind_31 : decode cX9_tunesBehind 31 = .ok (.getfield 21, 3) := by decide +kernel
theorem dX9_tunesBehind_34 : decode cX9_tunesBehind 34 = .ok (.getfield 54, 3) := by decide +kernel
theorem dX9_tunesBehind_37 : decode cX9_tunesBehind 37 = .ok (.aload_n 0, 1) := by decide +kernel
theorem dX9_tunesBehind_38 : decode cX9_tunesBehind 38 = .ok (.getfield 21, 3) := by decide +kernel
theorem dX9_tunesBehind_41 : decode cX9_tunesBehind 41 = .ok (.getfield 51, 3) := by decide +kernel
theorem dX9_tunesBehind_44 : decode cX9_tunesBehind 44 = .ok (.iload_n 1, 1) := by decide +kernel
theorem dX9_tunesBehind_45 : decode cX9_tunesBehind 45 = .ok (.iconst 3, 1) := by decide +kernel
theorem dX9_tunesBehind_46 : decode cX9_tunesBehind 46 = .ok (.invokestatic 100, 3) := by decide +kernel
theorem dX9_tunesBehind_49 : decode cX9_tunesBehind 49 = .ok (.invokevirtual 106, 3) := by decide +kernel
theorem dX9_tunesBehind_52 : decode cX9_tunesBehind 52 = .ok (.aload_n 0, 1) := by decide +kernel
theorem dX9_tunesBehind_53 : decode cX9_tunesBehind 53 = .ok (.getfield 97, 3) := by decide +kernel
theorem dX9_tunesBehind_56 : decode cX9_tunesBehind 56 = .ok (.ireturn, 1) := by decide +kernel
theorem dX9_meetTunes_0 : decode cX9_meetTunes 0 = .ok (.iload 4, 2) := by decide +kernel
theorem dX9_meetTunes_2 : decode cX9_meetTunes 2 = .ok (.ifCond .gt 9, 3) := by decide +kernel
theorem dX9_meetTunes_5 : decode cX9_meetTunes 5 = .ok (.aload_n 0, 1) := by decide +kernel
theorem dX9_meetTunes_6 : decode cX9_meetTunes 6 = .ok (.lload_n 1, 1) := by decide +kernel
theorem dX9_meetTunes_7 : decode cX9_meetTunes 7 = .ok (.invokevirtual 110, 3) := by decide +kernel
theorem dX9_meetTunes_10 : decode cX9_meetTunes 10 = .ok (.return_, 1) := by decide +kernel
theorem dX9_meetTunes_11 : decode cX9_meetTunes 11 = .ok (.iconst 0, 1) := by decide +kernel
theorem dX9_meetTunes_12 : decode cX9_meetTunes 12 = .ok (.istore 5, 2) := by decide +kernel
theorem dX9_meetTunes_14 : decode cX9_meetTunes 14 = .ok (.iload 5, 2) := by decide +kernel
theorem dX9_meetTunes_16 : decode cX9_meetTunes 16 = .ok (.aload_n 0, 1) := by decide +kernel
theorem dX9_meetTunes_17 : decode cX9_meetTunes 17 = .ok (.getfield 12, 3) := by decide +kernel
theorem dX9_meetTunes_20 : decode cX9_meetTunes 20 = .ok (.getfield 47, 3) := by decide +kernel
theorem dX9_meetTunes_23 : decode cX9_meetTunes 23 = .ok (.if_icmp .ge 53, 3) := by decide +kernel
theorem dX9_meetTunes_26 : decode cX9_meetTunes 26 = .ok (.aload_n 0, 1) := by decide +kernel
theorem dX9_meetTunes_27 : decode cX9_meetTunes 27 = .ok (.iload_n 3, 1) := by decide +kernel
theorem dX9_meetTunes_28 : decode cX9_meetTunes 28 = .ok (.iload 5, 2) := by decide +kernel
theorem dX9_meetTunes_30 : decode cX9_meetTunes 30 = .ok (.lload_n 1, 1) := by decide +kernel
theorem dX9_meetTunes_31 : decode cX9_meetTunes 31 = .ok (.invokevirtual 58, 3) := by decide +kernel
theorem dX9_meetTunes_34 : decode cX9_meetTunes 34 = .ok (.astore 6, 2) := by decide +kernel
theorem dX9_meetTunes_36 : decode cX9_meetTunes 36 = .ok (.aload 6, 2) := by decide +kernel
theorem dX9_meetTunes_38 : decode cX9_meetTunes 38 = .ok (.ifnull 32, 3) := by decide +kernel
theorem dX9_meetTunes_41 : decode cX9_meetTunes 41 = .ok (.aload_n 0, 1) := by decide +kernel
theorem dX9_meetTunes_42 : decode cX9_meetTunes 42 = .ok (.aload 6, 2) := by decide +kernel
theorem dX9_meetTunes_44 : decode cX9_meetTunes 44 = .ok (.lload_n 1, 1) := by decide +kernel
theorem dX9_meetTunes_45 : decode cX9_meetTunes 45 = .ok (.aload_n 0, 1) := by decide +kernel
theorem dX9_meetTunes_46 : decode cX9_meetTunes 46 = .ok (.getfield 21, 3) := by decide +kernel
theorem dX9_meetTunes_49 : decode cX9_meetTunes 49 = .ok (.iload 5, 2) := by decide +kernel
theorem dX9_meetTunes_51 : decode cX9_meetTunes 51 = .ok (.invokevirtual 62, 3) := by decide +kernel
theorem dX9_meetTunes_54 : decode cX9_meetTunes 54 = .ok (.invokevirtual 66, 3) := by decide +kernel
theorem dX9_meetTunes_57 : decode cX9_meetTunes 57 = .ok (.aload 6, 2) := by decide +kernel
theorem dX9_meetTunes_59 : decode cX9_meetTunes 59 = .ok (.iload_n 3, 1) := by decide +kernel
theorem dX9_meetTunes_60 : decode cX9_meetTunes 60 = .ok (.invokevirtual 90, 3) := by decide +kernel
theorem dX9_meetTunes_63 : decode cX9_meetTunes 63 = .ok (.iload 4, 2) := by decide +kernel
theorem dX9_meetTunes_65 : decode cX9_meetTunes 65 = .ok (.iconst 1, 1) := by decide +kernel
theorem dX9_meetTunes_66 : decode cX9_meetTunes 66 = .ok (.isub, 1) := by decide +kernel
theorem dX9_meetTunes_67 : decode cX9_meetTunes 67 = .ok (.invokevirtual 106, 3) := by decide +kernel
theorem dX9_meetTunes_70 : decode cX9_meetTunes 70 = .ok (.iinc 5 1, 3) := by decide +kernel
theorem dX9_meetTunes_73 : decode cX9_meetTunes 73 = .ok (.goto (-59), 3) := by decide +kernel
theorem dX9_meetTunes_76 : decode cX9_meetTunes 76 = .ok (.return_, 1) := by decide +kernel
theorem dX9_meet_0 : decode cX9_meet 0 = .ok (.lload_n 1, 1) := by decide +kernel
theorem dX9_meet_1 : decode cX9_meet 1 = .ok (.ldc2_w 114, 3) := by decide +kernel
theorem dX9_meet_4 : decode cX9_meet 4 = .ok (.lrem, 1) := by decide +kernel
theorem dX9_meet_5 : decode cX9_meet 5 = .ok (.l2i, 1) := by decide +kernel
theorem dX9_meet_6 : decode cX9_meet 6 = .ok (.istore_n 3, 1) := by decide +kernel
theorem dX9_meet_7 : decode cX9_meet 7 = .ok (.iconst 0, 1) := by decide +kernel
theorem dX9_meet_8 : decode cX9_meet 8 = .ok (.istore 4, 2) := by decide +kernel
theorem dX9_meet_10 : decode cX9_meet 10 = .ok (.iload 4, 2) := by decide +kernel
theorem dX9_meet_12 : decode cX9_meet 12 = .ok (.sipush 1024, 3) := by decide +kernel
theorem dX9_meet_15 : decode cX9_meet 15 = .ok (.if_icmp .ge 68, 3) := by decide +kernel
theorem dX9_meet_18 : decode cX9_meet 18 = .ok (.iload_n 3, 1) := by decide +kernel
theorem dX9_meet_19 : decode cX9_meet 19 = .ok (.ifCond .lt 12, 3) := by decide +kernel
theorem dX9_meet_22 : decode cX9_meet 22 = .ok (.iload_n 3, 1) := by decide +kernel
theorem dX9_meet_23 : decode cX9_meet 23 = .ok (.aload_n 0, 1) := by decide +kernel
theorem dX9_meet_24 : decode cX9_meet 24 = .ok (.getfield 29, 3) := by decide +kernel
theorem dX9_meet_27 : decode cX9_meet 27 = .ok (.arraylength, 1) := by decide +kernel
theorem dX9_meet_28 : decode cX9_meet 28 = .ok (.if_icmp .lt 5, 3) := by decide +kernel
