theorem dX9_meet_31 : decode cX9_meet 31 = .ok (.iconst 0, 1) := by decide +kernel
theorem dX9_meet_32 : decode cX9_meet 32 = .ok (.istore_n 3, 1) := by decide +kernel
theorem dX9_meet_33 : decode cX9_meet 33 = .ok (.aload_n 0, 1) := by decide +kernel
theorem dX9_meet_34 : decode cX9_meet 34 = .ok (.getfield 29, 3) := by decide +kernel
theorem dX9_meet_37 : decode cX9_meet 37 = .ok (.iload_n 3, 1) := by decide +kernel
theorem dX9_meet_38 : decode cX9_meet 38 = .ok (.laload, 1) := by decide +kernel
theorem dX9_meet_39 : decode cX9_meet 39 = .ok (.lload_n 1, 1) := by decide +kernel
theorem dX9_meet_40 : decode cX9_meet 40 = .ok (.lcmp, 1) := by decide +kernel
theorem dX9_meet_41 : decode cX9_meet 41 = .ok (.ifCond .ne 4, 3) := by decide +kernel
theorem dX9_meet_44 : decode cX9_meet 44 = .ok (.return_, 1) := by decide +kernel
theorem dX9_meet_45 : decode cX9_meet 45 = .ok (.aload_n 0, 1) := by decide +kernel
theorem dX9_meet_46 : decode cX9_meet 46 = .ok (.getfield 29, 3) := by decide +kernel
theorem dX9_meet_49 : decode cX9_meet 49 = .ok (.iload_n 3, 1) := by decide +kernel
theorem dX9_meet_50 : decode cX9_meet 50 = .ok (.laload, 1) := by decide +kernel
theorem dX9_meet_51 : decode cX9_meet 51 = .ok (.lconst 0, 1) := by decide +kernel
theorem dX9_meet_52 : decode cX9_meet 52 = .ok (.lcmp, 1) := by decide +kernel
theorem dX9_meet_53 : decode cX9_meet 53 = .ok (.ifCond .ne 21, 3) := by decide +kernel
theorem dX9_meet_56 : decode cX9_meet 56 = .ok (.aload_n 0, 1) := by decide +kernel
theorem dX9_meet_57 : decode cX9_meet 57 = .ok (.getfield 29, 3) := by decide +kernel
theorem dX9_meet_60 : decode cX9_meet 60 = .ok (.iload_n 3, 1) := by decide +kernel
theorem dX9_meet_61 : decode cX9_meet 61 = .ok (.lload_n 1, 1) := by decide +kernel
theorem dX9_meet_62 : decode cX9_meet 62 = .ok (.lastore, 1) := by decide +kernel
theorem dX9_meet_63 : decode cX9_meet 63 = .ok (.aload_n 0, 1) := by decide +kernel
theorem dX9_meet_64 : decode cX9_meet 64 = .ok (.dup, 1) := by decide +kernel
theorem dX9_meet_65 : decode cX9_meet 65 = .ok (.getfield 97, 3) := by decide +kernel
theorem dX9_meet_68 : decode cX9_meet 68 = .ok (.iconst 1, 1) := by decide +kernel
theorem dX9_meet_69 : decode cX9_meet 69 = .ok (.iadd, 1) := by decide +kernel
theorem dX9_meet_70 : decode cX9_meet 70 = .ok (.putfield 97, 3) := by decide +kernel
theorem dX9_meet_73 : decode cX9_meet 73 = .ok (.return_, 1) := by decide +kernel
theorem dX9_meet_74 : decode cX9_meet 74 = .ok (.iinc 3 1, 3) := by decide +kernel
theorem dX9_meet_77 : decode cX9_meet 77 = .ok (.iinc 4 1, 3) := by decide +kernel
theorem dX9_meet_80 : decode cX9_meet 80 = .ok (.goto (-70), 3) := by decide +kernel
theorem dX9_meet_83 : decode cX9_meet 83 = .ok (.return_, 1) := by decide +kernel
theorem dX9_wanderOff_0 : decode cX9_wanderOff 0 = .ok (.aload_n 0, 1) := by decide +kernel
theorem dX9_wanderOff_1 : decode cX9_wanderOff 1 = .ok (.getfield 21, 3) := by decide +kernel
theorem dX9_wanderOff_4 : decode cX9_wanderOff 4 = .ok (.getfield 54, 3) := by decide +kernel
theorem dX9_wanderOff_7 : decode cX9_wanderOff 7 = .ok (.lstore_n 3, 1) := by decide +kernel
theorem dX9_wanderOff_8 : decode cX9_wanderOff 8 = .ok (.aload_n 0, 1) := by decide +kernel
theorem dX9_wanderOff_9 : decode cX9_wanderOff 9 = .ok (.iconst 0, 1) := by decide +kernel
theorem dX9_wanderOff_10 : decode cX9_wanderOff 10 = .ok (.putfield 116, 3) := by decide +kernel
theorem dX9_wanderOff_13 : decode cX9_wanderOff 13 = .ok (.aload_n 0, 1) := by decide +kernel
theorem dX9_wanderOff_14 : decode cX9_wanderOff 14 = .ok (.aload_n 0, 1) := by decide +kernel
theorem dX9_wanderOff_15 : decode cX9_wanderOff 15 = .ok (.getfield 21, 3) := by decide +kernel
theorem dX9_wanderOff_18 : decode cX9_wanderOff 18 = .ok (.getfield 51, 3) := by decide +kernel
theorem dX9_wanderOff_21 : decode cX9_wanderOff 21 = .ok (.putfield 119, 3) := by decide +kernel
theorem dX9_wanderOff_24 : decode cX9_wanderOff 24 = .ok (.aload_n 0, 1) := by decide +kernel
theorem dX9_wanderOff_25 : decode cX9_wanderOff 25 = .ok (.iload_n 2, 1) := by decide +kernel
theorem dX9_wanderOff_26 : decode cX9_wanderOff 26 = .ok (.i2l, 1) := by decide +kernel
theorem dX9_wanderOff_27 : decode cX9_wanderOff 27 = .ok (.putfield 122, 3) := by decide +kernel
theorem dX9_wanderOff_30 : decode cX9_wanderOff 30 = .ok (.iconst 0, 1) := by decide +kernel
theorem dX9_wanderOff_31 : decode cX9_wanderOff 31 = .ok (.istore 5, 2) := by decide +kernel
theorem dX9_wanderOff_33 : decode cX9_wanderOff 33 = .ok (.iload 5, 2) := by decide +kernel
theorem dX9_wanderOff_35 : decode cX9_wanderOff 35 = .ok (.iload_n 1, 1) := by decide +kernel
theorem dX9_wanderOff_36 : decode cX9_wanderOff 36 = .ok (.if_icmp .ge 95, 3) := by decide +kernel
theorem dX9_wanderOff_39 : decode cX9_wanderOff 39 = .ok (.iload 5, 2) := by decide +kernel
theorem dX9_wanderOff_41 : decode cX9_wanderOff 41 = .ok (.bipush 60, 2) := by decide +kernel
theorem dX9_wanderOff_43 : decode cX9_wanderOff 43 = .ok (.if_icmp .ge 88, 3) := by decide +kernel
theorem dX9_wanderOff_46 : decode cX9_wanderOff 46 = .ok (.aload_n 0, 1) := by decide +kernel
theorem dX9_wanderOff_47 : decode cX9_wanderOff 47 = .ok (.aload_n 0, 1) := by decide +kernel
theorem dX9_wanderOff_48 : decode cX9_wanderOff 48 = .ok (.getfield 119, 3) := by decide +kernel
theorem dX9_wanderOff_51 : decode cX9_wanderOff 51 = .ok (.invokevirtual 125, 3) := by decide +kernel
theorem dX9_wanderOff_54 : decode cX9_wanderOff 54 = .ok (.istore 6, 2) := by decide +kernel
theorem dX9_wanderOff_56 : decode cX9_wanderOff 56 = .ok (.aload_n 0, 1) := by decide +kernel
theorem dX9_wanderOff_57 : decode cX9_wanderOff 57 = .ok (.aload_n 0, 1) := by decide +kernel
theorem dX9_wanderOff_58 : decode cX9_wanderOff 58 = .ok (.getfield 119, 3) := by decide +kernel
theorem dX9_wanderOff_61 : decode cX9_wanderOff 61 = .ok (.iload 6, 2) := by decide +kernel
theorem dX9_wanderOff_63 : decode cX9_wanderOff 63 = .ok (.lload_n 3, 1) := by decide +kernel
theorem dX9_wanderOff_64 : decode cX9_wanderOff 64 = .ok (.invokevirtual 58, 3) := by decide +kernel
theorem dX9_wanderOff_67 : decode cX9_wanderOff 67 = .ok (.astore 7, 2) := by decide +kernel
theorem dX9_wanderOff_69 : decode cX9_wanderOff 69 = .ok (.aload 7, 2) := by decide +kernel
theorem dX9_wanderOff_71 : decode cX9_wanderOff 71 = .ok (.ifnull 32, 3) := by decide +kernel
theorem dX9_wanderOff_74 : decode cX9_wanderOff 74 = .ok (.aload 7, 2) := by decide +kernel
theorem dX9_wanderOff_76 : decode cX9_wanderOff 76 = .ok (.lload_n 3, 1) := by decide +kernel
theorem dX9_wanderOff_77 : decode cX9_wanderOff 77 = .ok (.aload_n 0, 1) := by decide +kernel
theorem dX9_wanderOff_78 : decode cX9_wanderOff 78 = .ok (.getfield 21, 3) := by decide +kernel
theorem dX9_wanderOff_81 : decode cX9_wanderOff 81 = .ok (.iload 6, 2) := by decide +kernel
theorem dX9_wanderOff_83 : decode cX9_wanderOff 83 = .ok (.invokevirtual 62, 3) := by decide +kernel
theorem dX9_wanderOff_86 : decode cX9_wanderOff 86 = .ok (.invokevirtual 66, 3) := by decide +kernel
theorem dX9_wanderOff_89 : decode cX9_wanderOff 89 = .ok (.lstore_n 3, 1) := by decide +kernel
theorem dX9_wanderOff_90 : decode cX9_wanderOff 90 = .ok (.aload_n 0, 1) := by decide +kernel
theorem dX9_wanderOff_91 : decode cX9_wanderOff 91 = .ok (.aload 7, 2) := by decide +kernel
theorem dX9_wanderOff_93 : decode cX9_wanderOff 93 = .ok (.aload_n 0, 1) := by decide +kernel
theorem dX9_wanderOff_94 : decode cX9_wanderOff 94 = .ok (.getfield 119, 3) := by decide +kernel
theorem dX9_wanderOff_97 : decode cX9_wanderOff 97 = .ok (.invokevirtual 90, 3) := by decide +kernel
theorem dX9_wanderOff_100 : decode cX9_wanderOff 100 = .ok (.putfield 119, 3) := by decide +kernel
theorem dX9_wanderOff_103 : decode cX9_wanderOff 103 = .ok (.lload_n 3, 1) := by decide +kernel
theorem dX9_wanderOff_104 : decode cX9_wanderOff 104 = .ok (.aload_n 0, 1) := by decide +kernel
theorem dX9_wanderOff_105 : decode cX9_wanderOff 105 = .ok (.getfield 21, 3) := by decide +kernel
theorem dX9_wanderOff_108 : decode cX9_wanderOff 108 = .ok (.getfield 70, 3) := by decide +kernel
theorem dX9_wanderOff_111 : decode cX9_wanderOff 111 = .ok (.lcmp, 1) := by decide +kernel
theorem dX9_wanderOff_112 : decode cX9_wanderOff 112 = .ok (.ifCond .ne 13, 3) := by decide +kernel
theorem dX9_wanderOff_115 : decode cX9_wanderOff 115 = .ok (.aload_n 0, 1) := by decide +kernel
theorem dX9_wanderOff_116 : decode cX9_wanderOff 116 = .ok (.dup, 1) := by decide +kernel
theorem dX9_wanderOff_117 : decode cX9_wanderOff 117 = .ok (.getfield 116, 3) := by decide +kernel
theorem dX9_wanderOff_120 : decode cX9_wanderOff 120 = .ok (.iconst 1, 1) := by decide +kernel
theorem dX9_wanderOff_121 : decode cX9_wanderOff 121 = .ok (.iadd, 1) := by decide +kernel
theorem dX9_wanderOff_122 : decode cX9_wanderOff 122 = .ok (.putfield 116, 3) := by decide +kernel
theorem dX9_wanderOff_125 : decode cX9_wanderOff 125 = .ok (.iinc 5 1, 3) := by decide +kernel
theorem dX9_wanderOff_128 : decode cX9_wanderOff 128 = .ok (.goto (-95), 3) := by decide +kernel
theorem dX9_wanderOff_131 : decode cX9_wanderOff 131 = .ok (.return_, 1) := by decide +kernel
theorem dX9_drawStreet_0 : decode cX9_drawStreet 0 = .ok (.aload_n 0, 1) := by decide +kernel
theorem dX9_drawStreet_1 : decode cX9_drawStreet 1 = .ok (.getfield 12, 3) := by decide +kernel
theorem dX9_drawStreet_4 : decode cX9_drawStreet 4 = .ok (.iload_n 1, 1) := by decide +kernel
theorem dX9_drawStreet_5 : decode cX9_drawStreet 5 = .ok (.invokevirtual 128, 3) := by decide +kernel
theorem dX9_drawStreet_8 : decode cX9_drawStreet 8 = .ok (.istore_n 2, 1) := by decide +kernel
theorem dX9_drawStreet_9 : decode cX9_drawStreet 9 = .ok (.iload_n 2, 1) := by decide +kernel
theorem dX9_drawStreet_10 : decode cX9_drawStreet 10 = .ok (.ifCond .gt 5, 3) := by decide +kernel
theorem dX9_drawStreet_13 : decode cX9_drawStreet 13 = .ok (.iconst (-1), 1) := by decide +kernel
theorem dX9_drawStreet_14 : decode cX9_drawStreet 14 = .ok (.ireturn, 1) := by decide +kernel
theorem dX9_drawStreet_15 : decode cX9_drawStreet 15 = .ok (.aload_n 0, 1) := by decide +kernel
theorem dX9_drawStreet_16 : decode cX9_drawStreet 16 = .ok (.ldc2_w 131, 3) := by decide +kernel
theorem dX9_drawStreet_19 : decode cX9_drawStreet 19 = .ok (.aload_n 0, 1) := by decide +kernel
theorem dX9_drawStreet_20 : decode cX9_drawStreet 20 = .ok (.getfield 122, 3) := by decide +kernel
theorem dX9_drawStreet_23 : decode cX9_drawStreet 23 = .ok (.lmul, 1) := by decide +kernel
theorem dX9_drawStreet_24 : decode cX9_drawStreet 24 = .ok (.ldc2_w 133, 3) := by decide +kernel
theorem dX9_drawStreet_27 : decode cX9_drawStreet 27 = .ok (.ladd, 1) := by decide +kernel
theorem dX9_drawStreet_28 : decode cX9_drawStreet 28 = .ok (.ldc2_w 135, 3) := by decide +kernel
theorem dX9_drawStreet_31 : decode cX9_drawStreet 31 = .ok (.lrem, 1) := by decide +kernel
theorem dX9_drawStreet_32 : decode cX9_drawStreet 32 = .ok (.putfield 122, 3) := by decide +kernel
theorem dX9_drawStreet_35 : decode cX9_drawStreet 35 = .ok (.aload_n 0, 1) := by decide +kernel
theorem dX9_drawStreet_36 : decode cX9_drawStreet 36 = .ok (.getfield 12, 3) := by decide +kernel
theorem dX9_drawStreet_39 : decode cX9_drawStreet 39 = .ok (.iload_n 1, 1) := by decide +kernel
theorem dX9_drawStreet_40 : decode cX9_drawStreet 40 = .ok (.aload_n 0, 1) := by decide +kernel
theorem dX9_drawStreet_41 : decode cX9_drawStreet 41 = .ok (.getfield 122, 3) := by decide +kernel
theorem dX9_drawStreet_44 : decode cX9_drawStreet 44 = .ok (.ldc2_w 137, 3) := by decide +kernel
theorem dX9_drawStreet_47 : decode cX9_drawStreet 47 = .ok (.ldiv, 1) := by decide +kernel
theorem dX9_drawStreet_48 : decode cX9_drawStreet 48 = .ok (.iload_n 2, 1) := by decide +kernel
theorem dX9_drawStreet_49 : decode cX9_drawStreet 49 = .ok (.i2l, 1) := by decide +kernel
theorem dX9_drawStreet_50 : decode cX9_drawStreet 50 = .ok (.lrem, 1) := by decide +kernel
theorem dX9_drawStreet_51 : decode cX9_drawStreet 51 = .ok (.l2i, 1) := by decide +kernel
theorem dX9_drawStreet_52 : decode cX9_drawStreet 52 = .ok (.invokevirtual 139, 3) := by decide +kernel
theorem dX9_drawStreet_55 : decode cX9_drawStreet 55 = .ok (.ireturn, 1) := by decide +kernel
theorem dX10_init_0 : decode cX10_init 0 = .ok (.aload_n 0, 1) := by decide +kernel
theorem dX10_init_1 : decode cX10_init 1 = .ok (.invokespecial 1, 3) := by decide +kernel
theorem dX10_init_4 : decode cX10_init 4 = .ok (.aload_n 0, 1) := by decide +kernel
theorem dX10_init_5 : decode cX10_init 5 = .ok (.new 7, 3) := by decide +kernel
theorem dX10_init_8 : decode cX10_init 8 = .ok (.dup, 1) := by decide +kernel
theorem dX10_init_9 : decode cX10_init 9 = .ok (.invokespecial 9, 3) := by decide +kernel
theorem dX10_init_12 : decode cX10_init 12 = .ok (.putfield 10, 3) := by decide +kernel
theorem dX10_init_15 : decode cX10_init 15 = .ok (.aload_n 0, 1) := by decide +kernel
theorem dX10_init_16 : decode cX10_init 16 = .ok (.new 16, 3) := by decide +kernel
theorem dX10_init_19 : decode cX10_init 19 = .ok (.dup, 1) := by decide +kernel
theorem dX10_init_20 : decode cX10_init 20 = .ok (.invokespecial 18, 3) := by decide +kernel
theorem dX10_init_23 : decode cX10_init 23 = .ok (.putfield 19, 3) := by decide +kernel
theorem dX10_init_26 : decode cX10_init 26 = .ok (.aload_n 0, 1) := by decide +kernel
theorem dX10_init_27 : decode cX10_init 27 = .ok (.aload_n 0, 1) := by decide +kernel
theorem dX10_init_28 : decode cX10_init 28 = .ok (.getfield 19, 3) := by decide +kernel
theorem dX10_init_31 : decode cX10_init 31 = .ok (.getfield 23, 3) := by decide +kernel
theorem dX10_init_34 : decode cX10_init 34 = .ok (.putfield 27, 3) := by decide +kernel
theorem dX10_init_37 : decode cX10_init 37 = .ok (.aload_n 0, 1) := by decide +kernel
theorem dX10_init_38 : decode cX10_init 38 = .ok (.aload_n 0, 1) := by decide +kernel
theorem dX10_init_39 : decode cX10_init 39 = .ok (.getfield 19, 3) := by decide +kernel
theorem dX10_init_42 : decode cX10_init 42 = .ok (.getfield 28, 3) := by decide +kernel
theorem dX10_init_45 : decode cX10_init 45 = .ok (.putfield 32, 3) := by decide +kernel
theorem dX10_init_48 : decode cX10_init 48 = .ok (.aload_n 0, 1) := by decide +kernel
theorem dX10_init_49 : decode cX10_init 49 = .ok (.new 33, 3) := by decide +kernel
theorem dX10_init_52 : decode cX10_init 52 = .ok (.dup, 1) := by decide +kernel
theorem dX10_init_53 : decode cX10_init 53 = .ok (.invokespecial 35, 3) := by decide +kernel
theorem dX10_init_56 : decode cX10_init 56 = .ok (.putfield 36, 3) := by decide +kernel
theorem dX10_init_59 : decode cX10_init 59 = .ok (.return_, 1) := by decide +kernel
theorem dX10_letter_0 : decode cX10_letter 0 = .ok (.iload_n 1, 1) := by decide +kernel
theorem dX10_letter_1 : decode cX10_letter 1 = .ok (.iconst 1, 1) := by decide +kernel
theorem dX10_letter_2 : decode cX10_letter 2 = .ok (.if_icmp .lt 9, 3) := by decide +kernel
theorem dX10_letter_5 : decode cX10_letter 5 = .ok (.iload_n 1, 1) := by decide +kernel
theorem dX10_letter_6 : decode cX10_letter 6 = .ok (.bipush 126, 2) := by decide +kernel
theorem dX10_letter_8 : decode cX10_letter 8 = .ok (.if_icmp .le 6, 3) := by decide +kernel
theorem dX10_letter_11 : decode cX10_letter 11 = .ok (.bipush (-102), 2) := by decide +kernel
theorem dX10_letter_13 : decode cX10_letter 13 = .ok (.ireturn, 1) := by decide +kernel
theorem dX10_letter_14 : decode cX10_letter 14 = .ok (.aload_n 0, 1) := by decide +kernel
theorem dX10_letter_15 : decode cX10_letter 15 = .ok (.getfield 10, 3) := by decide +kernel
theorem dX10_letter_18 : decode cX10_letter 18 = .ok (.getfield 39, 3) := by decide +kernel
theorem dX10_letter_21 : decode cX10_letter 21 = .ok (.bipush 44, 2) := by decide +kernel
theorem dX10_letter_23 : decode cX10_letter 23 = .ok (.if_icmp .lt 6, 3) := by decide +kernel
theorem dX10_letter_26 : decode cX10_letter 26 = .ok (.bipush (-104), 2) := by decide +kernel
theorem dX10_letter_28 : decode cX10_letter 28 = .ok (.ireturn, 1) := by decide +kernel
theorem dX10_letter_29 : decode cX10_letter 29 = .ok (.aload_n 0, 1) := by decide +kernel
theorem dX10_letter_30 : decode cX10_letter 30 = .ok (.getfield 10, 3) := by decide +kernel
theorem dX10_letter_33 : decode cX10_letter 33 = .ok (.iload_n 1, 1) := by decide +kernel
theorem dX10_letter_34 : decode cX10_letter 34 = .ok (.invokevirtual 43, 3) := by decide +kernel
theorem dX10_letter_37 : decode cX10_letter 37 = .ok (.aload_n 0, 1) := by decide +kernel
theorem dX10_letter_38 : decode cX10_letter 38 = .ok (.getfield 10, 3) := by decide +kernel
theorem dX10_letter_41 : decode cX10_letter 41 = .ok (.getfield 39, 3) := by decide +kernel
theorem dX10_letter_44 : decode cX10_letter 44 = .ok (.ireturn, 1) := by decide +kernel
theorem dX10_blank_0 : decode cX10_blank 0 = .ok (.aload_n 0, 1) := by decide +kernel
theorem dX10_blank_1 : decode cX10_blank 1 = .ok (.getfield 10, 3) := by decide +kernel
theorem dX10_blank_4 : decode cX10_blank 4 = .ok (.getfield 39, 3) := by decide +kernel
theorem dX10_blank_7 : decode cX10_blank 7 = .ok (.istore_n 1, 1) := by decide +kernel
theorem dX10_blank_8 : decode cX10_blank 8 = .ok (.aload_n 0, 1) := by decide +kernel
theorem dX10_blank_9 : decode cX10_blank 9 = .ok (.getfield 10, 3) := by decide +kernel
theorem dX10_blank_12 : decode cX10_blank 12 = .ok (.iconst 0, 1) := by decide +kernel
theorem dX10_blank_13 : decode cX10_blank 13 = .ok (.putfield 39, 3) := by decide +kernel
theorem dX10_blank_16 : decode cX10_blank 16 = .ok (.iload_n 1, 1) := by decide +kernel
theorem dX10_blank_17 : decode cX10_blank 17 = .ok (.ireturn, 1) := by decide +kernel
theorem dX10_fault_0 : decode cX10_fault 0 = .ok (.aload_n 0, 1) := by decide +kernel
theorem dX10_fault_1 : decode cX10_fault 1 = .ok (.getfield 10, 3) := by decide +kernel
theorem dX10_fault_4 : decode cX10_fault 4 = .ok (.invokevirtual 47, 3) := by decide +kernel
theorem dX10_fault_7 : decode cX10_fault 7 = .ok (.ireturn, 1) := by decide +kernel
theorem dX10_city_0 : decode cX10_city 0 = .ok (.aload_n 0, 1) := by decide +kernel
theorem dX10_city_1 : decode cX10_city 1 = .ok (.getfield 10, 3) := by decide +kernel
theorem dX10_city_4 : decode cX10_city 4 = .ok (.invokevirtual 51, 3) := by decide +kernel
theorem dX10_city_7 : decode cX10_city 7 = .ok (.ifCond .ne 6, 3) := by decide +kernel
theorem dX10_city_10 : decode cX10_city 10 = .ok (.bipush (-103), 2) := by decide +kernel
theorem dX10_city_12 : decode cX10_city 12 = .ok (.ireturn, 1) := by decide +kernel
theorem dX10_city_13 : decode cX10_city 13 = .ok (.aload_n 0, 1) := by decide +kernel
theorem dX10_city_14 : decode cX10_city 14 = .ok (.getfield 27, 3) := by decide +kernel
theorem dX10_city_17 : decode cX10_city 17 = .ok (.aload_n 0, 1) := by decide +kernel
theorem dX10_city_18 : decode cX10_city 18 = .ok (.getfield 10, 3) := by decide +kernel
theorem dX10_city_21 : decode cX10_city 21 = .ok (.invokevirtual 55, 3) := by decide +kernel
theorem dX10_city_24 : decode cX10_city 24 = .ok (.aload_n 0, 1) := by decide +kernel
theorem dX10_city_25 : decode cX10_city 25 = .ok (.getfield 32, 3) := by decide +kernel
theorem dX10_city_28 : decode cX10_city 28 = .ok (.aload_n 0, 1) := by decide +kernel
theorem dX10_city_29 : decode cX10_city 29 = .ok (.getfield 10, 3) := by decide +kernel
theorem dX10_city_32 : decode cX10_city 32 = .ok (.aload_n 0, 1) := by decide +kernel
theorem dX10_city_33 : decode cX10_city 33 = .ok (.getfield 27, 3) := by decide +kernel
theorem dX10_city_36 : decode cX10_city 36 = .ok (.getfield 61, 3) := by decide +kernel
theorem dX10_city_39 : decode cX10_city 39 = .ok (.invokevirtual 64, 3) := by decide +kernel
theorem dX10_city_42 : decode cX10_city 42 = .ok (.aload_n 0, 1) := by decide +kernel
theorem dX10_city_43 : decode cX10_city 43 = .ok (.getfield 10, 3) := by decide +kernel
theorem dX10_city_46 : decode cX10_city 46 = .ok (.iconst 0, 1) := by decide +kernel
theorem dX10_city_47 : decode cX10_city 47 = .ok (.putfield 39, 3) := by decide +kernel
theorem dX10_city_50 : decode cX10_city 50 = .ok (.aload_n 0, 1) := by decide +kernel
theorem dX10_city_51 : decode cX10_city 51 = .ok (.dup, 1) := by decide +kernel
theorem dX10_city_52 : decode cX10_city 52 = .ok (.getfield 68, 3) := by decide +kernel
theorem dX10_city_55 : decode cX10_city 55 = .ok (.iconst 1, 1) := by decide +kernel
theorem dX10_city_56 : decode cX10_city 56 = .ok (.iadd, 1) := by decide +kernel
theorem dX10_city_57 : decode cX10_city 57 = .ok (.putfield 68, 3) := by decide +kernel
theorem dX10_city_60 : decode cX10_city 60 = .ok (.aload_n 0, 1) := by decide +kernel
theorem dX10_city_61 : decode cX10_city 61 = .ok (.getfield 27, 3) := by decide +kernel
theorem dX10_city_64 : decode cX10_city 64 = .ok (.getfield 61, 3) := by decide +kernel
theorem dX10_city_67 : decode cX10_city 67 = .ok (.ireturn, 1) := by decide +kernel
theorem dX10_tune_0 : decode cX10_tune 0 = .ok (.iload_n 1, 1) := by decide +kernel
theorem dX10_tune_1 : decode cX10_tune 1 = .ok (.ifCond .eq 11, 3) := by decide +kernel
theorem dX10_tune_4 : decode cX10_tune 4 = .ok (.iload_n 1, 1) := by decide +kernel
theorem dX10_tune_5 : decode cX10_tune 5 = .ok (.iconst 1, 1) := by decide +kernel
theorem dX10_tune_6 : decode cX10_tune 6 = .ok (.if_icmp .eq 6, 3) := by decide +kernel
theorem dX10_tune_9 : decode cX10_tune 9 = .ok (.bipush (-101), 2) := by decide +kernel
theorem dX10_tune_11 : decode cX10_tune 11 = .ok (.ireturn, 1) := by decide +kernel
theorem dX10_tune_12 : decode cX10_tune 12 = .ok (.aload_n 0, 1) := by decide +kernel
theorem dX10_tune_13 : decode cX10_tune 13 = .ok (.getfield 10, 3) := by decide +kernel
theorem dX10_tune_16 : decode cX10_tune 16 = .ok (.invokevirtual 71, 3) := by decide +kernel
theorem dX10_tune_19 : decode cX10_tune 19 = .ok (.lstore_n 2, 1) := by decide +kernel
theorem dX10_tune_20 : decode cX10_tune 20 = .ok (.lload_n 2, 1) := by decide +kernel
theorem dX10_tune_21 : decode cX10_tune 21 = .ok (.lconst 0, 1) := by decide +kernel
theorem dX10_tune_22 : decode cX10_tune 22 = .ok (.lcmp, 1) := by decide +kernel
theorem dX10_tune_23 : decode cX10_tune 23 = .ok (.ifCond .ne 6, 3) := by decide +kernel
theorem dX10_tune_26 : decode cX10_tune 26 = .ok (.bipush (-103), 2) := by decide +kernel
theorem dX10_tune_28 : decode cX10_tune 28 = .ok (.ireturn, 1) := by decide +kernel
theorem dX10_tune_29 : decode cX10_tune 29 = .ok (.aload_n 0, 1) := by decide +kernel
theorem dX10_tune_30 : decode cX10_tune 30 = .ok (.getfield 32, 3) := by decide +kernel
theorem dX10_tune_33 : decode cX10_tune 33 = .ok (.iload_n 1, 1) := by decide +kernel
theorem dX10_tune_34 : decode cX10_tune 34 = .ok (.lload_n 2, 1) := by decide +kernel
theorem dX10_tune_35 : decode cX10_tune 35 = .ok (.invokevirtual 75, 3) := by decide +kernel
theorem dX10_tune_38 : decode cX10_tune 38 = .ok (.aload_n 0, 1) := by decide +kernel
theorem dX10_tune_39 : decode cX10_tune 39 = .ok (.getfield 10, 3) := by decide +kernel
theorem dX10_tune_42 : decode cX10_tune 42 = .ok (.iconst 0, 1) := by decide +kernel
theorem dX10_tune_43 : decode cX10_tune 43 = .ok (.putfield 39, 3) := by decide +kernel
theorem dX10_tune_46 : decode cX10_tune 46 = .ok (.lload_n 2, 1) := by decide +kernel
theorem dX10_tune_47 : decode cX10_tune 47 = .ok (.invokestatic 79, 3) := by decide +kernel
theorem dX10_tune_50 : decode cX10_tune 50 = .ok (.ireturn, 1) := by decide +kernel
theorem dX10_told_0 : decode cX10_told 0 = .ok (.aload_n 0, 1) := by decide +kernel
theorem dX10_told_1 : decode cX10_told 1 = .ok (.getfield 32, 3) := by decide +kernel
theorem dX10_told_4 : decode cX10_told 4 = .ok (.iload_n 1, 1) := by decide +kernel
theorem dX10_told_5 : decode cX10_told 5 = .ok (.invokevirtual 84, 3) := by decide +kernel
theorem dX10_told_8 : decode cX10_told 8 = .ok (.lstore_n 3, 1) := by decide +kernel
theorem dX10_told_9 : decode cX10_told 9 = .ok (.lload_n 3, 1) := by decide +kernel
theorem dX10_told_10 : decode cX10_told 10 = .ok (.lconst 0, 1) := by decide +kernel
theorem dX10_told_11 : decode cX10_told 11 = .ok (.lcmp, 1) := by decide +kernel
theorem dX10_told_12 : decode cX10_told 12 = .ok (.ifCond .ne 6, 3) := by decide +kernel
theorem dX10_told_15 : decode cX10_told 15 = .ok (.bipush (-101), 2) := by decide +kernel
theorem dX10_told_17 : decode cX10_told 17 = .ok (.ireturn, 1) := by decide +kernel
theorem dX10_told_18 : decode cX10_told 18 = .ok (.iload_n 2, 1) := by decide +kernel
theorem dX10_told_19 : decode cX10_told 19 = .ok (.tableswitch 62 0 4 #[33, 38, 43, 48, 57], 33) := by decide +kernel
theorem dX10_told_52 : decode cX10_told 52 = .ok (.lload_n 3, 1) := by decide +kernel
theorem dX10_told_53 : decode cX10_told 53 = .ok (.invokestatic 79, 3) := by decide +kernel
theorem dX10_told_56 : decode cX10_told 56 = .ok (.ireturn, 1) := by decide +kernel
theorem dX10_told_57 : decode cX10_told 57 = .ok (.lload_n 3, 1) := by decide +kernel
theorem dX10_told_58 : decode cX10_told 58 = .ok (.invokestatic 88, 3) := by decide +kernel
theorem dX10_told_61 : decode cX10_told 61 = .ok (.ireturn, 1) := by decide +kernel
theorem dX10_told_62 : decode cX10_told 62 = .ok (.lload_n 3, 1) := by decide +kernel
theorem dX10_told_63 : decode cX10_told 63 = .ok (.invokestatic 91, 3) := by decide +kernel
theorem dX10_told_66 : decode cX10_told 66 = .ok (.ireturn, 1) := by decide +kernel
theorem dX10_told_67 : decode cX10_told 67 = .ok (.lload_n 3, 1) := by decide +kernel
theorem dX10_told_68 : decode cX10_told 68 = .ok (.lload_n 3, 1) := by decide +kernel
theorem dX10_told_69 : decode cX10_told 69 = .ok (.invokestatic 91, 3) := by decide +kernel
theorem dX10_told_72 : decode cX10_told 72 = .ok (.invokestatic 94, 3) := by decide +kernel
theorem dX10_told_75 : decode cX10_told 75 = .ok (.ireturn, 1) := by decide +kernel
theorem dX10_told_76 : decode cX10_told 76 = .ok (.lload_n 3, 1) := by decide +kernel
theorem dX10_told_77 : decode cX10_told 77 = .ok (.invokestatic 98, 3) := by decide +kernel
theorem dX10_told_80 : decode cX10_told 80 = .ok (.ireturn, 1) := by decide +kernel
theorem dX10_told_81 : decode cX10_told 81 = .ok (.iload_n 2, 1) := by decide +kernel
theorem dX10_told_82 : decode cX10_told 82 = .ok (.bipush 10, 2) := by decide +kernel
theorem dX10_told_84 : decode cX10_told 84 = .ok (.if_icmp .lt 20, 3) := by decide +kernel
theorem dX10_told_87 : decode cX10_told 87 = .ok (.iload_n 2, 1) := by decide +kernel
theorem dX10_told_88 : decode cX10_told 88 = .ok (.bipush 18, 2) := by decide +kernel
theorem dX10_told_90 : decode cX10_told 90 = .ok (.if_icmp .ge 14, 3) := by decide +kernel
theorem dX10_told_93 : decode cX10_told 93 = .ok (.lload_n 3, 1) := by decide +kernel
theorem dX10_told_94 : decode cX10_told 94 = .ok (.iload_n 2, 1) := by decide +kernel
theorem dX10_told_95 : decode cX10_told 95 = .ok (.bipush 10, 2) := by decide +kernel
theorem dX10_told_97 : decode cX10_told 97 = .ok (.isub, 1) := by decide +kernel
theorem dX10_told_98 : decode cX10_told 98 = .ok (.invokestatic 101, 3) := by decide +kernel
theorem dX10_told_101 : decode cX10_told 101 = .ok (.goto 5, 3) := by decide +kernel
theorem dX10_told_104 : decode cX10_told 104 = .ok (.bipush (-102), 2) := by decide +kernel
theorem dX10_told_106 : decode cX10_told 106 = .ok (.ireturn, 1) := by decide +kernel
theorem dX10_street_0 : decode cX10_street 0 = .ok (.aload_n 0, 1) := by decide +kernel
theorem dX10_street_1 : decode cX10_street 1 = .ok (.getfield 27, 3) := by decide +kernel
theorem dX10_street_4 : decode cX10_street 4 = .ok (.iload_n 1, 1) := by decide +kernel
theorem dX10_street_5 : decode cX10_street 5 = .ok (.invokevirtual 104, 3) := by decide +kernel
theorem dX10_street_8 : decode cX10_street 8 = .ok (.astore_n 3, 1) := by decide +kernel
theorem dX10_street_9 : decode cX10_street 9 = .ok (.aload_n 3, 1) := by decide +kernel
theorem dX10_street_10 : decode cX10_street 10 = .ok (.ifnonnull 6, 3) := by decide +kernel
theorem dX10_street_13 : decode cX10_street 13 = .ok (.bipush (-101), 2) := by decide +kernel
theorem dX10_street_15 : decode cX10_street 15 = .ok (.ireturn, 1) := by decide +kernel
theorem dX10_street_16 : decode cX10_street 16 = .ok (.iload_n 2, 1) := by decide +kernel
theorem dX10_street_17 : decode cX10_street 17 = .ok (.tableswitch 129 0 8 #[51, 56, 61, 66, 75, 88, 102, 109, 120], 51) := by decide +kernel
theorem dX10_street_68 : decode cX10_street 68 = .ok (.aload_n 3, 1) := by decide +kernel
theorem dX10_street_69 : decode cX10_street 69 = .ok (.invokevirtual 108, 3) := by decide +kernel
theorem dX10_street_72 : decode cX10_street 72 = .ok (.ireturn, 1) := by decide +kernel
theorem dX10_street_73 : decode cX10_street 73 = .ok (.aload_n 3, 1) := by decide +kernel
theorem dX10_street_74 : decode cX10_street 74 = .ok (.getfield 113, 3) := by decide +kernel
theorem dX10_street_77 : decode cX10_street 77 = .ok (.ireturn, 1) := by decide +kernel
theorem dX10_street_78 : decode cX10_street 78 = .ok (.aload_n 3, 1) := by decide +kernel
theorem dX10_street_79 : decode cX10_street 79 = .ok (.getfield 116, 3) := by decide +kernel
theorem dX10_street_82 : decode cX10_street 82 = .ok (.ireturn, 1) := by decide +kernel
theorem dX10_street_83 : decode cX10_street 83 = .ok (.aload_n 0, 1) := by decide +kernel
theorem dX10_street_84 : decode cX10_street 84 = .ok (.getfield 32, 3) := by decide +kernel
theorem dX10_street_87 : decode cX10_street 87 = .ok (.iload_n 1, 1) := by decide +kernel
theorem dX10_street_88 : decode cX10_street 88 = .ok (.invokevirtual 119, 3) := by decide +kernel
theorem dX10_street_91 : decode cX10_street 91 = .ok (.ireturn, 1) := by decide +kernel
theorem dX10_street_92 : decode cX10_street 92 = .ok (.aload_n 3, 1) := by decide +kernel
theorem dX10_street_93 : decode cX10_street 93 = .ok (.aload_n 0, 1) := by decide +kernel
theorem dX10_street_94 : decode cX10_street 94 = .ok (.getfield 32, 3) := by decide +kernel
theorem dX10_street_97 : decode cX10_street 97 = .ok (.iload_n 1, 1) := by decide +kernel
theorem dX10_street_98 : decode cX10_street 98 = .ok (.invokevirtual 119, 3) := by decide +kernel
theorem dX10_street_101 : decode cX10_street 101 = .ok (.invokestatic 123, 3) := by decide +kernel
theorem dX10_street_104 : decode cX10_street 104 = .ok (.ireturn, 1) := by decide +kernel
theorem dX10_street_105 : decode cX10_street 105 = .ok (.aload_n 0, 1) := by decide +kernel
theorem dX10_street_106 : decode cX10_street 106 = .ok (.aload_n 3, 1) := by decide +kernel
theorem dX10_street_107 : decode cX10_street 107 = .ok (.aload_n 0, 1) := by decide +kernel
theorem dX10_street_108 : decode cX10_street 108 = .ok (.getfield 32, 3) := by decide +kernel
theorem dX10_street_111 : decode cX10_street 111 = .ok (.iload_n 1, 1) := by decide +kernel
theorem dX10_street_112 : decode cX10_street 112 = .ok (.invokevirtual 119, 3) := by decide +kernel
theorem dX10_street_115 : decode cX10_street 115 = .ok (.invokevirtual 127, 3) := by decide +kernel
theorem dX10_street_118 : decode cX10_street 118 = .ok (.ireturn, 1) := by decide +kernel
theorem dX10_street_119 : decode cX10_street 119 = .ok (.aload_n 0, 1) := by decide +kernel
theorem dX10_street_120 : decode cX10_street 120 = .ok (.aload_n 3, 1) := by decide +kernel
theorem dX10_street_121 : decode cX10_street 121 = .ok (.iload_n 1, 1) := by decide +kernel
theorem dX10_street_122 : decode cX10_street 122 = .ok (.invokevirtual 130, 3) := by decide +kernel
theorem dX10_street_125 : decode cX10_street 125 = .ok (.ireturn, 1) := by decide +kernel
theorem dX10_street_126 : decode cX10_street 126 = .ok (.aload_n 3, 1) := by decide +kernel
theorem dX10_street_127 : decode cX10_street 127 = .ok (.aload_n 0, 1) := by decide +kernel
theorem dX10_street_128 : decode cX10_street 128 = .ok (.aload_n 3, 1) := by decide +kernel
theorem dX10_street_129 : decode cX10_street 129 = .ok (.iload_n 1, 1) := by decide +kernel
theorem dX10_street_130 : decode cX10_street 130 = .ok (.invokevirtual 130, 3) := by decide +kernel
theorem dX10_street_133 : decode cX10_street 133 = .ok (.invokestatic 133, 3) := by decide +kernel
theorem dX10_street_136 : decode cX10_street 136 = .ok (.ireturn, 1) := by decide +kernel
theorem dX10_street_137 : decode cX10_street 137 = .ok (.aload_n 0, 1) := by decide +kernel
theorem dX10_street_138 : decode cX10_street 138 = .ok (.getfield 32, 3) := by decide +kernel
theorem dX10_street_141 : decode cX10_street 141 = .ok (.iload_n 1, 1) := by decide +kernel
theorem dX10_street_142 : decode cX10_street 142 = .ok (.invokevirtual 136, 3) := by decide +kernel
theorem dX10_street_145 : decode cX10_street 145 = .ok (.ireturn, 1) := by decide +kernel
theorem dX10_street_146 : decode cX10_street 146 = .ok (.bipush (-102), 2) := by decide +kernel
theorem dX10_street_148 : decode cX10_street 148 = .ok (.ireturn, 1) := by decide +kernel
theorem dX10_as_0 : decode cX10_as 0 = .ok (.aload_n 0, 1) := by decide +kernel
theorem dX10_as_1 : decode cX10_as 1 = .ok (.getfield 27, 3) := by decide +kernel
theorem dX10_as_4 : decode cX10_as 4 = .ok (.iload_n 1, 1) := by decide +kernel
theorem dX10_as_5 : decode cX10_as 5 = .ok (.invokevirtual 104, 3) := by decide +kernel
theorem dX10_as_8 : decode cX10_as 8 = .ok (.astore_n 3, 1) := by decide +kernel
theorem dX10_as_9 : decode cX10_as 9 = .ok (.aload_n 3, 1) := by decide +kernel
theorem dX10_as_10 : decode cX10_as 10 = .ok (.ifnonnull 6, 3) := by decide +kernel
theorem dX10_as_13 : decode cX10_as 13 = .ok (.bipush (-101), 2) := by decide +kernel
theorem dX10_as_15 : decode cX10_as 15 = .ok (.ireturn, 1) := by decide +kernel
theorem dX10_as_16 : decode cX10_as 16 = .ok (.iload_n 2, 1) := by decide +kernel
theorem dX10_as_17 : decode cX10_as 17 = .ok (.tableswitch 89 0 4 #[35, 37, 50, 63, 76], 35) := by decide +kernel
theorem dX10_as_52 : decode cX10_as 52 = .ok (.iload_n 1, 1) := by decide +kernel
theorem dX10_as_53 : decode cX10_as 53 = .ok (.ireturn, 1) := by decide +kernel
theorem dX10_as_54 : decode cX10_as 54 = .ok (.aload_n 3, 1) := by decide +kernel
theorem dX10_as_55 : decode cX10_as 55 = .ok (.instanceof 138, 3) := by decide +kernel
theorem dX10_as_58 : decode cX10_as 58 = .ok (.ifCond .eq 7, 3) := by decide +kernel
theorem dX10_as_61 : decode cX10_as 61 = .ok (.iload_n 1, 1) := by decide +kernel
theorem dX10_as_62 : decode cX10_as 62 = .ok (.goto 4, 3) := by decide +kernel
theorem dX10_as_65 : decode cX10_as 65 = .ok (.iconst (-1), 1) := by decide +kernel
theorem dX10_as_66 : decode cX10_as 66 = .ok (.ireturn, 1) := by decide +kernel
theorem dX10_as_67 : decode cX10_as 67 = .ok (.aload_n 3, 1) := by decide +kernel
theorem dX10_as_68 : decode cX10_as 68 = .ok (.instanceof 140, 3) := by decide +kernel
theorem dX10_as_71 : decode cX10_as 71 = .ok (.ifCond .eq 7, 3) := by decide +kernel
theorem dX10_as_74 : decode cX10_as 74 = .ok (.iload_n 1, 1) := by decide +kernel
theorem dX10_as_75 : decode cX10_as 75 = .ok (.goto 4, 3) := by decide +kernel
theorem dX10_as_78 : decode cX10_as 78 = .ok (.iconst (-1), 1) := by decide +kernel
theorem dX10_as_79 : decode cX10_as 79 = .ok (.ireturn, 1) := by decide +kernel
theorem dX10_as_80 : decode cX10_as 80 = .ok (.aload_n 3, 1) := by decide +kernel
theorem dX10_as_81 : decode cX10_as 81 = .ok (.instanceof 142, 3) := by decide +kernel
theorem dX10_as_84 : decode cX10_as 84 = .ok (.ifCond .eq 7, 3) := by decide +kernel
theorem dX10_as_87 : decode cX10_as 87 = .ok (.iload_n 1, 1) := by decide +kernel
theorem dX10_as_88 : decode cX10_as 88 = .ok (.goto 4, 3) := by decide +kernel
theorem dX10_as_91 : decode cX10_as 91 = .ok (.iconst (-1), 1) := by decide +kernel
theorem dX10_as_92 : decode cX10_as 92 = .ok (.ireturn, 1) := by decide +kernel
theorem dX10_as_93 : decode cX10_as 93 = .ok (.aload_n 3, 1) := by decide +kernel
theorem dX10_as_94 : decode cX10_as 94 = .ok (.instanceof 144, 3) := by decide +kernel
theorem dX10_as_97 : decode cX10_as 97 = .ok (.ifCond .eq 7, 3) := by decide +kernel
theorem dX10_as_100 : decode cX10_as 100 = .ok (.iload_n 1, 1) := by decide +kernel
theorem dX10_as_101 : decode cX10_as 101 = .ok (.goto 4, 3) := by decide +kernel
theorem dX10_as_104 : decode cX10_as 104 = .ok (.iconst (-1), 1) := by decide +kernel
theorem dX10_as_105 : decode cX10_as 105 = .ok (.ireturn, 1) := by decide +kernel
theorem dX10_as_106 : decode cX10_as 106 = .ok (.bipush (-102), 2) := by decide +kernel
theorem dX10_as_108 : decode cX10_as 108 = .ok (.ireturn, 1) := by decide +kernel
theorem dX10_comes_0 : decode cX10_comes 0 = .ok (.aload_n 0, 1) := by decide +kernel
theorem dX10_comes_1 : decode cX10_comes 1 = .ok (.getfield 27, 3) := by decide +kernel
theorem dX10_comes_4 : decode cX10_comes 4 = .ok (.iload_n 1, 1) := by decide +kernel
theorem dX10_comes_5 : decode cX10_comes 5 = .ok (.invokevirtual 104, 3) := by decide +kernel
theorem dX10_comes_8 : decode cX10_comes 8 = .ok (.astore_n 3, 1) := by decide +kernel
theorem dX10_comes_9 : decode cX10_comes 9 = .ok (.aload_n 3, 1) := by decide +kernel
theorem dX10_comes_10 : decode cX10_comes 10 = .ok (.ifnonnull 6, 3) := by decide +kernel
theorem dX10_comes_13 : decode cX10_comes 13 = .ok (.bipush (-101), 2) := by decide +kernel
theorem dX10_comes_15 : decode cX10_comes 15 = .ok (.ireturn, 1) := by decide +kernel
theorem dX10_comes_16 : decode cX10_comes 16 = .ok (.iload_n 2, 1) := by decide +kernel
theorem dX10_comes_17 : decode cX10_comes 17 = .ok (.invokestatic 146, 3) := by decide +kernel
theorem dX10_comes_20 : decode cX10_comes 20 = .ok (.ifCond .ne 6, 3) := by decide +kernel
theorem dX10_comes_23 : decode cX10_comes 23 = .ok (.bipush (-102), 2) := by decide +kernel
theorem dX10_comes_25 : decode cX10_comes 25 = .ok (.ireturn, 1) := by decide +kernel
theorem dX10_comes_26 : decode cX10_comes 26 = .ok (.aload_n 3, 1) := by decide +kernel
theorem dX10_comes_27 : decode cX10_comes 27 = .ok (.iload_n 2, 1) := by decide +kernel
theorem dX10_comes_28 : decode cX10_comes 28 = .ok (.aload_n 0, 1) := by decide +kernel
theorem dX10_comes_29 : decode cX10_comes 29 = .ok (.getfield 32, 3) := by decide +kernel
theorem dX10_comes_32 : decode cX10_comes 32 = .ok (.iload_n 1, 1) := by decide +kernel
theorem dX10_comes_33 : decode cX10_comes 33 = .ok (.invokevirtual 119, 3) := by decide +kernel
theorem dX10_comes_36 : decode cX10_comes 36 = .ok (.invokevirtual 150, 3) := by decide +kernel
theorem dX10_comes_39 : decode cX10_comes 39 = .ok (.ireturn, 1) := by decide +kernel
theorem dX10_walk_0 : decode cX10_walk 0 = .ok (.aload_n 0, 1) := by decide +kernel
theorem dX10_walk_1 : decode cX10_walk 1 = .ok (.getfield 27, 3) := by decide +kernel
theorem dX10_walk_4 : decode cX10_walk 4 = .ok (.iload_n 1, 1) := by decide +kernel
theorem dX10_walk_5 : decode cX10_walk 5 = .ok (.invokevirtual 104, 3) := by decide +kernel
theorem dX10_walk_8 : decode cX10_walk 8 = .ok (.astore_n 2, 1) := by decide +kernel
theorem dX10_walk_9 : decode cX10_walk 9 = .ok (.aload_n 2, 1) := by decide +kernel
theorem dX10_walk_10 : decode cX10_walk 10 = .ok (.ifnonnull 6, 3) := by decide +kernel
theorem dX10_walk_13 : decode cX10_walk 13 = .ok (.bipush (-101), 2) := by decide +kernel
theorem dX10_walk_15 : decode cX10_walk 15 = .ok (.ireturn, 1) := by decide +kernel
theorem dX10_walk_16 : decode cX10_walk 16 = .ok (.aload_n 0, 1) := by decide +kernel
theorem dX10_walk_17 : decode cX10_walk 17 = .ok (.getfield 32, 3) := by decide +kernel
theorem dX10_walk_20 : decode cX10_walk 20 = .ok (.getfield 154, 3) := by decide +kernel
theorem dX10_walk_23 : decode cX10_walk 23 = .ok (.lconst 0, 1) := by decide +kernel
theorem dX10_walk_24 : decode cX10_walk 24 = .ok (.lcmp, 1) := by decide +kernel
theorem dX10_walk_25 : decode cX10_walk 25 = .ok (.ifCond .eq 38, 3) := by decide +kernel
theorem dX10_walk_28 : decode cX10_walk 28 = .ok (.aload_n 2, 1) := by decide +kernel
theorem dX10_walk_29 : decode cX10_walk 29 = .ok (.aload_n 0, 1) := by decide +kernel
theorem dX10_walk_30 : decode cX10_walk 30 = .ok (.getfield 32, 3) := by decide +kernel
theorem dX10_walk_33 : decode cX10_walk 33 = .ok (.getfield 158, 3) := by decide +kernel
theorem dX10_walk_36 : decode cX10_walk 36 = .ok (.invokevirtual 161, 3) := by decide +kernel
theorem dX10_walk_39 : decode cX10_walk 39 = .ok (.ifCond .eq 24, 3) := by decide +kernel
theorem dX10_walk_42 : decode cX10_walk 42 = .ok (.aload_n 2, 1) := by decide +kernel
theorem dX10_walk_43 : decode cX10_walk 43 = .ok (.aload_n 0, 1) := by decide +kernel
theorem dX10_walk_44 : decode cX10_walk 44 = .ok (.getfield 32, 3) := by decide +kernel
theorem dX10_walk_47 : decode cX10_walk 47 = .ok (.getfield 154, 3) := by decide +kernel
theorem dX10_walk_50 : decode cX10_walk 50 = .ok (.aload_n 0, 1) := by decide +kernel
theorem dX10_walk_51 : decode cX10_walk 51 = .ok (.getfield 32, 3) := by decide +kernel
theorem dX10_walk_54 : decode cX10_walk 54 = .ok (.getfield 164, 3) := by decide +kernel
theorem dX10_walk_57 : decode cX10_walk 57 = .ok (.invokevirtual 168, 3) := by decide +kernel
theorem dX10_walk_60 : decode cX10_walk 60 = .ok (.ifCond .ne 6, 3) := by decide +kernel
theorem dX10_walk_63 : decode cX10_walk 63 = .ok (.bipush (-103), 2) := by decide +kernel
theorem dX10_walk_65 : decode cX10_walk 65 = .ok (.ireturn, 1) := by decide +kernel
theorem dX10_walk_66 : decode cX10_walk 66 = .ok (.aload_n 0, 1) := by decide +kernel
theorem dX10_walk_67 : decode cX10_walk 67 = .ok (.getfield 32, 3) := by decide +kernel
theorem dX10_walk_70 : decode cX10_walk 70 = .ok (.getfield 172, 3) := by decide +kernel
theorem dX10_walk_73 : decode cX10_walk 73 = .ok (.sipush 999, 3) := by decide +kernel
theorem dX10_walk_76 : decode cX10_walk 76 = .ok (.if_icmp .lt 6, 3) := by decide +kernel
theorem dX10_walk_79 : decode cX10_walk 79 = .ok (.bipush (-104), 2) := by decide +kernel
theorem dX10_walk_81 : decode cX10_walk 81 = .ok (.ireturn, 1) := by decide +kernel
theorem dX10_walk_82 : decode cX10_walk 82 = .ok (.aload_n 0, 1) := by decide +kernel
theorem dX10_walk_83 : decode cX10_walk 83 = .ok (.getfield 32, 3) := by decide +kernel
theorem dX10_walk_86 : decode cX10_walk 86 = .ok (.aload_n 2, 1) := by decide +kernel
theorem dX10_walk_87 : decode cX10_walk 87 = .ok (.aload_n 0, 1) := by decide +kernel
theorem dX10_walk_88 : decode cX10_walk 88 = .ok (.getfield 32, 3) := by decide +kernel
theorem dX10_walk_91 : decode cX10_walk 91 = .ok (.getfield 154, 3) := by decide +kernel
theorem dX10_walk_94 : decode cX10_walk 94 = .ok (.aload_n 0, 1) := by decide +kernel
theorem dX10_walk_95 : decode cX10_walk 95 = .ok (.getfield 32, 3) := by decide +kernel
theorem dX10_walk_98 : decode cX10_walk 98 = .ok (.iload_n 1, 1) := by decide +kernel
theorem dX10_walk_99 : decode cX10_walk 99 = .ok (.invokevirtual 119, 3) := by decide +kernel
theorem dX10_walk_102 : decode cX10_walk 102 = .ok (.invokevirtual 175, 3) := by decide +kernel
theorem dX10_walk_105 : decode cX10_walk 105 = .ok (.putfield 154, 3) := by decide +kernel
theorem dX10_walk_108 : decode cX10_walk 108 = .ok (.aload_n 0, 1) := by decide +kernel
theorem dX10_walk_109 : decode cX10_walk 109 = .ok (.getfield 32, 3) := by decide +kernel
theorem dX10_walk_112 : decode cX10_walk 112 = .ok (.aload_n 2, 1) := by decide +kernel
theorem dX10_walk_113 : decode cX10_walk 113 = .ok (.aload_n 0, 1) := by decide +kernel
theorem dX10_walk_114 : decode cX10_walk 114 = .ok (.getfield 32, 3) := by decide +kernel
theorem dX10_walk_117 : decode cX10_walk 117 = .ok (.getfield 158, 3) := by decide +kernel
theorem dX10_walk_120 : decode cX10_walk 120 = .ok (.invokevirtual 179, 3) := by decide +kernel
theorem dX10_walk_123 : decode cX10_walk 123 = .ok (.putfield 158, 3) := by decide +kernel
theorem dX10_walk_126 : decode cX10_walk 126 = .ok (.aload_n 0, 1) := by decide +kernel
theorem dX10_walk_127 : decode cX10_walk 127 = .ok (.getfield 32, 3) := by decide +kernel
theorem dX10_walk_130 : decode cX10_walk 130 = .ok (.iload_n 1, 1) := by decide +kernel
theorem dX10_walk_131 : decode cX10_walk 131 = .ok (.invokevirtual 182, 3) := by decide +kernel
theorem dX10_walk_134 : decode cX10_walk 134 = .ok (.aload_n 0, 1) := by decide +kernel
theorem dX10_walk_135 : decode cX10_walk 135 = .ok (.getfield 32, 3) := by decide +kernel
theorem dX10_walk_138 : decode cX10_walk 138 = .ok (.getfield 158, 3) := by decide +kernel
theorem dX10_walk_141 : decode cX10_walk 141 = .ok (.ireturn, 1) := by decide +kernel
theorem dX10_stand_0 : decode cX10_stand 0 = .ok (.iload_n 1, 1) := by decide +kernel
theorem dX10_stand_1 : decode cX10_stand 1 = .ok (.ifCond .lt 14, 3) := by decide +kernel
theorem dX10_stand_4 : decode cX10_stand 4 = .ok (.iload_n 1, 1) := by decide +kernel
theorem dX10_stand_5 : decode cX10_stand 5 = .ok (.aload_n 0, 1) := by decide +kernel
theorem dX10_stand_6 : decode cX10_stand 6 = .ok (.getfield 27, 3) := by decide +kernel
theorem dX10_stand_9 : decode cX10_stand 9 = .ok (.getfield 185, 3) := by decide +kernel
theorem dX10_stand_12 : decode cX10_stand 12 = .ok (.if_icmp .lt 6, 3) := by decide +kernel
theorem dX10_stand_15 : decode cX10_stand 15 = .ok (.bipush (-101), 2) := by decide +kernel
theorem dX10_stand_17 : decode cX10_stand 17 = .ok (.ireturn, 1) := by decide +kernel
theorem dX10_stand_18 : decode cX10_stand 18 = .ok (.aload_n 0, 1) := by decide +kernel
theorem dX10_stand_19 : decode cX10_stand 19 = .ok (.getfield 32, 3) := by decide +kernel
theorem dX10_stand_22 : decode cX10_stand 22 = .ok (.getfield 158, 3) := by decide +kernel
theorem dX10_stand_25 : decode cX10_stand 25 = .ok (.istore_n 2, 1) := by decide +kernel
theorem dX10_stand_26 : decode cX10_stand 26 = .ok (.aload_n 0, 1) := by decide +kernel
theorem dX10_stand_27 : decode cX10_stand 27 = .ok (.getfield 32, 3) := by decide +kernel
theorem dX10_stand_30 : decode cX10_stand 30 = .ok (.iload_n 1, 1) := by decide +kernel
theorem dX10_stand_31 : decode cX10_stand 31 = .ok (.putfield 158, 3) := by decide +kernel
theorem dX10_stand_34 : decode cX10_stand 34 = .ok (.iload_n 2, 1) := by decide +kernel
theorem dX10_stand_35 : decode cX10_stand 35 = .ok (.ireturn, 1) := by decide +kernel
theorem dX10_dusk_0 : decode cX10_dusk 0 = .ok (.aload_n 0, 1) := by decide +kernel
theorem dX10_dusk_1 : decode cX10_dusk 1 = .ok (.invokevirtual 188, 3) := by decide +kernel
theorem dX10_dusk_4 : decode cX10_dusk 4 = .ok (.ifCond .eq 6, 3) := by decide +kernel
theorem dX10_dusk_7 : decode cX10_dusk 7 = .ok (.bipush (-103), 2) := by decide +kernel
theorem dX10_dusk_9 : decode cX10_dusk 9 = .ok (.ireturn, 1) := by decide +kernel
theorem dX10_dusk_10 : decode cX10_dusk 10 = .ok (.aload_n 0, 1) := by decide +kernel
theorem dX10_dusk_11 : decode cX10_dusk 11 = .ok (.getfield 32, 3) := by decide +kernel
theorem dX10_dusk_14 : decode cX10_dusk 14 = .ok (.aload_n 0, 1) := by decide +kernel
theorem dX10_dusk_15 : decode cX10_dusk 15 = .ok (.getfield 32, 3) := by decide +kernel
theorem dX10_dusk_18 : decode cX10_dusk 18 = .ok (.getfield 164, 3) := by decide +kernel
theorem dX10_dusk_21 : decode cX10_dusk 21 = .ok (.ifCond .ne 7, 3) := by decide +kernel
theorem dX10_dusk_24 : decode cX10_dusk 24 = .ok (.iconst 1, 1) := by decide +kernel
theorem dX10_dusk_25 : decode cX10_dusk 25 = .ok (.goto 4, 3) := by decide +kernel
theorem dX10_dusk_28 : decode cX10_dusk 28 = .ok (.iconst 0, 1) := by decide +kernel
theorem dX10_dusk_29 : decode cX10_dusk 29 = .ok (.putfield 164, 3) := by decide +kernel
theorem dX10_dusk_32 : decode cX10_dusk 32 = .ok (.aload_n 0, 1) := by decide +kernel
theorem dX10_dusk_33 : decode cX10_dusk 33 = .ok (.getfield 32, 3) := by decide +kernel
theorem dX10_dusk_36 : decode cX10_dusk 36 = .ok (.getfield 164, 3) := by decide +kernel
theorem dX10_dusk_39 : decode cX10_dusk 39 = .ok (.ifCond .eq 7, 3) := by decide +kernel
theorem dX10_dusk_42 : decode cX10_dusk 42 = .ok (.iconst 1, 1) := by decide +kernel
theorem dX10_dusk_43 : decode cX10_dusk 43 = .ok (.goto 4, 3) := by decide +kernel
theorem dX10_dusk_46 : decode cX10_dusk 46 = .ok (.iconst 0, 1) := by decide +kernel
theorem dX10_dusk_47 : decode cX10_dusk 47 = .ok (.ireturn, 1) := by decide +kernel
theorem dX10_sing_0 : decode cX10_sing 0 = .ok (.aload_n 0, 1) := by decide +kernel
theorem dX10_sing_1 : decode cX10_sing 1 = .ok (.getfield 32, 3) := by decide +kernel
theorem dX10_sing_4 : decode cX10_sing 4 = .ok (.iload_n 1, 1) := by decide +kernel
theorem dX10_sing_5 : decode cX10_sing 5 = .ok (.invokevirtual 84, 3) := by decide +kernel
theorem dX10_sing_8 : decode cX10_sing 8 = .ok (.lstore 4, 2) := by decide +kernel
theorem dX10_sing_10 : decode cX10_sing 10 = .ok (.lload 4, 2) := by decide +kernel
theorem dX10_sing_12 : decode cX10_sing 12 = .ok (.iload_n 2, 1) := by decide +kernel
theorem dX10_sing_13 : decode cX10_sing 13 = .ok (.invokestatic 101, 3) := by decide +kernel
theorem dX10_sing_16 : decode cX10_sing 16 = .ok (.istore 6, 2) := by decide +kernel
theorem dX10_sing_18 : decode cX10_sing 18 = .ok (.iload 6, 2) := by decide +kernel
theorem dX10_sing_20 : decode cX10_sing 20 = .ok (.iconst (-1), 1) := by decide +kernel
theorem dX10_sing_21 : decode cX10_sing 21 = .ok (.if_icmp .ne 6, 3) := by decide +kernel
theorem dX10_sing_24 : decode cX10_sing 24 = .ok (.bipush (-101), 2) := by decide +kernel
theorem dX10_sing_26 : decode cX10_sing 26 = .ok (.ireturn, 1) := by decide +kernel
theorem dX10_sing_27 : decode cX10_sing 27 = .ok (.iload_n 3, 1) := by decide +kernel
theorem dX10_sing_28 : decode cX10_sing 28 = .ok (.invokestatic 146, 3) := by decide +kernel
theorem dX10_sing_31 : decode cX10_sing 31 = .ok (.ifCond .ne 6, 3) := by decide +kernel
theorem dX10_sing_34 : decode cX10_sing 34 = .ok (.bipush (-102), 2) := by decide +kernel
theorem dX10_sing_36 : decode cX10_sing 36 = .ok (.ireturn, 1) := by decide +kernel
theorem dX10_sing_37 : decode cX10_sing 37 = .ok (.aload_n 0, 1) := by decide +kernel
theorem dX10_sing_38 : decode cX10_sing 38 = .ok (.getfield 32, 3) := by decide +kernel
theorem dX10_sing_41 : decode cX10_sing 41 = .ok (.iload_n 1, 1) := by decide +kernel
theorem dX10_sing_42 : decode cX10_sing 42 = .ok (.lload 4, 2) := by decide +kernel
theorem dX10_sing_44 : decode cX10_sing 44 = .ok (.iload_n 2, 1) := by decide +kernel
theorem dX10_sing_45 : decode cX10_sing 45 = .ok (.iload_n 3, 1) := by decide +kernel
theorem dX10_sing_46 : decode cX10_sing 46 = .ok (.invokestatic 191, 3) := by decide +kernel
theorem dX10_sing_49 : decode cX10_sing 49 = .ok (.invokevirtual 75, 3) := by decide +kernel
theorem dX10_sing_52 : decode cX10_sing 52 = .ok (.iload 6, 2) := by decide +kernel
theorem dX10_sing_54 : decode cX10_sing 54 = .ok (.ireturn, 1) := by decide +kernel
theorem dX10_raise_0 : decode cX10_raise 0 = .ok (.aload_n 0, 1) := by decide +kernel
theorem dX10_raise_1 : decode cX10_raise 1 = .ok (.getfield 27, 3) := by decide +kernel
theorem dX10_raise_4 : decode cX10_raise 4 = .ok (.iload_n 1, 1) := by decide +kernel
theorem dX10_raise_5 : decode cX10_raise 5 = .ok (.invokevirtual 104, 3) := by decide +kernel
theorem dX10_raise_8 : decode cX10_raise 8 = .ok (.ifnonnull 6, 3) := by decide +kernel
theorem dX10_raise_11 : decode cX10_raise 11 = .ok (.bipush (-101), 2) := by decide +kernel
theorem dX10_raise_13 : decode cX10_raise 13 = .ok (.ireturn, 1) := by decide +kernel
theorem dX10_raise_14 : decode cX10_raise 14 = .ok (.iload_n 2, 1) := by decide +kernel
theorem dX10_raise_15 : decode cX10_raise 15 = .ok (.invokestatic 146, 3) := by decide +kernel
theorem dX10_raise_18 : decode cX10_raise 18 = .ok (.ifCond .ne 6, 3) := by decide +kernel
theorem dX10_raise_21 : decode cX10_raise 21 = .ok (.bipush (-102), 2) := by decide +kernel
theorem dX10_raise_23 : decode cX10_raise 23 = .ok (.ireturn, 1) := by decide +kernel
theorem dX10_raise_24 : decode cX10_raise 24 = .ok (.aload_n 0, 1) := by decide +kernel
theorem dX10_raise_25 : decode cX10_raise 25 = .ok (.getfield 32, 3) := by decide +kernel
theorem dX10_raise_28 : decode cX10_raise 28 = .ok (.iload_n 1, 1) := by decide +kernel
theorem dX10_raise_29 : decode cX10_raise 29 = .ok (.invokevirtual 119, 3) := by decide +kernel
theorem dX10_raise_32 : decode cX10_raise 32 = .ok (.istore_n 3, 1) := by decide +kernel
theorem dX10_raise_33 : decode cX10_raise 33 = .ok (.aload_n 0, 1) := by decide +kernel
theorem dX10_raise_34 : decode cX10_raise 34 = .ok (.getfield 32, 3) := by decide +kernel
theorem dX10_raise_37 : decode cX10_raise 37 = .ok (.iload_n 1, 1) := by decide +kernel
theorem dX10_raise_38 : decode cX10_raise 38 = .ok (.iload_n 2, 1) := by decide +kernel
theorem dX10_raise_39 : decode cX10_raise 39 = .ok (.invokevirtual 195, 3) := by decide +kernel
theorem dX10_raise_42 : decode cX10_raise 42 = .ok (.iload_n 3, 1) := by decide +kernel
theorem dX10_raise_43 : decode cX10_raise 43 = .ok (.ireturn, 1) := by decide +kernel
theorem dX10_way_0 : decode cX10_way 0 = .ok (.iload_n 1, 1) := by decide +kernel
theorem dX10_way_1 : decode cX10_way 1 = .ok (.bipush 10, 2) := by decide +kernel
theorem dX10_way_3 : decode cX10_way 3 = .ok (.if_icmp .lt 13, 3) := by decide +kernel
theorem dX10_way_6 : decode cX10_way 6 = .ok (.iload_n 1, 1) := by decide +kernel
theorem dX10_way_7 : decode cX10_way 7 = .ok (.bipush 15, 2) := by decide +kernel
theorem dX10_way_9 : decode cX10_way 9 = .ok (.if_icmp .ge 7, 3) := by decide +kernel
theorem dX10_way_12 : decode cX10_way 12 = .ok (.iconst 1, 1) := by decide +kernel
theorem dX10_way_13 : decode cX10_way 13 = .ok (.goto 4, 3) := by decide +kernel
theorem dX10_way_16 : decode cX10_way 16 = .ok (.iconst 0, 1) := by decide +kernel
theorem dX10_way_17 : decode cX10_way 17 = .ok (.istore_n 2, 1) := by decide +kernel
theorem dX10_way_18 : decode cX10_way 18 = .ok (.iload_n 1, 1) := by decide +kernel
theorem dX10_way_19 : decode cX10_way 19 = .ok (.ifCond .eq 15, 3) := by decide +kernel
theorem dX10_way_22 : decode cX10_way 22 = .ok (.iload_n 1, 1) := by decide +kernel
theorem dX10_way_23 : decode cX10_way 23 = .ok (.iconst 1, 1) := by decide +kernel
theorem dX10_way_24 : decode cX10_way 24 = .ok (.if_icmp .eq 10, 3) := by decide +kernel
theorem dX10_way_27 : decode cX10_way 27 = .ok (.iload_n 2, 1) := by decide +kernel
theorem dX10_way_28 : decode cX10_way 28 = .ok (.ifCond .ne 6, 3) := by decide +kernel
theorem dX10_way_31 : decode cX10_way 31 = .ok (.bipush (-102), 2) := by decide +kernel
theorem dX10_way_33 : decode cX10_way 33 = .ok (.ireturn, 1) := by decide +kernel
theorem dX10_way_34 : decode cX10_way 34 = .ok (.aload_n 0, 1) := by decide +kernel
theorem dX10_way_35 : decode cX10_way 35 = .ok (.invokevirtual 188, 3) := by decide +kernel
theorem dX10_way_38 : decode cX10_way 38 = .ok (.ifCond .ne 19, 3) := by decide +kernel
theorem dX10_way_41 : decode cX10_way 41 = .ok (.aload_n 0, 1) := by decide +kernel
theorem dX10_way_42 : decode cX10_way 42 = .ok (.invokevirtual 199, 3) := by decide +kernel
theorem dX10_way_45 : decode cX10_way 45 = .ok (.ifCond .ne 12, 3) := by decide +kernel
theorem dX10_way_48 : decode cX10_way 48 = .ok (.aload_n 0, 1) := by decide +kernel
theorem dX10_way_49 : decode cX10_way 49 = .ok (.getfield 202, 3) := by decide +kernel
theorem dX10_way_52 : decode cX10_way 52 = .ok (.bipush 16, 2) := by decide +kernel
theorem dX10_way_54 : decode cX10_way 54 = .ok (.if_icmp .lt 6, 3) := by decide +kernel
theorem dX10_way_57 : decode cX10_way 57 = .ok (.bipush (-103), 2) := by decide +kernel
theorem dX10_way_59 : decode cX10_way 59 = .ok (.ireturn, 1) := by decide +kernel
theorem dX10_way_60 : decode cX10_way 60 = .ok (.aload_n 0, 1) := by decide +kernel
theorem dX10_way_61 : decode cX10_way 61 = .ok (.dup, 1) := by decide +kernel
theorem dX10_way_62 : decode cX10_way 62 = .ok (.getfield 202, 3) := by decide +kernel
theorem dX10_way_65 : decode cX10_way 65 = .ok (.iconst 1, 1) := by decide +kernel
theorem dX10_way_66 : decode cX10_way 66 = .ok (.iadd, 1) := by decide +kernel
theorem dX10_way_67 : decode cX10_way 67 = .ok (.putfield 202, 3) := by decide +kernel
theorem dX10_way_70 : decode cX10_way 70 = .ok (.aload_n 0, 1) := by decide +kernel
theorem dX10_way_71 : decode cX10_way 71 = .ok (.getfield 19, 3) := by decide +kernel
theorem dX10_way_74 : decode cX10_way 74 = .ok (.invokevirtual 205, 3) := by decide +kernel
theorem dX10_way_77 : decode cX10_way 77 = .ok (.istore_n 3, 1) := by decide +kernel
theorem dX10_way_78 : decode cX10_way 78 = .ok (.iload_n 3, 1) := by decide +kernel
theorem dX10_way_79 : decode cX10_way 79 = .ok (.iconst (-1), 1) := by decide +kernel
theorem dX10_way_80 : decode cX10_way 80 = .ok (.if_icmp .eq 7, 3) := by decide +kernel
theorem dX10_way_83 : decode cX10_way 83 = .ok (.iload_n 1, 1) := by decide +kernel
theorem dX10_way_84 : decode cX10_way 84 = .ok (.ifCond .ne 5, 3) := by decide +kernel
theorem dX10_way_87 : decode cX10_way 87 = .ok (.iload_n 3, 1) := by decide +kernel
theorem dX10_way_88 : decode cX10_way 88 = .ok (.ireturn, 1) := by decide +kernel
theorem dX10_way_89 : decode cX10_way 89 = .ok (.iload_n 1, 1) := by decide +kernel
theorem dX10_way_90 : decode cX10_way 90 = .ok (.iconst 1, 1) := by decide +kernel
theorem dX10_way_91 : decode cX10_way 91 = .ok (.if_icmp .ne 13, 3) := by decide +kernel
theorem dX10_way_94 : decode cX10_way 94 = .ok (.aload_n 0, 1) := by decide +kernel
theorem dX10_way_95 : decode cX10_way 95 = .ok (.getfield 19, 3) := by decide +kernel
theorem dX10_way_98 : decode cX10_way 98 = .ok (.getfield 208, 3) := by decide +kernel
theorem dX10_way_101 : decode cX10_way 101 = .ok (.goto 15, 3) := by decide +kernel
theorem dX10_way_104 : decode cX10_way 104 = .ok (.aload_n 0, 1) := by decide +kernel
theorem dX10_way_105 : decode cX10_way 105 = .ok (.getfield 19, 3) := by decide +kernel
theorem dX10_way_108 : decode cX10_way 108 = .ok (.iload_n 1, 1) := by decide +kernel
theorem dX10_way_109 : decode cX10_way 109 = .ok (.bipush 10, 2) := by decide +kernel
theorem dX10_way_111 : decode cX10_way 111 = .ok (.isub, 1) := by decide +kernel
theorem dX10_way_112 : decode cX10_way 112 = .ok (.iload_n 3, 1) := by decide +kernel
theorem dX10_way_113 : decode cX10_way 113 = .ok (.invokevirtual 211, 3) := by decide +kernel
theorem dX10_way_116 : decode cX10_way 116 = .ok (.ireturn, 1) := by decide +kernel
theorem dX10_become_0 : decode cX10_become 0 = .ok (.iload_n 1, 1) := by decide +kernel
theorem dX10_become_1 : decode cX10_become 1 = .ok (.ifCond .lt 8, 3) := by decide +kernel
theorem dX10_become_4 : decode cX10_become 4 = .ok (.iload_n 1, 1) := by decide +kernel
theorem dX10_become_5 : decode cX10_become 5 = .ok (.iconst 3, 1) := by decide +kernel
theorem dX10_become_6 : decode cX10_become 6 = .ok (.if_icmp .le 6, 3) := by decide +kernel
theorem dX10_become_9 : decode cX10_become 9 = .ok (.bipush (-102), 2) := by decide +kernel
theorem dX10_become_11 : decode cX10_become 11 = .ok (.ireturn, 1) := by decide +kernel
theorem dX10_become_12 : decode cX10_become 12 = .ok (.aload_n 0, 1) := by decide +kernel
theorem dX10_become_13 : decode cX10_become 13 = .ok (.invokevirtual 188, 3) := by decide +kernel
theorem dX10_become_16 : decode cX10_become 16 = .ok (.ifCond .ne 15, 3) := by decide +kernel
theorem dX10_become_19 : decode cX10_become 19 = .ok (.aload_n 0, 1) := by decide +kernel
theorem dX10_become_20 : decode cX10_become 20 = .ok (.getfield 32, 3) := by decide +kernel
theorem dX10_become_23 : decode cX10_become 23 = .ok (.getfield 154, 3) := by decide +kernel
theorem dX10_become_26 : decode cX10_become 26 = .ok (.lconst 0, 1) := by decide +kernel
theorem dX10_become_27 : decode cX10_become 27 = .ok (.lcmp, 1) := by decide +kernel
theorem dX10_become_28 : decode cX10_become 28 = .ok (.ifCond .ne 6, 3) := by decide +kernel
theorem dX10_become_31 : decode cX10_become 31 = .ok (.bipush (-103), 2) := by decide +kernel
theorem dX10_become_33 : decode cX10_become 33 = .ok (.ireturn, 1) := by decide +kernel
theorem dX10_become_34 : decode cX10_become 34 = .ok (.aload_n 0, 1) := by decide +kernel
theorem dX10_become_35 : decode cX10_become 35 = .ok (.getfield 19, 3) := by decide +kernel
theorem dX10_become_38 : decode cX10_become 38 = .ok (.iload_n 1, 1) := by decide +kernel
theorem dX10_become_39 : decode cX10_become 39 = .ok (.invokevirtual 214, 3) := by decide +kernel
theorem dX10_become_42 : decode cX10_become 42 = .ok (.ireturn, 1) := by decide +kernel
theorem dX10_apart_0 : decode cX10_apart 0 = .ok (.aload_n 0, 1) := by decide +kernel
theorem dX10_apart_1 : decode cX10_apart 1 = .ok (.invokevirtual 199, 3) := by decide +kernel
theorem dX10_apart_4 : decode cX10_apart 4 = .ok (.ifCond .eq 6, 3) := by decide +kernel
theorem dX10_apart_7 : decode cX10_apart 7 = .ok (.bipush (-103), 2) := by decide +kernel
theorem dX10_apart_9 : decode cX10_apart 9 = .ok (.ireturn, 1) := by decide +kernel
theorem dX10_apart_10 : decode cX10_apart 10 = .ok (.aload_n 0, 1) := by decide +kernel
theorem dX10_apart_11 : decode cX10_apart 11 = .ok (.getfield 32, 3) := by decide +kernel
theorem dX10_apart_14 : decode cX10_apart 14 = .ok (.getfield 154, 3) := by decide +kernel
theorem dX10_apart_17 : decode cX10_apart 17 = .ok (.aload_n 0, 1) := by decide +kernel
theorem dX10_apart_18 : decode cX10_apart 18 = .ok (.getfield 32, 3) := by decide +kernel
theorem dX10_apart_21 : decode cX10_apart 21 = .ok (.getfield 217, 3) := by decide +kernel
theorem dX10_apart_24 : decode cX10_apart 24 = .ok (.invokestatic 220, 3) := by decide +kernel
theorem dX10_apart_27 : decode cX10_apart 27 = .ok (.ireturn, 1) := by decide +kernel
theorem dX10_near_0 : decode cX10_near 0 = .ok (.aload_n 0, 1) := by decide +kernel
theorem dX10_near_1 : decode cX10_near 1 = .ok (.invokevirtual 188, 3) := by decide +kernel
theorem dX10_near_4 : decode cX10_near 4 = .ok (.ifCond .ne 10, 3) := by decide +kernel
theorem dX10_near_7 : decode cX10_near 7 = .ok (.aload_n 0, 1) := by decide +kernel
theorem dX10_near_8 : decode cX10_near 8 = .ok (.invokevirtual 199, 3) := by decide +kernel
theorem dX10_near_11 : decode cX10_near 11 = .ok (.ifCond .eq 6, 3) := by decide +kernel
theorem dX10_near_14 : decode cX10_near 14 = .ok (.bipush (-103), 2) := by decide +kernel
theorem dX10_near_16 : decode cX10_near 16 = .ok (.ireturn, 1) := by decide +kernel
theorem dX10_near_17 : decode cX10_near 17 = .ok (.aload_n 0, 1) := by decide +kernel
theorem dX10_near_18 : decode cX10_near 18 = .ok (.getfield 19, 3) := by decide +kernel
theorem dX10_near_21 : decode cX10_near 21 = .ok (.invokevirtual 224, 3) := by decide +kernel
theorem dX10_near_24 : decode cX10_near 24 = .ok (.ireturn, 1) := by decide +kernel
theorem dX10_see_0 : decode cX10_see 0 = .ok (.aload_n 0, 1) := by decide +kernel
theorem dX10_see_1 : decode cX10_see 1 = .ok (.getfield 27, 3) := by decide +kernel
theorem dX10_see_4 : decode cX10_see 4 = .ok (.iload_n 1, 1) := by decide +kernel
theorem dX10_see_5 : decode cX10_see 5 = .ok (.invokevirtual 104, 3) := by decide +kernel
theorem dX10_see_8 : decode cX10_see 8 = .ok (.ifnonnull 6, 3) := by decide +kernel
theorem dX10_see_11 : decode cX10_see 11 = .ok (.bipush (-101), 2) := by decide +kernel
theorem dX10_see_13 : decode cX10_see 13 = .ok (.ireturn, 1) := by decide +kernel
theorem dX10_see_14 : decode cX10_see 14 = .ok (.iload_n 2, 1) := by decide +kernel
theorem dX10_see_15 : decode cX10_see 15 = .ok (.invokestatic 146, 3) := by decide +kernel
theorem dX10_see_18 : decode cX10_see 18 = .ok (.ifCond .eq 10, 3) := by decide +kernel
theorem dX10_see_21 : decode cX10_see 21 = .ok (.iload_n 3, 1) := by decide +kernel
theorem dX10_see_22 : decode cX10_see 22 = .ok (.invokestatic 146, 3) := by decide +kernel
theorem dX10_see_25 : decode cX10_see 25 = .ok (.ifCond .ne 6, 3) := by decide +kernel
theorem dX10_see_28 : decode cX10_see 28 = .ok (.bipush (-102), 2) := by decide +kernel
theorem dX10_see_30 : decode cX10_see 30 = .ok (.ireturn, 1) := by decide +kernel
theorem dX10_see_31 : decode cX10_see 31 = .ok (.aload_n 0, 1) := by decide +kernel
theorem dX10_see_32 : decode cX10_see 32 = .ok (.getfield 32, 3) := by decide +kernel
theorem dX10_see_35 : decode cX10_see 35 = .ok (.getfield 227, 3) := by decide +kernel
theorem dX10_see_38 : decode cX10_see 38 = .ok (.bipush 6, 2) := by decide +kernel
theorem dX10_see_40 : decode cX10_see 40 = .ok (.if_icmp .lt 6, 3) := by decide +kernel
theorem dX10_see_43 : decode cX10_see 43 = .ok (.bipush (-104), 2) := by decide +kernel
theorem dX10_see_45 : decode cX10_see 45 = .ok (.ireturn, 1) := by decide +kernel
theorem dX10_see_46 : decode cX10_see 46 = .ok (.aload_n 0, 1) := by decide +kernel
theorem dX10_see_47 : decode cX10_see 47 = .ok (.getfield 32, 3) := by decide +kernel
theorem dX10_see_50 : decode cX10_see 50 = .ok (.iload_n 1, 1) := by decide +kernel
theorem dX10_see_51 : decode cX10_see 51 = .ok (.iload_n 2, 1) := by decide +kernel
theorem dX10_see_52 : decode cX10_see 52 = .ok (.iload_n 3, 1) := by decide +kernel
theorem dX10_see_53 : decode cX10_see 53 = .ok (.invokevirtual 230, 3) := by decide +kernel
theorem dX10_see_56 : decode cX10_see 56 = .ok (.aload_n 0, 1) := by decide +kernel
theorem dX10_see_57 : decode cX10_see 57 = .ok (.getfield 32, 3) := by decide +kernel
theorem dX10_see_60 : decode cX10_see 60 = .ok (.getfield 227, 3) := by decide +kernel
theorem dX10_see_63 : decode cX10_see 63 = .ok (.ireturn, 1) := by decide +kernel
theorem dX10_forget_0 : decode cX10_forget 0 = .ok (.aload_n 0, 1) := by decide +kernel
theorem dX10_forget_1 : decode cX10_forget 1 = .ok (.getfield 32, 3) := by decide +kernel
theorem dX10_forget_4 : decode cX10_forget 4 = .ok (.getfield 227, 3) := by decide +kernel
theorem dX10_forget_7 : decode cX10_forget 7 = .ok (.istore_n 1, 1) := by decide +kernel
theorem dX10_forget_8 : decode cX10_forget 8 = .ok (.aload_n 0, 1) := by decide +kernel
theorem dX10_forget_9 : decode cX10_forget 9 = .ok (.getfield 32, 3) := by decide +kernel
theorem dX10_forget_12 : decode cX10_forget 12 = .ok (.iconst 0, 1) := by decide +kernel
theorem dX10_forget_13 : decode cX10_forget 13 = .ok (.putfield 227, 3) := by decide +kernel
theorem dX10_forget_16 : decode cX10_forget 16 = .ok (.iload_n 1, 1) := by decide +kernel
theorem dX10_forget_17 : decode cX10_forget 17 = .ok (.ireturn, 1) := by decide +kernel
theorem dX10_wander_0 : decode cX10_wander 0 = .ok (.iload_n 1, 1) := by decide +kernel
theorem dX10_wander_1 : decode cX10_wander 1 = .ok (.iconst 1, 1) := by decide +kernel
theorem dX10_wander_2 : decode cX10_wander 2 = .ok (.if_icmp .lt 22, 3) := by decide +kernel
theorem dX10_wander_5 : decode cX10_wander 5 = .ok (.iload_n 1, 1) := by decide +kernel
theorem dX10_wander_6 : decode cX10_wander 6 = .ok (.bipush 60, 2) := by decide +kernel
theorem dX10_wander_8 : decode cX10_wander 8 = .ok (.if_icmp .gt 16, 3) := by decide +kernel
theorem dX10_wander_11 : decode cX10_wander 11 = .ok (.iload_n 2, 1) := by decide +kernel
theorem dX10_wander_12 : decode cX10_wander 12 = .ok (.ifCond .lt 12, 3) := by decide +kernel
theorem dX10_wander_15 : decode cX10_wander 15 = .ok (.iload_n 3, 1) := by decide +kernel
theorem dX10_wander_16 : decode cX10_wander 16 = .ok (.ifCond .lt 8, 3) := by decide +kernel
theorem dX10_wander_19 : decode cX10_wander 19 = .ok (.iload_n 3, 1) := by decide +kernel
theorem dX10_wander_20 : decode cX10_wander 20 = .ok (.iconst 2, 1) := by decide +kernel
theorem dX10_wander_21 : decode cX10_wander 21 = .ok (.if_icmp .le 6, 3) := by decide +kernel
theorem dX10_wander_24 : decode cX10_wander 24 = .ok (.bipush (-102), 2) := by decide +kernel
theorem dX10_wander_26 : decode cX10_wander 26 = .ok (.ireturn, 1) := by decide +kernel
theorem dX10_wander_27 : decode cX10_wander 27 = .ok (.aload_n 0, 1) := by decide +kernel
theorem dX10_wander_28 : decode cX10_wander 28 = .ok (.invokevirtual 188, 3) := by decide +kernel
theorem dX10_wander_31 : decode cX10_wander 31 = .ok (.ifCond .ne 10, 3) := by decide +kernel
theorem dX10_wander_34 : decode cX10_wander 34 = .ok (.aload_n 0, 1) := by decide +kernel
theorem dX10_wander_35 : decode cX10_wander 35 = .ok (.invokevirtual 199, 3) := by decide +kernel
theorem dX10_wander_38 : decode cX10_wander 38 = .ok (.ifCond .eq 6, 3) := by decide +kernel
theorem dX10_wander_41 : decode cX10_wander 41 = .ok (.bipush (-103), 2) := by decide +kernel
theorem dX10_wander_43 : decode cX10_wander 43 = .ok (.ireturn, 1) := by decide +kernel
theorem dX10_wander_44 : decode cX10_wander 44 = .ok (.aload_n 0, 1) := by decide +kernel
theorem dX10_wander_45 : decode cX10_wander 45 = .ok (.getfield 19, 3) := by decide +kernel
theorem dX10_wander_48 : decode cX10_wander 48 = .ok (.iload_n 1, 1) := by decide +kernel
theorem dX10_wander_49 : decode cX10_wander 49 = .ok (.iload_n 2, 1) := by decide +kernel
theorem dX10_wander_50 : decode cX10_wander 50 = .ok (.invokevirtual 234, 3) := by decide +kernel
theorem dX10_wander_53 : decode cX10_wander 53 = .ok (.iload_n 3, 1) := by decide +kernel
theorem dX10_wander_54 : decode cX10_wander 54 = .ok (.ifCond .ne 11, 3) := by decide +kernel
theorem dX10_wander_57 : decode cX10_wander 57 = .ok (.aload_n 0, 1) := by decide +kernel
theorem dX10_wander_58 : decode cX10_wander 58 = .ok (.getfield 19, 3) := by decide +kernel
theorem dX10_wander_61 : decode cX10_wander 61 = .ok (.getfield 237, 3) := by decide +kernel
theorem dX10_wander_64 : decode cX10_wander 64 = .ok (.ireturn, 1) := by decide +kernel
theorem dX10_wander_65 : decode cX10_wander 65 = .ok (.iload_n 3, 1) := by decide +kernel
theorem dX10_wander_66 : decode cX10_wander 66 = .ok (.iconst 1, 1) := by decide +kernel
theorem dX10_wander_67 : decode cX10_wander 67 = .ok (.if_icmp .ne 13, 3) := by decide +kernel
theorem dX10_wander_70 : decode cX10_wander 70 = .ok (.aload_n 0, 1) := by decide +kernel
theorem dX10_wander_71 : decode cX10_wander 71 = .ok (.getfield 19, 3) := by decide +kernel
theorem dX10_wander_74 : decode cX10_wander 74 = .ok (.getfield 240, 3) := by decide +kernel
theorem dX10_wander_77 : decode cX10_wander 77 = .ok (.goto 11, 3) := by decide +kernel
theorem dX10_wander_80 : decode cX10_wander 80 = .ok (.aload_n 0, 1) := by decide +kernel
theorem dX10_wander_81 : decode cX10_wander 81 = .ok (.getfield 19, 3) := by decide +kernel
theorem dX10_wander_84 : decode cX10_wander 84 = .ok (.getfield 243, 3) := by decide +kernel
theorem dX10_wander_87 : decode cX10_wander 87 = .ok (.l2i, 1) := by decide +kernel
theorem dX10_wander_88 : decode cX10_wander 88 = .ok (.ireturn, 1) := by decide +kernel
theorem dX10_image_0 : decode cX10_image 0 = .ok (.aload_n 0, 1) := by decide +kernel
theorem dX10_image_1 : decode cX10_image 1 = .ok (.invokevirtual 188, 3) := by decide +kernel
theorem dX10_image_4 : decode cX10_image 4 = .ok (.ifCond .eq 6, 3) := by decide +kernel
theorem dX10_image_7 : decode cX10_image 7 = .ok (.bipush (-103), 2) := by decide +kernel
theorem dX10_image_9 : decode cX10_image 9 = .ok (.ireturn, 1) := by decide +kernel
theorem dX10_image_10 : decode cX10_image 10 = .ok (.aload_n 0, 1) := by decide +kernel
theorem dX10_image_11 : decode cX10_image 11 = .ok (.getfield 36, 3) := by decide +kernel
theorem dX10_image_14 : decode cX10_image 14 = .ok (.aload_n 0, 1) := by decide +kernel
theorem dX10_image_15 : decode cX10_image 15 = .ok (.getfield 32, 3) := by decide +kernel
theorem dX10_image_18 : decode cX10_image 18 = .ok (.invokevirtual 246, 3) := by decide +kernel
theorem dX10_image_21 : decode cX10_image 21 = .ok (.aload_n 0, 1) := by decide +kernel
theorem dX10_image_22 : decode cX10_image 22 = .ok (.aload_n 0, 1) := by decide +kernel
theorem dX10_image_23 : decode cX10_image 23 = .ok (.getfield 68, 3) := by decide +kernel
theorem dX10_image_26 : decode cX10_image 26 = .ok (.putfield 250, 3) := by decide +kernel
theorem dX10_image_29 : decode cX10_image 29 = .ok (.aload_n 0, 1) := by decide +kernel
theorem dX10_image_30 : decode cX10_image 30 = .ok (.getfield 32, 3) := by decide +kernel
theorem dX10_image_33 : decode cX10_image 33 = .ok (.getfield 172, 3) := by decide +kernel
theorem dX10_image_36 : decode cX10_image 36 = .ok (.ireturn, 1) := by decide +kernel
theorem dX10_restore_0 : decode cX10_restore 0 = .ok (.aload_n 0, 1) := by decide +kernel
theorem dX10_restore_1 : decode cX10_restore 1 = .ok (.getfield 250, 3) := by decide +kernel
theorem dX10_restore_4 : decode cX10_restore 4 = .ok (.ifCond .eq 14, 3) := by decide +kernel
theorem dX10_restore_7 : decode cX10_restore 7 = .ok (.aload_n 0, 1) := by decide +kernel
theorem dX10_restore_8 : decode cX10_restore 8 = .ok (.getfield 250, 3) := by decide +kernel
theorem dX10_restore_11 : decode cX10_restore 11 = .ok (.aload_n 0, 1) := by decide +kernel
theorem dX10_restore_12 : decode cX10_restore 12 = .ok (.getfield 68, 3) := by decide +kernel
theorem dX10_restore_15 : decode cX10_restore 15 = .ok (.if_icmp .eq 6, 3) := by decide +kernel
theorem dX10_restore_18 : decode cX10_restore 18 = .ok (.bipush (-103), 2) := by decide +kernel
theorem dX10_restore_20 : decode cX10_restore 20 = .ok (.ireturn, 1) := by decide +kernel
theorem dX10_restore_21 : decode cX10_restore 21 = .ok (.aload_n 0, 1) := by decide +kernel
theorem dX10_restore_22 : decode cX10_restore 22 = .ok (.getfield 32, 3) := by decide +kernel
theorem dX10_restore_25 : decode cX10_restore 25 = .ok (.aload_n 0, 1) := by decide +kernel
theorem dX10_restore_26 : decode cX10_restore 26 = .ok (.getfield 36, 3) := by decide +kernel
theorem dX10_restore_29 : decode cX10_restore 29 = .ok (.invokevirtual 246, 3) := by decide +kernel
theorem dX10_restore_32 : decode cX10_restore 32 = .ok (.aload_n 0, 1) := by decide +kernel
theorem dX10_restore_33 : decode cX10_restore 33 = .ok (.getfield 32, 3) := by decide +kernel
theorem dX10_restore_36 : decode cX10_restore 36 = .ok (.getfield 172, 3) := by decide +kernel
theorem dX10_restore_39 : decode cX10_restore 39 = .ok (.ireturn, 1) := by decide +kernel
theorem dX10_count_0 : decode cX10_count 0 = .ok (.iload_n 1, 1) := by decide +kernel
theorem dX10_count_1 : decode cX10_count 1 = .ok (.tableswitch 202 0 12 #[67, 75, 83, 91, 107, 122, 146, 154, 165, 176, 184, 192, 197], 67) := by decide +kernel
theorem dX10_count_68 : decode cX10_count 68 = .ok (.aload_n 0, 1) := by decide +kernel
theorem dX10_count_69 : decode cX10_count 69 = .ok (.getfield 27, 3) := by decide +kernel
theorem dX10_count_72 : decode cX10_count 72 = .ok (.getfield 185, 3) := by decide +kernel
theorem dX10_count_75 : decode cX10_count 75 = .ok (.ireturn, 1) := by decide +kernel
theorem dX10_count_76 : decode cX10_count 76 = .ok (.aload_n 0, 1) := by decide +kernel
theorem dX10_count_77 : decode cX10_count 77 = .ok (.getfield 27, 3) := by decide +kernel
theorem dX10_count_80 : decode cX10_count 80 = .ok (.getfield 61, 3) := by decide +kernel
theorem dX10_count_83 : decode cX10_count 83 = .ok (.ireturn, 1) := by decide +kernel
theorem dX10_count_84 : decode cX10_count 84 = .ok (.aload_n 0, 1) := by decide +kernel
theorem dX10_count_85 : decode cX10_count 85 = .ok (.getfield 32, 3) := by decide +kernel
theorem dX10_count_88 : decode cX10_count 88 = .ok (.getfield 158, 3) := by decide +kernel
theorem dX10_count_91 : decode cX10_count 91 = .ok (.ireturn, 1) := by decide +kernel
theorem dX10_count_92 : decode cX10_count 92 = .ok (.aload_n 0, 1) := by decide +kernel
theorem dX10_count_93 : decode cX10_count 93 = .ok (.getfield 32, 3) := by decide +kernel
theorem dX10_count_96 : decode cX10_count 96 = .ok (.getfield 164, 3) := by decide +kernel
theorem dX10_count_99 : decode cX10_count 99 = .ok (.ifCond .eq 7, 3) := by decide +kernel
theorem dX10_count_102 : decode cX10_count 102 = .ok (.iconst 1, 1) := by decide +kernel
theorem dX10_count_103 : decode cX10_count 103 = .ok (.goto 4, 3) := by decide +kernel
theorem dX10_count_106 : decode cX10_count 106 = .ok (.iconst 0, 1) := by decide +kernel
theorem dX10_count_107 : decode cX10_count 107 = .ok (.ireturn, 1) := by decide +kernel
theorem dX10_count_108 : decode cX10_count 108 = .ok (.aload_n 0, 1) := by decide +kernel
theorem dX10_count_109 : decode cX10_count 109 = .ok (.getfield 27, 3) := by decide +kernel
theorem dX10_count_112 : decode cX10_count 112 = .ok (.aload_n 0, 1) := by decide +kernel
theorem dX10_count_113 : decode cX10_count 113 = .ok (.getfield 32, 3) := by decide +kernel
theorem dX10_count_116 : decode cX10_count 116 = .ok (.getfield 158, 3) := by decide +kernel
theorem dX10_count_119 : decode cX10_count 119 = .ok (.invokevirtual 253, 3) := by decide +kernel
theorem dX10_count_122 : decode cX10_count 122 = .ok (.ireturn, 1) := by decide +kernel
theorem dX10_count_123 : decode cX10_count 123 = .ok (.aload_n 0, 1) := by decide +kernel
theorem dX10_count_124 : decode cX10_count 124 = .ok (.getfield 32, 3) := by decide +kernel
theorem dX10_count_127 : decode cX10_count 127 = .ok (.getfield 154, 3) := by decide +kernel
theorem dX10_count_130 : decode cX10_count 130 = .ok (.lconst 0, 1) := by decide +kernel
theorem dX10_count_131 : decode cX10_count 131 = .ok (.lcmp, 1) := by decide +kernel
theorem dX10_count_132 : decode cX10_count 132 = .ok (.ifCond .ne 7, 3) := by decide +kernel
theorem dX10_count_135 : decode cX10_count 135 = .ok (.iconst 0, 1) := by decide +kernel
theorem dX10_count_136 : decode cX10_count 136 = .ok (.goto 10, 3) := by decide +kernel
theorem dX10_count_139 : decode cX10_count 139 = .ok (.aload_n 0, 1) := by decide +kernel
theorem dX10_count_140 : decode cX10_count 140 = .ok (.getfield 19, 3) := by decide +kernel
theorem dX10_count_143 : decode cX10_count 143 = .ok (.invokevirtual 256, 3) := by decide +kernel
theorem dX10_count_146 : decode cX10_count 146 = .ok (.ireturn, 1) := by decide +kernel
theorem dX10_count_147 : decode cX10_count 147 = .ok (.aload_n 0, 1) := by decide +kernel
theorem dX10_count_148 : decode cX10_count 148 = .ok (.getfield 32, 3) := by decide +kernel
theorem dX10_count_151 : decode cX10_count 151 = .ok (.getfield 172, 3) := by decide +kernel
theorem dX10_count_154 : decode cX10_count 154 = .ok (.ireturn, 1) := by decide +kernel
theorem dX10_count_155 : decode cX10_count 155 = .ok (.aload_n 0, 1) := by decide +kernel
theorem dX10_count_156 : decode cX10_count 156 = .ok (.getfield 32, 3) := by decide +kernel
theorem dX10_count_159 : decode cX10_count 159 = .ok (.getfield 154, 3) := by decide +kernel
theorem dX10_count_162 : decode cX10_count 162 = .ok (.invokestatic 79, 3) := by decide +kernel
theorem dX10_count_165 : decode cX10_count 165 = .ok (.ireturn, 1) := by decide +kernel
theorem dX10_count_166 : decode cX10_count 166 = .ok (.aload_n 0, 1) := by decide +kernel
theorem dX10_count_167 : decode cX10_count 167 = .ok (.getfield 32, 3) := by decide +kernel
theorem dX10_count_170 : decode cX10_count 170 = .ok (.getfield 217, 3) := by decide +kernel
theorem dX10_count_173 : decode cX10_count 173 = .ok (.invokestatic 79, 3) := by decide +kernel
theorem dX10_count_176 : decode cX10_count 176 = .ok (.ireturn, 1) := by decide +kernel
theorem dX10_count_177 : decode cX10_count 177 = .ok (.aload_n 0, 1) := by decide +kernel
theorem dX10_count_178 : decode cX10_count 178 = .ok (.getfield 32, 3) := by decide +kernel
theorem dX10_count_181 : decode cX10_count 181 = .ok (.getfield 227, 3) := by decide +kernel
theorem dX10_count_184 : decode cX10_count 184 = .ok (.ireturn, 1) := by decide +kernel
theorem dX10_count_185 : decode cX10_count 185 = .ok (.aload_n 0, 1) := by decide +kernel
theorem dX10_count_186 : decode cX10_count 186 = .ok (.getfield 10, 3) := by decide +kernel
theorem dX10_count_189 : decode cX10_count 189 = .ok (.getfield 39, 3) := by decide +kernel
theorem dX10_count_192 : decode cX10_count 192 = .ok (.ireturn, 1) := by decide +kernel
theorem dX10_count_193 : decode cX10_count 193 = .ok (.aload_n 0, 1) := by decide +kernel
theorem dX10_count_194 : decode cX10_count 194 = .ok (.getfield 68, 3) := by decide +kernel
theorem dX10_count_197 : decode cX10_count 197 = .ok (.ireturn, 1) := by decide +kernel
theorem dX10_count_198 : decode cX10_count 198 = .ok (.aload_n 0, 1) := by decide +kernel
theorem dX10_count_199 : decode cX10_count 199 = .ok (.getfield 202, 3) := by decide +kernel
theorem dX10_count_202 : decode cX10_count 202 = .ok (.ireturn, 1) := by decide +kernel
theorem dX10_count_203 : decode cX10_count 203 = .ok (.bipush (-102), 2) := by decide +kernel
theorem dX10_count_205 : decode cX10_count 205 = .ok (.ireturn, 1) := by decide +kernel
theorem dX10_digest_0 : decode cX10_digest 0 = .ok (.ldc2_w 259, 3) := by decide +kernel
theorem dX10_digest_3 : decode cX10_digest 3 = .ok (.lstore_n 1, 1) := by decide +kernel
theorem dX10_digest_4 : decode cX10_digest 4 = .ok (.iconst 0, 1) := by decide +kernel
theorem dX10_digest_5 : decode cX10_digest 5 = .ok (.istore_n 3, 1) := by decide +kernel
theorem dX10_digest_6 : decode cX10_digest 6 = .ok (.iload_n 3, 1) := by decide +kernel
theorem dX10_digest_7 : decode cX10_digest 7 = .ok (.aload_n 0, 1) := by decide +kernel
theorem dX10_digest_8 : decode cX10_digest 8 = .ok (.getfield 27, 3) := by decide +kernel
theorem dX10_digest_11 : decode cX10_digest 11 = .ok (.getfield 61, 3) := by decide +kernel
theorem dX10_digest_14 : decode cX10_digest 14 = .ok (.if_icmp .ge 65, 3) := by decide +kernel
theorem dX10_digest_17 : decode cX10_digest 17 = .ok (.iconst 0, 1) := by decide +kernel
theorem dX10_digest_18 : decode cX10_digest 18 = .ok (.istore 4, 2) := by decide +kernel
theorem dX10_digest_20 : decode cX10_digest 20 = .ok (.iload 4, 2) := by decide +kernel
theorem dX10_digest_22 : decode cX10_digest 22 = .ok (.bipush 8, 2) := by decide +kernel
theorem dX10_digest_24 : decode cX10_digest 24 = .ok (.if_icmp .gt 21, 3) := by decide +kernel
theorem dX10_digest_27 : decode cX10_digest 27 = .ok (.lload_n 1, 1) := by decide +kernel
theorem dX10_digest_28 : decode cX10_digest 28 = .ok (.aload_n 0, 1) := by decide +kernel
theorem dX10_digest_29 : decode cX10_digest 29 = .ok (.iload_n 3, 1) := by decide +kernel
theorem dX10_digest_30 : decode cX10_digest 30 = .ok (.iload 4, 2) := by decide +kernel
theorem dX10_digest_32 : decode cX10_digest 32 = .ok (.invokevirtual 261, 3) := by decide +kernel
theorem dX10_digest_35 : decode cX10_digest 35 = .ok (.invokestatic 264, 3) := by decide +kernel
theorem dX10_digest_38 : decode cX10_digest 38 = .ok (.lstore_n 1, 1) := by decide +kernel
theorem dX10_digest_39 : decode cX10_digest 39 = .ok (.iinc 4 1, 3) := by decide +kernel
theorem dX10_digest_42 : decode cX10_digest 42 = .ok (.goto (-22), 3) := by decide +kernel
theorem dX10_digest_45 : decode cX10_digest 45 = .ok (.iconst 0, 1) := by decide +kernel
theorem dX10_digest_46 : decode cX10_digest 46 = .ok (.istore 4, 2) := by decide +kernel
theorem dX10_digest_48 : decode cX10_digest 48 = .ok (.iload 4, 2) := by decide +kernel
theorem dX10_digest_50 : decode cX10_digest 50 = .ok (.bipush 12, 2) := by decide +kernel
theorem dX10_digest_52 : decode cX10_digest 52 = .ok (.if_icmp .ge 21, 3) := by decide +kernel
theorem dX10_digest_55 : decode cX10_digest 55 = .ok (.lload_n 1, 1) := by decide +kernel
theorem dX10_digest_56 : decode cX10_digest 56 = .ok (.aload_n 0, 1) := by decide +kernel
theorem dX10_digest_57 : decode cX10_digest 57 = .ok (.iload_n 3, 1) := by decide +kernel
theorem dX10_digest_58 : decode cX10_digest 58 = .ok (.iload 4, 2) := by decide +kernel
theorem dX10_digest_60 : decode cX10_digest 60 = .ok (.invokevirtual 267, 3) := by decide +kernel
theorem dX10_digest_63 : decode cX10_digest 63 = .ok (.invokestatic 264, 3) := by decide +kernel
theorem dX10_digest_66 : decode cX10_digest 66 = .ok (.lstore_n 1, 1) := by decide +kernel
theorem dX10_digest_67 : decode cX10_digest 67 = .ok (.iinc 4 1, 3) := by decide +kernel
theorem dX10_digest_70 : decode cX10_digest 70 = .ok (.goto (-22), 3) := by decide +kernel
theorem dX10_digest_73 : decode cX10_digest 73 = .ok (.iinc 3 1, 3) := by decide +kernel
theorem dX10_digest_76 : decode cX10_digest 76 = .ok (.goto (-70), 3) := by decide +kernel
theorem dX10_digest_79 : decode cX10_digest 79 = .ok (.iconst 0, 1) := by decide +kernel
theorem dX10_digest_80 : decode cX10_digest 80 = .ok (.istore_n 3, 1) := by decide +kernel
theorem dX10_digest_81 : decode cX10_digest 81 = .ok (.iload_n 3, 1) := by decide +kernel
theorem dX10_digest_82 : decode cX10_digest 82 = .ok (.iconst 1, 1) := by decide +kernel
theorem dX10_digest_83 : decode cX10_digest 83 = .ok (.if_icmp .gt 16, 3) := by decide +kernel
theorem dX10_digest_86 : decode cX10_digest 86 = .ok (.aload_n 0, 1) := by decide +kernel
theorem dX10_digest_87 : decode cX10_digest 87 = .ok (.lload_n 1, 1) := by decide +kernel
theorem dX10_digest_88 : decode cX10_digest 88 = .ok (.iload_n 3, 1) := by decide +kernel
theorem dX10_digest_89 : decode cX10_digest 89 = .ok (.invokevirtual 270, 3) := by decide +kernel
theorem dX10_digest_92 : decode cX10_digest 92 = .ok (.lstore_n 1, 1) := by decide +kernel
theorem dX10_digest_93 : decode cX10_digest 93 = .ok (.iinc 3 1, 3) := by decide +kernel
theorem dX10_digest_96 : decode cX10_digest 96 = .ok (.goto (-15), 3) := by decide +kernel
theorem dX10_digest_99 : decode cX10_digest 99 = .ok (.aload_n 0, 1) := by decide +kernel
theorem dX10_digest_100 : decode cX10_digest 100 = .ok (.invokevirtual 188, 3) := by decide +kernel
theorem dX10_digest_103 : decode cX10_digest 103 = .ok (.ifCond .ne 29, 3) := by decide +kernel
theorem dX10_digest_106 : decode cX10_digest 106 = .ok (.aload_n 0, 1) := by decide +kernel
theorem dX10_digest_107 : decode cX10_digest 107 = .ok (.invokevirtual 199, 3) := by decide +kernel
theorem dX10_digest_110 : decode cX10_digest 110 = .ok (.ifCond .ne 22, 3) := by decide +kernel
theorem dX10_digest_113 : decode cX10_digest 113 = .ok (.lload_n 1, 1) := by decide +kernel
theorem dX10_digest_114 : decode cX10_digest 114 = .ok (.aload_n 0, 1) := by decide +kernel
theorem dX10_digest_115 : decode cX10_digest 115 = .ok (.iconst 2, 1) := by decide +kernel
theorem dX10_digest_116 : decode cX10_digest 116 = .ok (.invokevirtual 273, 3) := by decide +kernel
theorem dX10_digest_119 : decode cX10_digest 119 = .ok (.invokestatic 264, 3) := by decide +kernel
theorem dX10_digest_122 : decode cX10_digest 122 = .ok (.lstore_n 1, 1) := by decide +kernel
theorem dX10_digest_123 : decode cX10_digest 123 = .ok (.lload_n 1, 1) := by decide +kernel
theorem dX10_digest_124 : decode cX10_digest 124 = .ok (.aload_n 0, 1) := by decide +kernel
theorem dX10_digest_125 : decode cX10_digest 125 = .ok (.invokevirtual 276, 3) := by decide +kernel
theorem dX10_digest_128 : decode cX10_digest 128 = .ok (.invokestatic 264, 3) := by decide +kernel
theorem dX10_digest_131 : decode cX10_digest 131 = .ok (.lstore_n 1, 1) := by decide +kernel
theorem dX10_digest_132 : decode cX10_digest 132 = .ok (.iconst 0, 1) := by decide +kernel
theorem dX10_digest_133 : decode cX10_digest 133 = .ok (.istore_n 3, 1) := by decide +kernel
theorem dX10_digest_134 : decode cX10_digest 134 = .ok (.iload_n 3, 1) := by decide +kernel
theorem dX10_digest_135 : decode cX10_digest 135 = .ok (.aload_n 0, 1) := by decide +kernel
theorem dX10_digest_136 : decode cX10_digest 136 = .ok (.getfield 10, 3) := by decide +kernel
theorem dX10_digest_139 : decode cX10_digest 139 = .ok (.getfield 39, 3) := by decide +kernel
theorem dX10_digest_142 : decode cX10_digest 142 = .ok (.if_icmp .ge 22, 3) := by decide +kernel
theorem dX10_digest_145 : decode cX10_digest 145 = .ok (.lload_n 1, 1) := by decide +kernel
theorem dX10_digest_146 : decode cX10_digest 146 = .ok (.aload_n 0, 1) := by decide +kernel
theorem dX10_digest_147 : decode cX10_digest 147 = .ok (.getfield 10, 3) := by decide +kernel
theorem dX10_digest_150 : decode cX10_digest 150 = .ok (.iload_n 3, 1) := by decide +kernel
theorem dX10_digest_151 : decode cX10_digest 151 = .ok (.invokevirtual 279, 3) := by decide +kernel
theorem dX10_digest_154 : decode cX10_digest 154 = .ok (.invokestatic 264, 3) := by decide +kernel
theorem dX10_digest_157 : decode cX10_digest 157 = .ok (.lstore_n 1, 1) := by decide +kernel
theorem dX10_digest_158 : decode cX10_digest 158 = .ok (.iinc 3 1, 3) := by decide +kernel
theorem dX10_digest_161 : decode cX10_digest 161 = .ok (.goto (-27), 3) := by decide +kernel
theorem dX10_digest_164 : decode cX10_digest 164 = .ok (.iconst 0, 1) := by decide +kernel
theorem dX10_digest_165 : decode cX10_digest 165 = .ok (.istore_n 3, 1) := by decide +kernel
theorem dX10_digest_166 : decode cX10_digest 166 = .ok (.iload_n 3, 1) := by decide +kernel
theorem dX10_digest_167 : decode cX10_digest 167 = .ok (.bipush 12, 2) := by decide +kernel
theorem dX10_digest_169 : decode cX10_digest 169 = .ok (.if_icmp .gt 19, 3) := by decide +kernel
theorem dX10_digest_172 : decode cX10_digest 172 = .ok (.lload_n 1, 1) := by decide +kernel
theorem dX10_digest_173 : decode cX10_digest 173 = .ok (.aload_n 0, 1) := by decide +kernel
theorem dX10_digest_174 : decode cX10_digest 174 = .ok (.iload_n 3, 1) := by decide +kernel
theorem dX10_digest_175 : decode cX10_digest 175 = .ok (.invokevirtual 281, 3) := by decide +kernel
theorem dX10_digest_178 : decode cX10_digest 178 = .ok (.invokestatic 264, 3) := by decide +kernel
theorem dX10_digest_181 : decode cX10_digest 181 = .ok (.lstore_n 1, 1) := by decide +kernel
theorem dX10_digest_182 : decode cX10_digest 182 = .ok (.iinc 3 1, 3) := by decide +kernel
theorem dX10_digest_185 : decode cX10_digest 185 = .ok (.goto (-19), 3) := by decide +kernel
theorem dX10_digest_188 : decode cX10_digest 188 = .ok (.lload_n 1, 1) := by decide +kernel
theorem dX10_digest_189 : decode cX10_digest 189 = .ok (.lreturn, 1) := by decide +kernel
theorem dX10_digestTune_0 : decode cX10_digestTune 0 = .ok (.aload_n 0, 1) := by decide +kernel
theorem dX10_digestTune_1 : decode cX10_digestTune 1 = .ok (.getfield 32, 3) := by decide +kernel
theorem dX10_digestTune_4 : decode cX10_digestTune 4 = .ok (.iload_n 3, 1) := by decide +kernel
theorem dX10_digestTune_5 : decode cX10_digestTune 5 = .ok (.invokevirtual 84, 3) := by decide +kernel
theorem dX10_digestTune_8 : decode cX10_digestTune 8 = .ok (.lconst 0, 1) := by decide +kernel
theorem dX10_digestTune_9 : decode cX10_digestTune 9 = .ok (.lcmp, 1) := by decide +kernel
theorem dX10_digestTune_10 : decode cX10_digestTune 10 = .ok (.ifCond .ne 5, 3) := by decide +kernel
theorem dX10_digestTune_13 : decode cX10_digestTune 13 = .ok (.lload_n 1, 1) := by decide +kernel
theorem dX10_digestTune_14 : decode cX10_digestTune 14 = .ok (.lreturn, 1) := by decide +kernel
theorem dX10_digestTune_15 : decode cX10_digestTune 15 = .ok (.lload_n 1, 1) := by decide +kernel
theorem dX10_digestTune_16 : decode cX10_digestTune 16 = .ok (.lstore 4, 2) := by decide +kernel
theorem dX10_digestTune_18 : decode cX10_digestTune 18 = .ok (.iconst 0, 1) := by decide +kernel
theorem dX10_digestTune_19 : decode cX10_digestTune 19 = .ok (.istore 6, 2) := by decide +kernel
theorem dX10_digestTune_21 : decode cX10_digestTune 21 = .ok (.iload 6, 2) := by decide +kernel
theorem dX10_digestTune_23 : decode cX10_digestTune 23 = .ok (.iconst 4, 1) := by decide +kernel
theorem dX10_digestTune_24 : decode cX10_digestTune 24 = .ok (.if_icmp .gt 23, 3) := by decide +kernel
theorem dX10_digestTune_27 : decode cX10_digestTune 27 = .ok (.lload 4, 2) := by decide +kernel
theorem dX10_digestTune_29 : decode cX10_digestTune 29 = .ok (.aload_n 0, 1) := by decide +kernel
theorem dX10_digestTune_30 : decode cX10_digestTune 30 = .ok (.iload_n 3, 1) := by decide +kernel
theorem dX10_digestTune_31 : decode cX10_digestTune 31 = .ok (.iload 6, 2) := by decide +kernel
theorem dX10_digestTune_33 : decode cX10_digestTune 33 = .ok (.invokevirtual 284, 3) := by decide +kernel
theorem dX10_digestTune_36 : decode cX10_digestTune 36 = .ok (.invokestatic 264, 3) := by decide +kernel
theorem dX10_digestTune_39 : decode cX10_digestTune 39 = .ok (.lstore 4, 2) := by decide +kernel
theorem dX10_digestTune_41 : decode cX10_digestTune 41 = .ok (.iinc 6 1, 3) := by decide +kernel
theorem dX10_digestTune_44 : decode cX10_digestTune 44 = .ok (.goto (-23), 3) := by decide +kernel
theorem dX10_digestTune_47 : decode cX10_digestTune 47 = .ok (.bipush 10, 2) := by decide +kernel
theorem dX10_digestTune_49 : decode cX10_digestTune 49 = .ok (.istore 6, 2) := by decide +kernel
theorem dX10_digestTune_51 : decode cX10_digestTune 51 = .ok (.iload 6, 2) := by decide +kernel
theorem dX10_digestTune_53 : decode cX10_digestTune 53 = .ok (.bipush 18, 2) := by decide +kernel
theorem dX10_digestTune_55 : decode cX10_digestTune 55 = .ok (.if_icmp .ge 23, 3) := by decide +kernel
theorem dX10_digestTune_58 : decode cX10_digestTune 58 = .ok (.lload 4, 2) := by decide +kernel
theorem dX10_digestTune_60 : decode cX10_digestTune 60 = .ok (.aload_n 0, 1) := by decide +kernel
theorem dX10_digestTune_61 : decode cX10_digestTune 61 = .ok (.iload_n 3, 1) := by decide +kernel
theorem dX10_digestTune_62 : decode cX10_digestTune 62 = .ok (.iload 6, 2) := by decide +kernel
theorem dX10_digestTune_64 : decode cX10_digestTune 64 = .ok (.invokevirtual 284, 3) := by decide +kernel
theorem dX10_digestTune_67 : decode cX10_digestTune 67 = .ok (.invokestatic 264, 3) := by decide +kernel
theorem dX10_digestTune_70 : decode cX10_digestTune 70 = .ok (.lstore 4, 2) := by decide +kernel
theorem dX10_digestTune_72 : decode cX10_digestTune 72 = .ok (.iinc 6 1, 3) := by decide +kernel
theorem dX10_digestTune_75 : decode cX10_digestTune 75 = .ok (.goto (-24), 3) := by decide +kernel
theorem dX10_digestTune_78 : decode cX10_digestTune 78 = .ok (.lload 4, 2) := by decide +kernel
theorem dX10_digestTune_80 : decode cX10_digestTune 80 = .ok (.lreturn, 1) := by decide +kernel
theorem dX10_mix_0 : decode cX10_mix 0 = .ok (.ldc2_w 287, 3) := by decide +kernel
theorem dX10_mix_3 : decode cX10_mix 3 = .ok (.lload_n 0, 1) := by decide +kernel
theorem dX10_mix_4 : decode cX10_mix 4 = .ok (.lmul, 1) := by decide +kernel
theorem dX10_mix_5 : decode cX10_mix 5 = .ok (.iload_n 2, 1) := by decide +kernel
theorem dX10_mix_6 : decode cX10_mix 6 = .ok (.i2l, 1) := by decide +kernel
theorem dX10_mix_7 : decode cX10_mix 7 = .ok (.ladd, 1) := by decide +kernel
theorem dX10_mix_8 : decode cX10_mix 8 = .ok (.lreturn, 1) := by decide +kernel
theorem dX10_noCity_0 : decode cX10_noCity 0 = .ok (.aload_n 0, 1) := by decide +kernel
theorem dX10_noCity_1 : decode cX10_noCity 1 = .ok (.getfield 27, 3) := by decide +kernel
theorem dX10_noCity_4 : decode cX10_noCity 4 = .ok (.getfield 61, 3) := by decide +kernel
theorem dX10_noCity_7 : decode cX10_noCity 7 = .ok (.ifCond .ne 7, 3) := by decide +kernel
theorem dX10_noCity_10 : decode cX10_noCity 10 = .ok (.iconst 1, 1) := by decide +kernel
theorem dX10_noCity_11 : decode cX10_noCity 11 = .ok (.goto 4, 3) := by decide +kernel
theorem dX10_noCity_14 : decode cX10_noCity 14 = .ok (.iconst 0, 1) := by decide +kernel
theorem dX10_noCity_15 : decode cX10_noCity 15 = .ok (.ireturn, 1) := by decide +kernel
theorem dX10_noTunes_0 : decode cX10_noTunes 0 = .ok (.aload_n 0, 1) := by decide +kernel
theorem dX10_noTunes_1 : decode cX10_noTunes 1 = .ok (.getfield 32, 3) := by decide +kernel
theorem dX10_noTunes_4 : decode cX10_noTunes 4 = .ok (.getfield 154, 3) := by decide +kernel
theorem dX10_noTunes_7 : decode cX10_noTunes 7 = .ok (.lconst 0, 1) := by decide +kernel
theorem dX10_noTunes_8 : decode cX10_noTunes 8 = .ok (.lcmp, 1) := by decide +kernel
theorem dX10_noTunes_9 : decode cX10_noTunes 9 = .ok (.ifCond .eq 15, 3) := by decide +kernel
theorem dX10_noTunes_12 : decode cX10_noTunes 12 = .ok (.aload_n 0, 1) := by decide +kernel
theorem dX10_noTunes_13 : decode cX10_noTunes 13 = .ok (.getfield 32, 3) := by decide +kernel
theorem dX10_noTunes_16 : decode cX10_noTunes 16 = .ok (.getfield 217, 3) := by decide +kernel
theorem dX10_noTunes_19 : decode cX10_noTunes 19 = .ok (.lconst 0, 1) := by decide +kernel
theorem dX10_noTunes_20 : decode cX10_noTunes 20 = .ok (.lcmp, 1) := by decide +kernel
theorem dX10_noTunes_21 : decode cX10_noTunes 21 = .ok (.ifCond .ne 7, 3) := by decide +kernel
theorem dX10_noTunes_24 : decode cX10_noTunes 24 = .ok (.iconst 1, 1) := by decide +kernel
theorem dX10_noTunes_25 : decode cX10_noTunes 25 = .ok (.goto 4, 3) := by decide +kernel
theorem dX10_noTunes_28 : decode cX10_noTunes 28 = .ok (.iconst 0, 1) := by decide +kernel
theorem dX10_noTunes_29 : decode cX10_noTunes 29 = .ok (.ireturn, 1) := by decide +kernel
theorem dX10_isNote_0 : decode cX10_isNote 0 = .ok (.iload_n 0, 1) := by decide +kernel
theorem dX10_isNote_1 : decode cX10_isNote 1 = .ok (.ifCond .lt 13, 3) := by decide +kernel
theorem dX10_isNote_4 : decode cX10_isNote 4 = .ok (.iload_n 0, 1) := by decide +kernel
theorem dX10_isNote_5 : decode cX10_isNote 5 = .ok (.bipush 12, 2) := by decide +kernel
theorem dX10_isNote_7 : decode cX10_isNote 7 = .ok (.if_icmp .ge 7, 3) := by decide +kernel
theorem dX10_isNote_10 : decode cX10_isNote 10 = .ok (.iconst 1, 1) := by decide +kernel
theorem dX10_isNote_11 : decode cX10_isNote 11 = .ok (.goto 4, 3) := by decide +kernel
theorem dX10_isNote_14 : decode cX10_isNote 14 = .ok (.iconst 0, 1) := by decide +kernel
theorem dX10_isNote_15 : decode cX10_isNote 15 = .ok (.ireturn, 1) := by decide +kernel
theorem dX10_leaves_0 : decode cX10_leaves 0 = .ok (.iconst 0, 1) := by decide +kernel
theorem dX10_leaves_1 : decode cX10_leaves 1 = .ok (.istore_n 2, 1) := by decide +kernel
theorem dX10_leaves_2 : decode cX10_leaves 2 = .ok (.iconst 0, 1) := by decide +kernel
theorem dX10_leaves_3 : decode cX10_leaves 3 = .ok (.istore_n 3, 1) := by decide +kernel
theorem dX10_leaves_4 : decode cX10_leaves 4 = .ok (.iload_n 3, 1) := by decide +kernel
theorem dX10_leaves_5 : decode cX10_leaves 5 = .ok (.bipush 12, 2) := by decide +kernel
theorem dX10_leaves_7 : decode cX10_leaves 7 = .ok (.if_icmp .ge 25, 3) := by decide +kernel
theorem dX10_leaves_10 : decode cX10_leaves 10 = .ok (.aload_n 0, 1) := by decide +kernel
theorem dX10_leaves_11 : decode cX10_leaves 11 = .ok (.iload_n 3, 1) := by decide +kernel
theorem dX10_leaves_12 : decode cX10_leaves 12 = .ok (.iload_n 1, 1) := by decide +kernel
theorem dX10_leaves_13 : decode cX10_leaves 13 = .ok (.invokevirtual 150, 3) := by decide +kernel
theorem dX10_leaves_16 : decode cX10_leaves 16 = .ok (.iload_n 3, 1) := by decide +kernel
theorem dX10_leaves_17 : decode cX10_leaves 17 = .ok (.if_icmp .ne 9, 3) := by decide +kernel
theorem dX10_leaves_20 : decode cX10_leaves 20 = .ok (.iload_n 2, 1) := by decide +kernel
theorem dX10_leaves_21 : decode cX10_leaves 21 = .ok (.iconst 1, 1) := by decide +kernel
theorem dX10_leaves_22 : decode cX10_leaves 22 = .ok (.iload_n 3, 1) := by decide +kernel
theorem dX10_leaves_23 : decode cX10_leaves 23 = .ok (.ishl, 1) := by decide +kernel
theorem dX10_leaves_24 : decode cX10_leaves 24 = .ok (.ior, 1) := by decide +kernel
theorem dX10_leaves_25 : decode cX10_leaves 25 = .ok (.istore_n 2, 1) := by decide +kernel
theorem dX10_leaves_26 : decode cX10_leaves 26 = .ok (.iinc 3 1, 3) := by decide +kernel
theorem dX10_leaves_29 : decode cX10_leaves 29 = .ok (.goto (-25), 3) := by decide +kernel
theorem dX10_leaves_32 : decode cX10_leaves 32 = .ok (.iload_n 2, 1) := by decide +kernel
theorem dX10_leaves_33 : decode cX10_leaves 33 = .ok (.ireturn, 1) := by decide +kernel
theorem dX10_again_0 : decode cX10_again 0 = .ok (.aload_n 0, 1) := by decide +kernel
theorem dX10_again_1 : decode cX10_again 1 = .ok (.getfield 32, 3) := by decide +kernel
theorem dX10_again_4 : decode cX10_again 4 = .ok (.getfield 154, 3) := by decide +kernel
theorem dX10_again_7 : decode cX10_again 7 = .ok (.lconst 0, 1) := by decide +kernel
theorem dX10_again_8 : decode cX10_again 8 = .ok (.lcmp, 1) := by decide +kernel
theorem dX10_again_9 : decode cX10_again 9 = .ok (.ifCond .ne 5, 3) := by decide +kernel
theorem dX10_again_12 : decode cX10_again 12 = .ok (.iconst (-1), 1) := by decide +kernel
theorem dX10_again_13 : decode cX10_again 13 = .ok (.ireturn, 1) := by decide +kernel
theorem dX10_again_14 : decode cX10_again 14 = .ok (.aload_n 0, 1) := by decide +kernel
theorem dX10_again_15 : decode cX10_again 15 = .ok (.getfield 32, 3) := by decide +kernel
theorem dX10_again_18 : decode cX10_again 18 = .ok (.getfield 154, 3) := by decide +kernel
theorem dX10_again_21 : decode cX10_again 21 = .ok (.lstore_n 3, 1) := by decide +kernel
theorem dX10_again_22 : decode cX10_again 22 = .ok (.iconst 1, 1) := by decide +kernel
theorem dX10_again_23 : decode cX10_again 23 = .ok (.istore 5, 2) := by decide +kernel
theorem dX10_again_25 : decode cX10_again 25 = .ok (.iload 5, 2) := by decide +kernel
theorem dX10_again_27 : decode cX10_again 27 = .ok (.bipush 24, 2) := by decide +kernel
theorem dX10_again_29 : decode cX10_again 29 = .ok (.if_icmp .gt 31, 3) := by decide +kernel
theorem dX10_again_32 : decode cX10_again 32 = .ok (.aload_n 1, 1) := by decide +kernel
theorem dX10_again_33 : decode cX10_again 33 = .ok (.lload_n 3, 1) := by decide +kernel
theorem dX10_again_34 : decode cX10_again 34 = .ok (.iload_n 2, 1) := by decide +kernel
theorem dX10_again_35 : decode cX10_again 35 = .ok (.invokevirtual 175, 3) := by decide +kernel
theorem dX10_again_38 : decode cX10_again 38 = .ok (.lstore_n 3, 1) := by decide +kernel
theorem dX10_again_39 : decode cX10_again 39 = .ok (.lload_n 3, 1) := by decide +kernel
theorem dX10_again_40 : decode cX10_again 40 = .ok (.aload_n 0, 1) := by decide +kernel
theorem dX10_again_41 : decode cX10_again 41 = .ok (.getfield 32, 3) := by decide +kernel
theorem dX10_again_44 : decode cX10_again 44 = .ok (.getfield 154, 3) := by decide +kernel
theorem dX10_again_47 : decode cX10_again 47 = .ok (.lcmp, 1) := by decide +kernel
theorem dX10_again_48 : decode cX10_again 48 = .ok (.ifCond .ne 6, 3) := by decide +kernel
theorem dX10_again_51 : decode cX10_again 51 = .ok (.iload 5, 2) := by decide +kernel
theorem dX10_again_53 : decode cX10_again 53 = .ok (.ireturn, 1) := by decide +kernel
theorem dX10_again_54 : decode cX10_again 54 = .ok (.iinc 5 1, 3) := by decide +kernel
theorem dX10_again_57 : decode cX10_again 57 = .ok (.goto (-32), 3) := by decide +kernel
theorem dX10_again_60 : decode cX10_again 60 = .ok (.iconst (-1), 1) := by decide +kernel
theorem dX10_again_61 : decode cX10_again 61 = .ok (.ireturn, 1) := by decide +kernel
theorem dX10_tonics_0 : decode cX10_tonics 0 = .ok (.iconst 0, 1) := by decide +kernel
theorem dX10_tonics_1 : decode cX10_tonics 1 = .ok (.istore_n 3, 1) := by decide +kernel
theorem dX10_tonics_2 : decode cX10_tonics 2 = .ok (.iconst 0, 1) := by decide +kernel
theorem dX10_tonics_3 : decode cX10_tonics 3 = .ok (.istore 4, 2) := by decide +kernel
theorem dX10_tonics_5 : decode cX10_tonics 5 = .ok (.iload 4, 2) := by decide +kernel
theorem dX10_tonics_7 : decode cX10_tonics 7 = .ok (.bipush 12, 2) := by decide +kernel
theorem dX10_tonics_9 : decode cX10_tonics 9 = .ok (.if_icmp .ge 30, 3) := by decide +kernel
theorem dX10_tonics_12 : decode cX10_tonics 12 = .ok (.aload_n 0, 1) := by decide +kernel
theorem dX10_tonics_13 : decode cX10_tonics 13 = .ok (.getfield 32, 3) := by decide +kernel
theorem dX10_tonics_16 : decode cX10_tonics 16 = .ok (.aload_n 1, 1) := by decide +kernel
theorem dX10_tonics_17 : decode cX10_tonics 17 = .ok (.iload_n 2, 1) := by decide +kernel
theorem dX10_tonics_18 : decode cX10_tonics 18 = .ok (.iload 4, 2) := by decide +kernel
theorem dX10_tonics_20 : decode cX10_tonics 20 = .ok (.invokevirtual 289, 3) := by decide +kernel
theorem dX10_tonics_23 : decode cX10_tonics 23 = .ok (.ifCond .eq 10, 3) := by decide +kernel
theorem dX10_tonics_26 : decode cX10_tonics 26 = .ok (.iload_n 3, 1) := by decide +kernel
theorem dX10_tonics_27 : decode cX10_tonics 27 = .ok (.iconst 1, 1) := by decide +kernel
theorem dX10_tonics_28 : decode cX10_tonics 28 = .ok (.iload 4, 2) := by decide +kernel
theorem dX10_tonics_30 : decode cX10_tonics 30 = .ok (.ishl, 1) := by decide +kernel
theorem dX10_tonics_31 : decode cX10_tonics 31 = .ok (.ior, 1) := by decide +kernel
theorem dX10_tonics_32 : decode cX10_tonics 32 = .ok (.istore_n 3, 1) := by decide +kernel
theorem dX10_tonics_33 : decode cX10_tonics 33 = .ok (.iinc 4 1, 3) := by decide +kernel
theorem dX10_tonics_36 : decode cX10_tonics 36 = .ok (.goto (-31), 3) := by decide +kernel
theorem dX10_tonics_39 : decode cX10_tonics 39 = .ok (.iload_n 3, 1) := by decide +kernel
theorem dX10_tonics_40 : decode cX10_tonics 40 = .ok (.ireturn, 1) := by decide +kernel
theorem dX10_ask_0 : decode cX10_ask 0 = .ok (.iload_n 1, 1) := by decide +kernel
theorem dX10_ask_1 : decode cX10_ask 1 = .ok (.ifCond .ne 5, 3) := by decide +kernel
theorem dX10_ask_4 : decode cX10_ask 4 = .ok (.iconst (-1), 1) := by decide +kernel
theorem dX10_ask_5 : decode cX10_ask 5 = .ok (.ireturn, 1) := by decide +kernel
theorem dX10_ask_6 : decode cX10_ask 6 = .ok (.iconst (-1), 1) := by decide +kernel
theorem dX10_ask_7 : decode cX10_ask 7 = .ok (.istore_n 2, 1) := by decide +kernel
theorem dX10_ask_8 : decode cX10_ask 8 = .ok (.bipush 13, 2) := by decide +kernel
theorem dX10_ask_10 : decode cX10_ask 10 = .ok (.istore_n 3, 1) := by decide +kernel
theorem dX10_ask_11 : decode cX10_ask 11 = .ok (.iconst 0, 1) := by decide +kernel
theorem dX10_ask_12 : decode cX10_ask 12 = .ok (.istore 4, 2) := by decide +kernel
theorem dX10_ask_14 : decode cX10_ask 14 = .ok (.iload 4, 2) := by decide +kernel
theorem dX10_ask_16 : decode cX10_ask 16 = .ok (.bipush 12, 2) := by decide +kernel
theorem dX10_ask_18 : decode cX10_ask 18 = .ok (.if_icmp .ge 30, 3) := by decide +kernel
theorem dX10_ask_21 : decode cX10_ask 21 = .ok (.aload_n 0, 1) := by decide +kernel
theorem dX10_ask_22 : decode cX10_ask 22 = .ok (.iload 4, 2) := by decide +kernel
theorem dX10_ask_24 : decode cX10_ask 24 = .ok (.iload_n 1, 1) := by decide +kernel
theorem dX10_ask_25 : decode cX10_ask 25 = .ok (.invokestatic 293, 3) := by decide +kernel
theorem dX10_ask_28 : decode cX10_ask 28 = .ok (.istore 5, 2) := by decide +kernel
theorem dX10_ask_30 : decode cX10_ask 30 = .ok (.iload 5, 2) := by decide +kernel
theorem dX10_ask_32 : decode cX10_ask 32 = .ok (.iload_n 3, 1) := by decide +kernel
theorem dX10_ask_33 : decode cX10_ask 33 = .ok (.if_icmp .ge 9, 3) := by decide +kernel
theorem dX10_ask_36 : decode cX10_ask 36 = .ok (.iload 5, 2) := by decide +kernel
theorem dX10_ask_38 : decode cX10_ask 38 = .ok (.istore_n 3, 1) := by decide +kernel
theorem dX10_ask_39 : decode cX10_ask 39 = .ok (.iload 4, 2) := by decide +kernel
theorem dX10_ask_41 : decode cX10_ask 41 = .ok (.istore_n 2, 1) := by decide +kernel
theorem dX10_ask_42 : decode cX10_ask 42 = .ok (.iinc 4 1, 3) := by decide +kernel
theorem dX10_ask_45 : decode cX10_ask 45 = .ok (.goto (-31), 3) := by decide +kernel
theorem dX10_ask_48 : decode cX10_ask 48 = .ok (.iload_n 2, 1) := by decide +kernel
theorem dX10_ask_49 : decode cX10_ask 49 = .ok (.ireturn, 1) := by decide +kernel
theorem dX10_leftAtWorst_0 : decode cX10_leftAtWorst 0 = .ok (.lconst 0, 1) := by decide +kernel
theorem dX10_leftAtWorst_1 : decode cX10_leftAtWorst 1 = .ok (.lstore_n 3, 1) := by decide +kernel
theorem dX10_leftAtWorst_2 : decode cX10_leftAtWorst 2 = .ok (.iconst 0, 1) := by decide +kernel
theorem dX10_leftAtWorst_3 : decode cX10_leftAtWorst 3 = .ok (.istore 5, 2) := by decide +kernel
theorem dX10_leftAtWorst_5 : decode cX10_leftAtWorst 5 = .ok (.iconst 0, 1) := by decide +kernel
theorem dX10_leftAtWorst_6 : decode cX10_leftAtWorst 6 = .ok (.istore 6, 2) := by decide +kernel
theorem dX10_leftAtWorst_8 : decode cX10_leftAtWorst 8 = .ok (.iload 6, 2) := by decide +kernel
theorem dX10_leftAtWorst_10 : decode cX10_leftAtWorst 10 = .ok (.bipush 12, 2) := by decide +kernel
theorem dX10_leftAtWorst_12 : decode cX10_leftAtWorst 12 = .ok (.if_icmp .ge 53, 3) := by decide +kernel
theorem dX10_leftAtWorst_15 : decode cX10_leftAtWorst 15 = .ok (.iload_n 2, 1) := by decide +kernel
theorem dX10_leftAtWorst_16 : decode cX10_leftAtWorst 16 = .ok (.iload 6, 2) := by decide +kernel
theorem dX10_leftAtWorst_18 : decode cX10_leftAtWorst 18 = .ok (.ishr, 1) := by decide +kernel
theorem dX10_leftAtWorst_19 : decode cX10_leftAtWorst 19 = .ok (.iconst 1, 1) := by decide +kernel
theorem dX10_leftAtWorst_20 : decode cX10_leftAtWorst 20 = .ok (.iand, 1) := by decide +kernel
theorem dX10_leftAtWorst_21 : decode cX10_leftAtWorst 21 = .ok (.iconst 1, 1) := by decide +kernel
theorem dX10_leftAtWorst_22 : decode cX10_leftAtWorst 22 = .ok (.if_icmp .ne 37, 3) := by decide +kernel
theorem dX10_leftAtWorst_25 : decode cX10_leftAtWorst 25 = .ok (.iconst 4, 1) := by decide +kernel
theorem dX10_leftAtWorst_26 : decode cX10_leftAtWorst 26 = .ok (.aload_n 0, 1) := by decide +kernel
theorem dX10_leftAtWorst_27 : decode cX10_leftAtWorst 27 = .ok (.iload_n 1, 1) := by decide +kernel
theorem dX10_leftAtWorst_28 : decode cX10_leftAtWorst 28 = .ok (.iload 6, 2) := by decide +kernel
theorem dX10_leftAtWorst_30 : decode cX10_leftAtWorst 30 = .ok (.invokevirtual 150, 3) := by decide +kernel
theorem dX10_leftAtWorst_33 : decode cX10_leftAtWorst 33 = .ok (.imul, 1) := by decide +kernel
theorem dX10_leftAtWorst_34 : decode cX10_leftAtWorst 34 = .ok (.istore 7, 2) := by decide +kernel
theorem dX10_leftAtWorst_36 : decode cX10_leftAtWorst 36 = .ok (.lload_n 3, 1) := by decide +kernel
theorem dX10_leftAtWorst_37 : decode cX10_leftAtWorst 37 = .ok (.lconst 1, 1) := by decide +kernel
theorem dX10_leftAtWorst_38 : decode cX10_leftAtWorst 38 = .ok (.iload 7, 2) := by decide +kernel
theorem dX10_leftAtWorst_40 : decode cX10_leftAtWorst 40 = .ok (.lshl, 1) := by decide +kernel
theorem dX10_leftAtWorst_41 : decode cX10_leftAtWorst 41 = .ok (.ladd, 1) := by decide +kernel
theorem dX10_leftAtWorst_42 : decode cX10_leftAtWorst 42 = .ok (.lstore_n 3, 1) := by decide +kernel
theorem dX10_leftAtWorst_43 : decode cX10_leftAtWorst 43 = .ok (.iload 5, 2) := by decide +kernel
theorem dX10_leftAtWorst_45 : decode cX10_leftAtWorst 45 = .ok (.lload_n 3, 1) := by decide +kernel
theorem dX10_leftAtWorst_46 : decode cX10_leftAtWorst 46 = .ok (.iload 7, 2) := by decide +kernel
theorem dX10_leftAtWorst_48 : decode cX10_leftAtWorst 48 = .ok (.lushr, 1) := by decide +kernel
theorem dX10_leftAtWorst_49 : decode cX10_leftAtWorst 49 = .ok (.ldc2_w 297, 3) := by decide +kernel
theorem dX10_leftAtWorst_52 : decode cX10_leftAtWorst 52 = .ok (.land, 1) := by decide +kernel
theorem dX10_leftAtWorst_53 : decode cX10_leftAtWorst 53 = .ok (.l2i, 1) := by decide +kernel
theorem dX10_leftAtWorst_54 : decode cX10_leftAtWorst 54 = .ok (.invokestatic 299, 3) := by decide +kernel
theorem dX10_leftAtWorst_57 : decode cX10_leftAtWorst 57 = .ok (.istore 5, 2) := by decide +kernel
theorem dX10_leftAtWorst_59 : decode cX10_leftAtWorst 59 = .ok (.iinc 6 1, 3) := by decide +kernel
theorem dX10_leftAtWorst_62 : decode cX10_leftAtWorst 62 = .ok (.goto (-54), 3) := by decide +kernel
theorem dX10_leftAtWorst_65 : decode cX10_leftAtWorst 65 = .ok (.iload 5, 2) := by decide +kernel
theorem dX10_leftAtWorst_67 : decode cX10_leftAtWorst 67 = .ok (.ireturn, 1) := by decide +kernel
theorem dX11_init_0 : decode cX11_init 0 = .ok (.aload_n 0, 1) := by decide +kernel
theorem dX11_init_1 : decode cX11_init 1 = .ok (.invokespecial 1, 3) := by decide +kernel
theorem dX11_init_4 : decode cX11_init 4 = .ok (.aload_n 0, 1) := by decide +kernel
theorem dX11_init_5 : decode cX11_init 5 = .ok (.bipush 44, 2) := by decide +kernel
theorem dX11_init_7 : decode cX11_init 7 = .ok (.newarray .int, 2) := by decide +kernel
theorem dX11_init_9 : decode cX11_init 9 = .ok (.putfield 7, 3) := by decide +kernel
theorem dX11_init_12 : decode cX11_init 12 = .ok (.aload_n 0, 1) := by decide +kernel
theorem dX11_init_13 : decode cX11_init 13 = .ok (.bipush 24, 2) := by decide +kernel
theorem dX11_init_15 : decode cX11_init 15 = .ok (.newarray .int, 2) := by decide +kernel
theorem dX11_init_17 : decode cX11_init 17 = .ok (.putfield 13, 3) := by decide +kernel
theorem dX11_init_20 : decode cX11_init 20 = .ok (.aload_n 0, 1) := by decide +kernel
theorem dX11_init_21 : decode cX11_init 21 = .ok (.bipush 8, 2) := by decide +kernel
theorem dX11_init_23 : decode cX11_init 23 = .ok (.newarray .int, 2) := by decide +kernel
theorem dX11_init_25 : decode cX11_init 25 = .ok (.putfield 16, 3) := by decide +kernel
theorem dX11_init_28 : decode cX11_init 28 = .ok (.aload_n 0, 1) := by decide +kernel
theorem dX11_init_29 : decode cX11_init 29 = .ok (.bipush 8, 2) := by decide +kernel
theorem dX11_init_31 : decode cX11_init 31 = .ok (.newarray .int, 2) := by decide +kernel
theorem dX11_init_33 : decode cX11_init 33 = .ok (.putfield 19, 3) := by decide +kernel
theorem dX11_init_36 : decode cX11_init 36 = .ok (.aload_n 0, 1) := by decide +kernel
theorem dX11_init_37 : decode cX11_init 37 = .ok (.bipush 8, 2) := by decide +kernel
theorem dX11_init_39 : decode cX11_init 39 = .ok (.newarray .int, 2) := by decide +kernel
theorem dX11_init_41 : decode cX11_init 41 = .ok (.putfield 22, 3) := by decide +kernel
theorem dX11_init_44 : decode cX11_init 44 = .ok (.aload_n 0, 1) := by decide +kernel
theorem dX11_init_45 : decode cX11_init 45 = .ok (.bipush 8, 2) := by decide +kernel
theorem dX11_init_47 : decode cX11_init 47 = .ok (.newarray .int, 2) := by decide +kernel
theorem dX11_init_49 : decode cX11_init 49 = .ok (.putfield 25, 3) := by decide +kernel
theorem dX11_init_52 : decode cX11_init 52 = .ok (.aload_n 0, 1) := by decide +kernel
theorem dX11_init_53 : decode cX11_init 53 = .ok (.bipush 8, 2) := by decide +kernel
theorem dX11_init_55 : decode cX11_init 55 = .ok (.newarray .int, 2) := by decide +kernel
theorem dX11_init_57 : decode cX11_init 57 = .ok (.putfield 28, 3) := by decide +kernel
theorem dX11_init_60 : decode cX11_init 60 = .ok (.aload_n 0, 1) := by decide +kernel
theorem dX11_init_61 : decode cX11_init 61 = .ok (.bipush 8, 2) := by decide +kernel
theorem dX11_init_63 : decode cX11_init 63 = .ok (.newarray .int, 2) := by decide +kernel
theorem dX11_init_65 : decode cX11_init 65 = .ok (.putfield 31, 3) := by decide +kernel
theorem dX11_init_68 : decode cX11_init 68 = .ok (.aload_n 0, 1) := by decide +kernel
theorem dX11_init_69 : decode cX11_init 69 = .ok (.bipush 48, 2) := by decide +kernel
theorem dX11_init_71 : decode cX11_init 71 = .ok (.newarray .int, 2) := by decide +kernel
theorem dX11_init_73 : decode cX11_init 73 = .ok (.putfield 34, 3) := by decide +kernel
theorem dX11_init_76 : decode cX11_init 76 = .ok (.aload_n 0, 1) := by decide +kernel
theorem dX11_init_77 : decode cX11_init 77 = .ok (.bipush 6, 2) := by decide +kernel
theorem dX11_init_79 : decode cX11_init 79 = .ok (.newarray .int, 2) := by decide +kernel
theorem dX11_init_81 : decode cX11_init 81 = .ok (.putfield 37, 3) := by decide +kernel
theorem dX11_init_84 : decode cX11_init 84 = .ok (.aload_n 0, 1) := by decide +kernel
theorem dX11_init_85 : decode cX11_init 85 = .ok (.bipush 6, 2) := by decide +kernel
theorem dX11_init_87 : decode cX11_init 87 = .ok (.newarray .int, 2) := by decide +kernel
theorem dX11_init_89 : decode cX11_init 89 = .ok (.putfield 40, 3) := by decide +kernel
theorem dX11_init_92 : decode cX11_init 92 = .ok (.aload_n 0, 1) := by decide +kernel
theorem dX11_init_93 : decode cX11_init 93 = .ok (.sipush 512, 3) := by decide +kernel
theorem dX11_init_96 : decode cX11_init 96 = .ok (.newarray .int, 2) := by decide +kernel
theorem dX11_init_98 : decode cX11_init 98 = .ok (.putfield 43, 3) := by decide +kernel
theorem dX11_init_101 : decode cX11_init 101 = .ok (.aload_n 0, 1) := by decide +kernel
theorem dX11_init_102 : decode cX11_init 102 = .ok (.bipush 18, 2) := by decide +kernel
theorem dX11_init_104 : decode cX11_init 104 = .ok (.newarray .int, 2) := by decide +kernel
theorem dX11_init_106 : decode cX11_init 106 = .ok (.putfield 46, 3) := by decide +kernel
theorem dX11_init_109 : decode cX11_init 109 = .ok (.aload_n 0, 1) := by decide +kernel
theorem dX11_init_110 : decode cX11_init 110 = .ok (.bipush 12, 2) := by decide +kernel
theorem dX11_init_112 : decode cX11_init 112 = .ok (.newarray .int, 2) := by decide +kernel
theorem dX11_init_114 : decode cX11_init 114 = .ok (.putfield 49, 3) := by decide +kernel
theorem dX11_init_117 : decode cX11_init 117 = .ok (.aload_n 0, 1) := by decide +kernel
theorem dX11_init_118 : decode cX11_init 118 = .ok (.bipush 8, 2) := by decide +kernel
theorem dX11_init_120 : decode cX11_init 120 = .ok (.newarray .int, 2) := by decide +kernel
theorem dX11_init_122 : decode cX11_init 122 = .ok (.putfield 52, 3) := by decide +kernel
theorem dX11_init_125 : decode cX11_init 125 = .ok (.aload_n 0, 1) := by decide +kernel
theorem dX11_init_126 : decode cX11_init 126 = .ok (.bipush 8, 2) := by decide +kernel
theorem dX11_init_128 : decode cX11_init 128 = .ok (.newarray .int, 2) := by decide +kernel
theorem dX11_init_130 : decode cX11_init 130 = .ok (.putfield 55, 3) := by decide +kernel
theorem dX11_init_133 : decode cX11_init 133 = .ok (.aload_n 0, 1) := by decide +kernel
theorem dX11_init_134 : decode cX11_init 134 = .ok (.bipush 8, 2) := by decide +kernel
theorem dX11_init_136 : decode cX11_init 136 = .ok (.newarray .int, 2) := by decide +kernel
theorem dX11_init_138 : decode cX11_init 138 = .ok (.putfield 58, 3) := by decide +kernel
theorem dX11_init_141 : decode cX11_init 141 = .ok (.aload_n 0, 1) := by decide +kernel
theorem dX11_init_142 : decode cX11_init 142 = .ok (.bipush 8, 2) := by decide +kernel
theorem dX11_init_144 : decode cX11_init 144 = .ok (.newarray .int, 2) := by decide +kernel
theorem dX11_init_146 : decode cX11_init 146 = .ok (.putfield 61, 3) := by decide +kernel
theorem dX11_init_149 : decode cX11_init 149 = .ok (.aload_n 0, 1) := by decide +kernel
theorem dX11_init_150 : decode cX11_init 150 = .ok (.bipush 18, 2) := by decide +kernel
theorem dX11_init_152 : decode cX11_init 152 = .ok (.newarray .int, 2) := by decide +kernel
theorem dX11_init_154 : decode cX11_init 154 = .ok (.putfield 64, 3) := by decide +kernel
theorem dX11_init_157 : decode cX11_init 157 = .ok (.aload_n 0, 1) := by decide +kernel
theorem dX11_init_158 : decode cX11_init 158 = .ok (.iconst (-1), 1) := by decide +kernel
theorem dX11_init_159 : decode cX11_init 159 = .ok (.putfield 67, 3) := by decide +kernel
theorem dX11_init_162 : decode cX11_init 162 = .ok (.return_, 1) := by decide +kernel
theorem dX11_in_0 : decode cX11_in 0 = .ok (.lload_n 0, 1) := by decide +kernel
theorem dX11_in_1 : decode cX11_in 1 = .ok (.lload_n 2, 1) := by decide +kernel
theorem dX11_in_2 : decode cX11_in 2 = .ok (.lcmp, 1) := by decide +kernel
theorem dX11_in_3 : decode cX11_in 3 = .ok (.ifCond .lt 14, 3) := by decide +kernel
theorem dX11_in_6 : decode cX11_in 6 = .ok (.lload_n 0, 1) := by decide +kernel
theorem dX11_in_7 : decode cX11_in 7 = .ok (.lload 4, 2) := by decide +kernel
theorem dX11_in_9 : decode cX11_in 9 = .ok (.lcmp, 1) := by decide +kernel
theorem dX11_in_10 : decode cX11_in 10 = .ok (.ifCond .gt 7, 3) := by decide +kernel
theorem dX11_in_13 : decode cX11_in 13 = .ok (.iconst 1, 1) := by decide +kernel
theorem dX11_in_14 : decode cX11_in 14 = .ok (.goto 4, 3) := by decide +kernel
theorem dX11_in_17 : decode cX11_in 17 = .ok (.iconst 0, 1) := by decide +kernel
theorem dX11_in_18 : decode cX11_in 18 = .ok (.ireturn, 1) := by decide +kernel
theorem dX11_copy_0 : decode cX11_copy 0 = .ok (.iconst 0, 1) := by decide +kernel
theorem dX11_copy_1 : decode cX11_copy 1 = .ok (.istore_n 2, 1) := by decide +kernel
theorem dX11_copy_2 : decode cX11_copy 2 = .ok (.iload_n 2, 1) := by decide +kernel
theorem dX11_copy_3 : decode cX11_copy 3 = .ok (.aload_n 0, 1) := by decide +kernel
theorem dX11_copy_4 : decode cX11_copy 4 = .ok (.arraylength, 1) := by decide +kernel
theorem dX11_copy_5 : decode cX11_copy 5 = .ok (.if_icmp .ge 15, 3) := by decide +kernel
theorem dX11_copy_8 : decode cX11_copy 8 = .ok (.aload_n 1, 1) := by decide +kernel
theorem dX11_copy_9 : decode cX11_copy 9 = .ok (.iload_n 2, 1) := by decide +kernel
theorem dX11_copy_10 : decode cX11_copy 10 = .ok (.aload_n 0, 1) := by decide +kernel
theorem dX11_copy_11 : decode cX11_copy 11 = .ok (.iload_n 2, 1) := by decide +kernel
theorem dX11_copy_12 : decode cX11_copy 12 = .ok (.iaload, 1) := by decide +kernel
theorem dX11_copy_13 : decode cX11_copy 13 = .ok (.iastore, 1) := by decide +kernel
theorem dX11_copy_14 : decode cX11_copy 14 = .ok (.iinc 2 1, 3) := by decide +kernel
theorem dX11_copy_17 : decode cX11_copy 17 = .ok (.goto (-15), 3) := by decide +kernel
theorem dX11_copy_20 : decode cX11_copy 20 = .ok (.return_, 1) := by decide +kernel
theorem dX11_above_0 : decode cX11_above 0 = .ok (.iload_n 0, 1) := by decide +kernel
theorem dX11_above_1 : decode cX11_above 1 = .ok (.iload_n 1, 1) := by decide +kernel
theorem dX11_above_2 : decode cX11_above 2 = .ok (.isub, 1) := by decide +kernel
theorem dX11_above_3 : decode cX11_above 3 = .ok (.bipush 24, 2) := by decide +kernel
theorem dX11_above_5 : decode cX11_above 5 = .ok (.iadd, 1) := by decide +kernel
theorem dX11_above_6 : decode cX11_above 6 = .ok (.bipush 12, 2) := by decide +kernel
theorem dX11_above_8 : decode cX11_above 8 = .ok (.irem, 1) := by decide +kernel
theorem dX11_above_9 : decode cX11_above 9 = .ok (.ireturn, 1) := by decide +kernel
theorem dX11_letter_0 : decode cX11_letter 0 = .ok (.iload_n 1, 1) := by decide +kernel
theorem dX11_letter_1 : decode cX11_letter 1 = .ok (.i2l, 1) := by decide +kernel
theorem dX11_letter_2 : decode cX11_letter 2 = .ok (.lconst 1, 1) := by decide +kernel
theorem dX11_letter_3 : decode cX11_letter 3 = .ok (.ldc2_w 71, 3) := by decide +kernel
theorem dX11_letter_6 : decode cX11_letter 6 = .ok (.invokestatic 73, 3) := by decide +kernel
theorem dX11_letter_9 : decode cX11_letter 9 = .ok (.ifCond .ne 6, 3) := by decide +kernel
theorem dX11_letter_12 : decode cX11_letter 12 = .ok (.bipush (-102), 2) := by decide +kernel
theorem dX11_letter_14 : decode cX11_letter 14 = .ok (.ireturn, 1) := by decide +kernel
theorem dX11_letter_15 : decode cX11_letter 15 = .ok (.aload_n 0, 1) := by decide +kernel
theorem dX11_letter_16 : decode cX11_letter 16 = .ok (.getfield 77, 3) := by decide +kernel
theorem dX11_letter_19 : decode cX11_letter 19 = .ok (.bipush 44, 2) := by decide +kernel
theorem dX11_letter_21 : decode cX11_letter 21 = .ok (.if_icmp .ne 6, 3) := by decide +kernel
theorem dX11_letter_24 : decode cX11_letter 24 = .ok (.bipush (-104), 2) := by decide +kernel
theorem dX11_letter_26 : decode cX11_letter 26 = .ok (.ireturn, 1) := by decide +kernel
theorem dX11_letter_27 : decode cX11_letter 27 = .ok (.aload_n 0, 1) := by decide +kernel
theorem dX11_letter_28 : decode cX11_letter 28 = .ok (.getfield 7, 3) := by decide +kernel
theorem dX11_letter_31 : decode cX11_letter 31 = .ok (.aload_n 0, 1) := by decide +kernel
theorem dX11_letter_32 : decode cX11_letter 32 = .ok (.getfield 77, 3) := by decide +kernel
theorem dX11_letter_35 : decode cX11_letter 35 = .ok (.iload_n 1, 1) := by decide +kernel
theorem dX11_letter_36 : decode cX11_letter 36 = .ok (.iastore, 1) := by decide +kernel
theorem dX11_letter_37 : decode cX11_letter 37 = .ok (.aload_n 0, 1) := by decide +kernel
theorem dX11_letter_38 : decode cX11_letter 38 = .ok (.dup, 1) := by decide +kernel
theorem dX11_letter_39 : decode cX11_letter 39 = .ok (.getfield 77, 3) := by decide +kernel
theorem dX11_letter_42 : decode cX11_letter 42 = .ok (.iconst 1, 1) := by decide +kernel
theorem dX11_letter_43 : decode cX11_letter 43 = .ok (.iadd, 1) := by decide +kernel
theorem dX11_letter_44 : decode cX11_letter 44 = .ok (.putfield 77, 3) := by decide +kernel
theorem dX11_letter_47 : decode cX11_letter 47 = .ok (.aload_n 0, 1) := by decide +kernel
theorem dX11_letter_48 : decode cX11_letter 48 = .ok (.getfield 77, 3) := by decide +kernel
theorem dX11_letter_51 : decode cX11_letter 51 = .ok (.ireturn, 1) := by decide +kernel
theorem dX11_blank_0 : decode cX11_blank 0 = .ok (.aload_n 0, 1) := by decide +kernel
theorem dX11_blank_1 : decode cX11_blank 1 = .ok (.getfield 77, 3) := by decide +kernel
theorem dX11_blank_4 : decode cX11_blank 4 = .ok (.istore_n 1, 1) := by decide +kernel
theorem dX11_blank_5 : decode cX11_blank 5 = .ok (.aload_n 0, 1) := by decide +kernel
theorem dX11_blank_6 : decode cX11_blank 6 = .ok (.iconst 0, 1) := by decide +kernel
theorem dX11_blank_7 : decode cX11_blank 7 = .ok (.putfield 77, 3) := by decide +kernel
theorem dX11_blank_10 : decode cX11_blank 10 = .ok (.iload_n 1, 1) := by decide +kernel
theorem dX11_blank_11 : decode cX11_blank 11 = .ok (.ireturn, 1) := by decide +kernel
theorem dX11_kindBy_0 : decode cX11_kindBy 0 = .ok (.iload_n 0, 1) := by decide +kernel
theorem dX11_kindBy_1 : decode cX11_kindBy 1 = .ok (.lookupswitch 61 #[(98, 55), (105, 59), (109, 53), (112, 57), (115, 51)], 51) := by decide +kernel
theorem dX11_kindBy_52 : decode cX11_kindBy 52 = .ok (.iconst 0, 1) := by decide +kernel
theorem dX11_kindBy_53 : decode cX11_kindBy 53 = .ok (.ireturn, 1) := by decide +kernel
theorem dX11_kindBy_54 : decode cX11_kindBy 54 = .ok (.iconst 1, 1) := by decide +kernel
theorem dX11_kindBy_55 : decode cX11_kindBy 55 = .ok (.ireturn, 1) := by decide +kernel
theorem dX11_kindBy_56 : decode cX11_kindBy 56 = .ok (.iconst 2, 1) := by decide +kernel
theorem dX11_kindBy_57 : decode cX11_kindBy 57 = .ok (.ireturn, 1) := by decide +kernel
theorem dX11_kindBy_58 : decode cX11_kindBy 58 = .ok (.iconst 3, 1) := by decide +kernel
theorem dX11_kindBy_59 : decode cX11_kindBy 59 = .ok (.ireturn, 1) := by decide +kernel
theorem dX11_kindBy_60 : decode cX11_kindBy 60 = .ok (.iconst 4, 1) := by decide +kernel
theorem dX11_kindBy_61 : decode cX11_kindBy 61 = .ok (.ireturn, 1) := by decide +kernel
theorem dX11_kindBy_62 : decode cX11_kindBy 62 = .ok (.iconst (-1), 1) := by decide +kernel
theorem dX11_kindBy_63 : decode cX11_kindBy 63 = .ok (.ireturn, 1) := by decide +kernel
theorem dX11_isCorner_0 : decode cX11_isCorner 0 = .ok (.iload_n 1, 1) := by decide +kernel
theorem dX11_isCorner_1 : decode cX11_isCorner 1 = .ok (.i2l, 1) := by decide +kernel
theorem dX11_isCorner_2 : decode cX11_isCorner 2 = .ok (.ldc2_w 80, 3) := by decide +kernel
theorem dX11_isCorner_5 : decode cX11_isCorner 5 = .ok (.aload_n 0, 1) := by decide +kernel
theorem dX11_isCorner_6 : decode cX11_isCorner 6 = .ok (.getfield 7, 3) := by decide +kernel
theorem dX11_isCorner_9 : decode cX11_isCorner 9 = .ok (.iconst 0, 1) := by decide +kernel
theorem dX11_isCorner_10 : decode cX11_isCorner 10 = .ok (.iaload, 1) := by decide +kernel
theorem dX11_isCorner_11 : decode cX11_isCorner 11 = .ok (.iconst 1, 1) := by decide +kernel
theorem dX11_isCorner_12 : decode cX11_isCorner 12 = .ok (.isub, 1) := by decide +kernel
theorem dX11_isCorner_13 : decode cX11_isCorner 13 = .ok (.i2l, 1) := by decide +kernel
theorem dX11_isCorner_14 : decode cX11_isCorner 14 = .ok (.invokestatic 73, 3) := by decide +kernel
theorem dX11_isCorner_17 : decode cX11_isCorner 17 = .ok (.ireturn, 1) := by decide +kernel
theorem dX11_isStreetLetter_0 : decode cX11_isStreetLetter 0 = .ok (.aload_n 0, 1) := by decide +kernel
theorem dX11_isStreetLetter_1 : decode cX11_isStreetLetter 1 = .ok (.getfield 7, 3) := by decide +kernel
theorem dX11_isStreetLetter_4 : decode cX11_isStreetLetter 4 = .ok (.iload_n 1, 1) := by decide +kernel
theorem dX11_isStreetLetter_5 : decode cX11_isStreetLetter 5 = .ok (.iaload, 1) := by decide +kernel
theorem dX11_isStreetLetter_6 : decode cX11_isStreetLetter 6 = .ok (.istore_n 2, 1) := by decide +kernel
theorem dX11_isStreetLetter_7 : decode cX11_isStreetLetter 7 = .ok (.iload_n 1, 1) := by decide +kernel
theorem dX11_isStreetLetter_8 : decode cX11_isStreetLetter 8 = .ok (.iconst 2, 1) := by decide +kernel
theorem dX11_isStreetLetter_9 : decode cX11_isStreetLetter 9 = .ok (.isub, 1) := by decide +kernel
theorem dX11_isStreetLetter_10 : decode cX11_isStreetLetter 10 = .ok (.iconst 5, 1) := by decide +kernel
theorem dX11_isStreetLetter_11 : decode cX11_isStreetLetter 11 = .ok (.irem, 1) := by decide +kernel
theorem dX11_isStreetLetter_12 : decode cX11_isStreetLetter 12 = .ok (.tableswitch 90 0 3 #[32, 46, 52, 78], 32) := by decide +kernel
theorem dX11_isStreetLetter_44 : decode cX11_isStreetLetter 44 = .ok (.iload_n 2, 1) := by decide +kernel
theorem dX11_isStreetLetter_45 : decode cX11_isStreetLetter 45 = .ok (.invokestatic 82, 3) := by decide +kernel
theorem dX11_isStreetLetter_48 : decode cX11_isStreetLetter 48 = .ok (.iconst (-1), 1) := by decide +kernel
theorem dX11_isStreetLetter_49 : decode cX11_isStreetLetter 49 = .ok (.if_icmp .eq 7, 3) := by decide +kernel
theorem dX11_isStreetLetter_52 : decode cX11_isStreetLetter 52 = .ok (.iconst 1, 1) := by decide +kernel
theorem dX11_isStreetLetter_53 : decode cX11_isStreetLetter 53 = .ok (.goto 4, 3) := by decide +kernel
theorem dX11_isStreetLetter_56 : decode cX11_isStreetLetter 56 = .ok (.iconst 0, 1) := by decide +kernel
theorem dX11_isStreetLetter_57 : decode cX11_isStreetLetter 57 = .ok (.ireturn, 1) := by decide +kernel
theorem dX11_isStreetLetter_58 : decode cX11_isStreetLetter 58 = .ok (.aload_n 0, 1) := by decide +kernel
theorem dX11_isStreetLetter_59 : decode cX11_isStreetLetter 59 = .ok (.iload_n 2, 1) := by decide +kernel
theorem dX11_isStreetLetter_60 : decode cX11_isStreetLetter 60 = .ok (.invokevirtual 86, 3) := by decide +kernel
theorem dX11_isStreetLetter_63 : decode cX11_isStreetLetter 63 = .ok (.ireturn, 1) := by decide +kernel
theorem dX11_isStreetLetter_64 : decode cX11_isStreetLetter 64 = .ok (.aload_n 0, 1) := by decide +kernel
theorem dX11_isStreetLetter_65 : decode cX11_isStreetLetter 65 = .ok (.iload_n 2, 1) := by decide +kernel
theorem dX11_isStreetLetter_66 : decode cX11_isStreetLetter 66 = .ok (.invokevirtual 86, 3) := by decide +kernel
theorem dX11_isStreetLetter_69 : decode cX11_isStreetLetter 69 = .ok (.ifCond .eq 19, 3) := by decide +kernel
theorem dX11_isStreetLetter_72 : decode cX11_isStreetLetter 72 = .ok (.iload_n 2, 1) := by decide +kernel
theorem dX11_isStreetLetter_73 : decode cX11_isStreetLetter 73 = .ok (.aload_n 0, 1) := by decide +kernel
theorem dX11_isStreetLetter_74 : decode cX11_isStreetLetter 74 = .ok (.getfield 7, 3) := by decide +kernel
theorem dX11_isStreetLetter_77 : decode cX11_isStreetLetter 77 = .ok (.iload_n 1, 1) := by decide +kernel
theorem dX11_isStreetLetter_78 : decode cX11_isStreetLetter 78 = .ok (.iconst 1, 1) := by decide +kernel
theorem dX11_isStreetLetter_79 : decode cX11_isStreetLetter 79 = .ok (.isub, 1) := by decide +kernel
theorem dX11_isStreetLetter_80 : decode cX11_isStreetLetter 80 = .ok (.iaload, 1) := by decide +kernel
theorem dX11_isStreetLetter_81 : decode cX11_isStreetLetter 81 = .ok (.if_icmp .eq 7, 3) := by decide +kernel
theorem dX11_isStreetLetter_84 : decode cX11_isStreetLetter 84 = .ok (.iconst 1, 1) := by decide +kernel
theorem dX11_isStreetLetter_85 : decode cX11_isStreetLetter 85 = .ok (.goto 4, 3) := by decide +kernel
theorem dX11_isStreetLetter_88 : decode cX11_isStreetLetter 88 = .ok (.iconst 0, 1) := by decide +kernel
theorem dX11_isStreetLetter_89 : decode cX11_isStreetLetter 89 = .ok (.ireturn, 1) := by decide +kernel
theorem dX11_isStreetLetter_90 : decode cX11_isStreetLetter 90 = .ok (.iload_n 2, 1) := by decide +kernel
theorem dX11_isStreetLetter_91 : decode cX11_isStreetLetter 91 = .ok (.i2l, 1) := by decide +kernel
theorem dX11_isStreetLetter_92 : decode cX11_isStreetLetter 92 = .ok (.ldc2_w 90, 3) := by decide +kernel
theorem dX11_isStreetLetter_95 : decode cX11_isStreetLetter 95 = .ok (.ldc2_w 92, 3) := by decide +kernel
theorem dX11_isStreetLetter_98 : decode cX11_isStreetLetter 98 = .ok (.invokestatic 73, 3) := by decide +kernel
theorem dX11_isStreetLetter_101 : decode cX11_isStreetLetter 101 = .ok (.ireturn, 1) := by decide +kernel
theorem dX11_isStreetLetter_102 : decode cX11_isStreetLetter 102 = .ok (.iload_n 2, 1) := by decide +kernel
theorem dX11_isStreetLetter_103 : decode cX11_isStreetLetter 103 = .ok (.bipush 44, 2) := by decide +kernel
theorem dX11_isStreetLetter_105 : decode cX11_isStreetLetter 105 = .ok (.if_icmp .ne 13, 3) := by decide +kernel
theorem dX11_isStreetLetter_108 : decode cX11_isStreetLetter 108 = .ok (.iload_n 1, 1) := by decide +kernel
theorem dX11_isStreetLetter_109 : decode cX11_isStreetLetter 109 = .ok (.bipush 41, 2) := by decide +kernel
theorem dX11_isStreetLetter_111 : decode cX11_isStreetLetter 111 = .ok (.if_icmp .ge 7, 3) := by decide +kernel
theorem dX11_isStreetLetter_114 : decode cX11_isStreetLetter 114 = .ok (.iconst 1, 1) := by decide +kernel
theorem dX11_isStreetLetter_115 : decode cX11_isStreetLetter 115 = .ok (.goto 4, 3) := by decide +kernel
theorem dX11_isStreetLetter_118 : decode cX11_isStreetLetter 118 = .ok (.iconst 0, 1) := by decide +kernel
theorem dX11_isStreetLetter_119 : decode cX11_isStreetLetter 119 = .ok (.ireturn, 1) := by decide +kernel
theorem dX11_faultOf_0 : decode cX11_faultOf 0 = .ok (.iconst 0, 1) := by decide +kernel
theorem dX11_faultOf_1 : decode cX11_faultOf 1 = .ok (.istore_n 1, 1) := by decide +kernel
theorem dX11_faultOf_2 : decode cX11_faultOf 2 = .ok (.iconst 1, 1) := by decide +kernel
theorem dX11_faultOf_3 : decode cX11_faultOf 3 = .ok (.istore_n 2, 1) := by decide +kernel
theorem dX11_faultOf_4 : decode cX11_faultOf 4 = .ok (.iload_n 1, 1) := by decide +kernel
theorem dX11_faultOf_5 : decode cX11_faultOf 5 = .ok (.aload_n 0, 1) := by decide +kernel
theorem dX11_faultOf_6 : decode cX11_faultOf 6 = .ok (.getfield 77, 3) := by decide +kernel
theorem dX11_faultOf_9 : decode cX11_faultOf 9 = .ok (.if_icmp .ge 75, 3) := by decide +kernel
theorem dX11_faultOf_12 : decode cX11_faultOf 12 = .ok (.iload_n 2, 1) := by decide +kernel
theorem dX11_faultOf_13 : decode cX11_faultOf 13 = .ok (.ifCond .eq 71, 3) := by decide +kernel
theorem dX11_faultOf_16 : decode cX11_faultOf 16 = .ok (.iload_n 1, 1) := by decide +kernel
theorem dX11_faultOf_17 : decode cX11_faultOf 17 = .ok (.ifCond .ne 22, 3) := by decide +kernel
theorem dX11_faultOf_20 : decode cX11_faultOf 20 = .ok (.aload_n 0, 1) := by decide +kernel
theorem dX11_faultOf_21 : decode cX11_faultOf 21 = .ok (.getfield 7, 3) := by decide +kernel
theorem dX11_faultOf_24 : decode cX11_faultOf 24 = .ok (.iconst 0, 1) := by decide +kernel
theorem dX11_faultOf_25 : decode cX11_faultOf 25 = .ok (.iaload, 1) := by decide +kernel
theorem dX11_faultOf_26 : decode cX11_faultOf 26 = .ok (.i2l, 1) := by decide +kernel
theorem dX11_faultOf_27 : decode cX11_faultOf 27 = .ok (.ldc2_w 94, 3) := by decide +kernel
theorem dX11_faultOf_30 : decode cX11_faultOf 30 = .ok (.ldc2_w 96, 3) := by decide +kernel
theorem dX11_faultOf_33 : decode cX11_faultOf 33 = .ok (.invokestatic 73, 3) := by decide +kernel
theorem dX11_faultOf_36 : decode cX11_faultOf 36 = .ok (.goto 32, 3) := by decide +kernel
theorem dX11_faultOf_39 : decode cX11_faultOf 39 = .ok (.iload_n 1, 1) := by decide +kernel
theorem dX11_faultOf_40 : decode cX11_faultOf 40 = .ok (.iconst 1, 1) := by decide +kernel
theorem dX11_faultOf_41 : decode cX11_faultOf 41 = .ok (.if_icmp .ne 22, 3) := by decide +kernel
theorem dX11_faultOf_44 : decode cX11_faultOf 44 = .ok (.aload_n 0, 1) := by decide +kernel
theorem dX11_faultOf_45 : decode cX11_faultOf 45 = .ok (.getfield 7, 3) := by decide +kernel
theorem dX11_faultOf_48 : decode cX11_faultOf 48 = .ok (.iconst 1, 1) := by decide +kernel
theorem dX11_faultOf_49 : decode cX11_faultOf 49 = .ok (.iaload, 1) := by decide +kernel
theorem dX11_faultOf_50 : decode cX11_faultOf 50 = .ok (.bipush 59, 2) := by decide +kernel
theorem dX11_faultOf_52 : decode cX11_faultOf 52 = .ok (.if_icmp .ne 7, 3) := by decide +kernel
theorem dX11_faultOf_55 : decode cX11_faultOf 55 = .ok (.iconst 1, 1) := by decide +kernel
theorem dX11_faultOf_56 : decode cX11_faultOf 56 = .ok (.goto 12, 3) := by decide +kernel
theorem dX11_faultOf_59 : decode cX11_faultOf 59 = .ok (.iconst 0, 1) := by decide +kernel
theorem dX11_faultOf_60 : decode cX11_faultOf 60 = .ok (.goto 8, 3) := by decide +kernel
theorem dX11_faultOf_63 : decode cX11_faultOf 63 = .ok (.aload_n 0, 1) := by decide +kernel
theorem dX11_faultOf_64 : decode cX11_faultOf 64 = .ok (.iload_n 1, 1) := by decide +kernel
theorem dX11_faultOf_65 : decode cX11_faultOf 65 = .ok (.invokevirtual 98, 3) := by decide +kernel
