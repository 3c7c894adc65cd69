theorem dX11_apartOf_56 : decode cX11_apartOf 56 = .ok (.goto (-31), 3) := by decide +kernel
theorem dX11_apartOf_59 : decode cX11_apartOf 59 = .ok (.iload 5, 2) := by decide +kernel
theorem dX11_apartOf_61 : decode cX11_apartOf 61 = .ok (.ireturn, 1) := by decide +kernel
theorem dX11_apart_0 : decode cX11_apart 0 = .ok (.aload_n 0, 1) := by decide +kernel
theorem dX11_apart_1 : decode cX11_apart 1 = .ok (.invokevirtual 251, 3) := by decide +kernel
theorem dX11_apart_4 : decode cX11_apart 4 = .ok (.ifCond .eq 25, 3) := by decide +kernel
theorem dX11_apart_7 : decode cX11_apart 7 = .ok (.aload_n 0, 1) := by decide +kernel
theorem dX11_apart_8 : decode cX11_apart 8 = .ok (.getfield 22, 3) := by decide +kernel
theorem dX11_apart_11 : decode cX11_apart 11 = .ok (.aload_n 0, 1) := by decide +kernel
theorem dX11_apart_12 : decode cX11_apart 12 = .ok (.getfield 135, 3) := by decide +kernel
theorem dX11_apart_15 : decode cX11_apart 15 = .ok (.aload_n 0, 1) := by decide +kernel
theorem dX11_apart_16 : decode cX11_apart 16 = .ok (.getfield 25, 3) := by decide +kernel
theorem dX11_apart_19 : decode cX11_apart 19 = .ok (.aload_n 0, 1) := by decide +kernel
theorem dX11_apart_20 : decode cX11_apart 20 = .ok (.getfield 138, 3) := by decide +kernel
theorem dX11_apart_23 : decode cX11_apart 23 = .ok (.invokestatic 272, 3) := by decide +kernel
theorem dX11_apart_26 : decode cX11_apart 26 = .ok (.goto 5, 3) := by decide +kernel
theorem dX11_apart_29 : decode cX11_apart 29 = .ok (.bipush (-103), 2) := by decide +kernel
theorem dX11_apart_31 : decode cX11_apart 31 = .ok (.ireturn, 1) := by decide +kernel
theorem dX11_nearOf_0 : decode cX11_nearOf 0 = .ok (.iconst (-1), 1) := by decide +kernel
theorem dX11_nearOf_1 : decode cX11_nearOf 1 = .ok (.istore_n 1, 1) := by decide +kernel
theorem dX11_nearOf_2 : decode cX11_nearOf 2 = .ok (.bipush 9, 2) := by decide +kernel
theorem dX11_nearOf_4 : decode cX11_nearOf 4 = .ok (.istore_n 2, 1) := by decide +kernel
theorem dX11_nearOf_5 : decode cX11_nearOf 5 = .ok (.iconst 0, 1) := by decide +kernel
theorem dX11_nearOf_6 : decode cX11_nearOf 6 = .ok (.istore_n 3, 1) := by decide +kernel
theorem dX11_nearOf_7 : decode cX11_nearOf 7 = .ok (.iload_n 3, 1) := by decide +kernel
theorem dX11_nearOf_8 : decode cX11_nearOf 8 = .ok (.aload_n 0, 1) := by decide +kernel
theorem dX11_nearOf_9 : decode cX11_nearOf 9 = .ok (.getfield 108, 3) := by decide +kernel
theorem dX11_nearOf_12 : decode cX11_nearOf 12 = .ok (.if_icmp .ge 107, 3) := by decide +kernel
theorem dX11_nearOf_15 : decode cX11_nearOf 15 = .ok (.aload_n 0, 1) := by decide +kernel
theorem dX11_nearOf_16 : decode cX11_nearOf 16 = .ok (.iload_n 3, 1) := by decide +kernel
theorem dX11_nearOf_17 : decode cX11_nearOf 17 = .ok (.aload_n 0, 1) := by decide +kernel
theorem dX11_nearOf_18 : decode cX11_nearOf 18 = .ok (.getfield 111, 3) := by decide +kernel
theorem dX11_nearOf_21 : decode cX11_nearOf 21 = .ok (.invokevirtual 224, 3) := by decide +kernel
theorem dX11_nearOf_24 : decode cX11_nearOf 24 = .ok (.ifCond .eq 89, 3) := by decide +kernel
theorem dX11_nearOf_27 : decode cX11_nearOf 27 = .ok (.aload_n 0, 1) := by decide +kernel
theorem dX11_nearOf_28 : decode cX11_nearOf 28 = .ok (.iload_n 3, 1) := by decide +kernel
theorem dX11_nearOf_29 : decode cX11_nearOf 29 = .ok (.aload_n 0, 1) := by decide +kernel
theorem dX11_nearOf_30 : decode cX11_nearOf 30 = .ok (.getfield 22, 3) := by decide +kernel
theorem dX11_nearOf_33 : decode cX11_nearOf 33 = .ok (.aload_n 0, 1) := by decide +kernel
theorem dX11_nearOf_34 : decode cX11_nearOf 34 = .ok (.getfield 135, 3) := by decide +kernel
theorem dX11_nearOf_37 : decode cX11_nearOf 37 = .ok (.invokevirtual 227, 3) := by decide +kernel
theorem dX11_nearOf_40 : decode cX11_nearOf 40 = .ok (.ifCond .eq 73, 3) := by decide +kernel
theorem dX11_nearOf_43 : decode cX11_nearOf 43 = .ok (.aload_n 0, 1) := by decide +kernel
theorem dX11_nearOf_44 : decode cX11_nearOf 44 = .ok (.getfield 22, 3) := by decide +kernel
theorem dX11_nearOf_47 : decode cX11_nearOf 47 = .ok (.aload_n 0, 1) := by decide +kernel
theorem dX11_nearOf_48 : decode cX11_nearOf 48 = .ok (.getfield 31, 3) := by decide +kernel
theorem dX11_nearOf_51 : decode cX11_nearOf 51 = .ok (.invokestatic 195, 3) := by decide +kernel
theorem dX11_nearOf_54 : decode cX11_nearOf 54 = .ok (.aload_n 0, 1) := by decide +kernel
theorem dX11_nearOf_55 : decode cX11_nearOf 55 = .ok (.iload_n 3, 1) := by decide +kernel
theorem dX11_nearOf_56 : decode cX11_nearOf 56 = .ok (.aload_n 0, 1) := by decide +kernel
theorem dX11_nearOf_57 : decode cX11_nearOf 57 = .ok (.getfield 31, 3) := by decide +kernel
theorem dX11_nearOf_60 : decode cX11_nearOf 60 = .ok (.aload_n 0, 1) := by decide +kernel
theorem dX11_nearOf_61 : decode cX11_nearOf 61 = .ok (.getfield 135, 3) := by decide +kernel
theorem dX11_nearOf_64 : decode cX11_nearOf 64 = .ok (.invokevirtual 199, 3) := by decide +kernel
theorem dX11_nearOf_67 : decode cX11_nearOf 67 = .ok (.aload_n 0, 1) := by decide +kernel
theorem dX11_nearOf_68 : decode cX11_nearOf 68 = .ok (.getfield 31, 3) := by decide +kernel
theorem dX11_nearOf_71 : decode cX11_nearOf 71 = .ok (.aload_n 0, 1) := by decide +kernel
theorem dX11_nearOf_72 : decode cX11_nearOf 72 = .ok (.getfield 135, 3) := by decide +kernel
theorem dX11_nearOf_75 : decode cX11_nearOf 75 = .ok (.aload_n 0, 1) := by decide +kernel
theorem dX11_nearOf_76 : decode cX11_nearOf 76 = .ok (.getfield 25, 3) := by decide +kernel
theorem dX11_nearOf_79 : decode cX11_nearOf 79 = .ok (.aload_n 0, 1) := by decide +kernel
theorem dX11_nearOf_80 : decode cX11_nearOf 80 = .ok (.getfield 138, 3) := by decide +kernel
theorem dX11_nearOf_83 : decode cX11_nearOf 83 = .ok (.invokestatic 272, 3) := by decide +kernel
theorem dX11_nearOf_86 : decode cX11_nearOf 86 = .ok (.istore 4, 2) := by decide +kernel
theorem dX11_nearOf_88 : decode cX11_nearOf 88 = .ok (.iload 4, 2) := by decide +kernel
theorem dX11_nearOf_90 : decode cX11_nearOf 90 = .ok (.iload_n 2, 1) := by decide +kernel
theorem dX11_nearOf_91 : decode cX11_nearOf 91 = .ok (.if_icmp .ge 7, 3) := by decide +kernel
theorem dX11_nearOf_94 : decode cX11_nearOf 94 = .ok (.iload_n 3, 1) := by decide +kernel
theorem dX11_nearOf_95 : decode cX11_nearOf 95 = .ok (.goto 4, 3) := by decide +kernel
theorem dX11_nearOf_98 : decode cX11_nearOf 98 = .ok (.iload_n 1, 1) := by decide +kernel
theorem dX11_nearOf_99 : decode cX11_nearOf 99 = .ok (.istore_n 1, 1) := by decide +kernel
theorem dX11_nearOf_100 : decode cX11_nearOf 100 = .ok (.iload 4, 2) := by decide +kernel
theorem dX11_nearOf_102 : decode cX11_nearOf 102 = .ok (.iload_n 2, 1) := by decide +kernel
theorem dX11_nearOf_103 : decode cX11_nearOf 103 = .ok (.if_icmp .ge 8, 3) := by decide +kernel
theorem dX11_nearOf_106 : decode cX11_nearOf 106 = .ok (.iload 4, 2) := by decide +kernel
theorem dX11_nearOf_108 : decode cX11_nearOf 108 = .ok (.goto 4, 3) := by decide +kernel
theorem dX11_nearOf_111 : decode cX11_nearOf 111 = .ok (.iload_n 2, 1) := by decide +kernel
theorem dX11_nearOf_112 : decode cX11_nearOf 112 = .ok (.istore_n 2, 1) := by decide +kernel
theorem dX11_nearOf_113 : decode cX11_nearOf 113 = .ok (.iinc 3 1, 3) := by decide +kernel
theorem dX11_nearOf_116 : decode cX11_nearOf 116 = .ok (.goto (-109), 3) := by decide +kernel
theorem dX11_nearOf_119 : decode cX11_nearOf 119 = .ok (.iload_n 1, 1) := by decide +kernel
theorem dX11_nearOf_120 : decode cX11_nearOf 120 = .ok (.ireturn, 1) := by decide +kernel
theorem dX11_near_0 : decode cX11_near 0 = .ok (.aload_n 0, 1) := by decide +kernel
theorem dX11_near_1 : decode cX11_near 1 = .ok (.invokevirtual 234, 3) := by decide +kernel
theorem dX11_near_4 : decode cX11_near 4 = .ok (.ifCond .ne 10, 3) := by decide +kernel
theorem dX11_near_7 : decode cX11_near 7 = .ok (.aload_n 0, 1) := by decide +kernel
theorem dX11_near_8 : decode cX11_near 8 = .ok (.invokevirtual 251, 3) := by decide +kernel
theorem dX11_near_11 : decode cX11_near 11 = .ok (.ifCond .ne 8, 3) := by decide +kernel
theorem dX11_near_14 : decode cX11_near 14 = .ok (.bipush (-103), 2) := by decide +kernel
theorem dX11_near_16 : decode cX11_near 16 = .ok (.goto 7, 3) := by decide +kernel
theorem dX11_near_19 : decode cX11_near 19 = .ok (.aload_n 0, 1) := by decide +kernel
theorem dX11_near_20 : decode cX11_near 20 = .ok (.invokevirtual 276, 3) := by decide +kernel
theorem dX11_near_23 : decode cX11_near 23 = .ok (.ireturn, 1) := by decide +kernel
theorem dX11_see_0 : decode cX11_see 0 = .ok (.aload_n 0, 1) := by decide +kernel
theorem dX11_see_1 : decode cX11_see 1 = .ok (.iload_n 1, 1) := by decide +kernel
theorem dX11_see_2 : decode cX11_see 2 = .ok (.invokevirtual 185, 3) := by decide +kernel
theorem dX11_see_5 : decode cX11_see 5 = .ok (.ifCond .ne 6, 3) := by decide +kernel
theorem dX11_see_8 : decode cX11_see 8 = .ok (.bipush (-101), 2) := by decide +kernel
theorem dX11_see_10 : decode cX11_see 10 = .ok (.ireturn, 1) := by decide +kernel
theorem dX11_see_11 : decode cX11_see 11 = .ok (.iload_n 2, 1) := by decide +kernel
theorem dX11_see_12 : decode cX11_see 12 = .ok (.invokestatic 188, 3) := by decide +kernel
theorem dX11_see_15 : decode cX11_see 15 = .ok (.ifCond .eq 10, 3) := by decide +kernel
theorem dX11_see_18 : decode cX11_see 18 = .ok (.iload_n 3, 1) := by decide +kernel
theorem dX11_see_19 : decode cX11_see 19 = .ok (.invokestatic 188, 3) := by decide +kernel
theorem dX11_see_22 : decode cX11_see 22 = .ok (.ifCond .ne 6, 3) := by decide +kernel
theorem dX11_see_25 : decode cX11_see 25 = .ok (.bipush (-102), 2) := by decide +kernel
theorem dX11_see_27 : decode cX11_see 27 = .ok (.ireturn, 1) := by decide +kernel
theorem dX11_see_28 : decode cX11_see 28 = .ok (.aload_n 0, 1) := by decide +kernel
theorem dX11_see_29 : decode cX11_see 29 = .ok (.getfield 121, 3) := by decide +kernel
theorem dX11_see_32 : decode cX11_see 32 = .ok (.bipush 6, 2) := by decide +kernel
theorem dX11_see_34 : decode cX11_see 34 = .ok (.if_icmp .ne 6, 3) := by decide +kernel
theorem dX11_see_37 : decode cX11_see 37 = .ok (.bipush (-104), 2) := by decide +kernel
theorem dX11_see_39 : decode cX11_see 39 = .ok (.ireturn, 1) := by decide +kernel
theorem dX11_see_40 : decode cX11_see 40 = .ok (.aload_n 0, 1) := by decide +kernel
theorem dX11_see_41 : decode cX11_see 41 = .ok (.getfield 46, 3) := by decide +kernel
theorem dX11_see_44 : decode cX11_see 44 = .ok (.iconst 3, 1) := by decide +kernel
theorem dX11_see_45 : decode cX11_see 45 = .ok (.aload_n 0, 1) := by decide +kernel
theorem dX11_see_46 : decode cX11_see 46 = .ok (.getfield 121, 3) := by decide +kernel
theorem dX11_see_49 : decode cX11_see 49 = .ok (.imul, 1) := by decide +kernel
theorem dX11_see_50 : decode cX11_see 50 = .ok (.iload_n 1, 1) := by decide +kernel
theorem dX11_see_51 : decode cX11_see 51 = .ok (.iastore, 1) := by decide +kernel
theorem dX11_see_52 : decode cX11_see 52 = .ok (.aload_n 0, 1) := by decide +kernel
theorem dX11_see_53 : decode cX11_see 53 = .ok (.getfield 46, 3) := by decide +kernel
theorem dX11_see_56 : decode cX11_see 56 = .ok (.iconst 3, 1) := by decide +kernel
theorem dX11_see_57 : decode cX11_see 57 = .ok (.aload_n 0, 1) := by decide +kernel
theorem dX11_see_58 : decode cX11_see 58 = .ok (.getfield 121, 3) := by decide +kernel
theorem dX11_see_61 : decode cX11_see 61 = .ok (.imul, 1) := by decide +kernel
theorem dX11_see_62 : decode cX11_see 62 = .ok (.iconst 1, 1) := by decide +kernel
theorem dX11_see_63 : decode cX11_see 63 = .ok (.iadd, 1) := by decide +kernel
theorem dX11_see_64 : decode cX11_see 64 = .ok (.iload_n 2, 1) := by decide +kernel
theorem dX11_see_65 : decode cX11_see 65 = .ok (.iastore, 1) := by decide +kernel
theorem dX11_see_66 : decode cX11_see 66 = .ok (.aload_n 0, 1) := by decide +kernel
theorem dX11_see_67 : decode cX11_see 67 = .ok (.getfield 46, 3) := by decide +kernel
theorem dX11_see_70 : decode cX11_see 70 = .ok (.iconst 3, 1) := by decide +kernel
theorem dX11_see_71 : decode cX11_see 71 = .ok (.aload_n 0, 1) := by decide +kernel
theorem dX11_see_72 : decode cX11_see 72 = .ok (.getfield 121, 3) := by decide +kernel
theorem dX11_see_75 : decode cX11_see 75 = .ok (.imul, 1) := by decide +kernel
theorem dX11_see_76 : decode cX11_see 76 = .ok (.iconst 2, 1) := by decide +kernel
theorem dX11_see_77 : decode cX11_see 77 = .ok (.iadd, 1) := by decide +kernel
theorem dX11_see_78 : decode cX11_see 78 = .ok (.iload_n 3, 1) := by decide +kernel
theorem dX11_see_79 : decode cX11_see 79 = .ok (.iastore, 1) := by decide +kernel
theorem dX11_see_80 : decode cX11_see 80 = .ok (.aload_n 0, 1) := by decide +kernel
theorem dX11_see_81 : decode cX11_see 81 = .ok (.dup, 1) := by decide +kernel
theorem dX11_see_82 : decode cX11_see 82 = .ok (.getfield 121, 3) := by decide +kernel
theorem dX11_see_85 : decode cX11_see 85 = .ok (.iconst 1, 1) := by decide +kernel
theorem dX11_see_86 : decode cX11_see 86 = .ok (.iadd, 1) := by decide +kernel
theorem dX11_see_87 : decode cX11_see 87 = .ok (.putfield 121, 3) := by decide +kernel
theorem dX11_see_90 : decode cX11_see 90 = .ok (.aload_n 0, 1) := by decide +kernel
theorem dX11_see_91 : decode cX11_see 91 = .ok (.getfield 121, 3) := by decide +kernel
theorem dX11_see_94 : decode cX11_see 94 = .ok (.ireturn, 1) := by decide +kernel
theorem dX11_forget_0 : decode cX11_forget 0 = .ok (.aload_n 0, 1) := by decide +kernel
theorem dX11_forget_1 : decode cX11_forget 1 = .ok (.getfield 121, 3) := by decide +kernel
theorem dX11_forget_4 : decode cX11_forget 4 = .ok (.istore_n 1, 1) := by decide +kernel
theorem dX11_forget_5 : decode cX11_forget 5 = .ok (.aload_n 0, 1) := by decide +kernel
theorem dX11_forget_6 : decode cX11_forget 6 = .ok (.iconst 0, 1) := by decide +kernel
theorem dX11_forget_7 : decode cX11_forget 7 = .ok (.putfield 121, 3) := by decide +kernel
theorem dX11_forget_10 : decode cX11_forget 10 = .ok (.iload_n 1, 1) := by decide +kernel
theorem dX11_forget_11 : decode cX11_forget 11 = .ok (.ireturn, 1) := by decide +kernel
theorem dX11_tonicsOf_0 : decode cX11_tonicsOf 0 = .ok (.iconst 0, 1) := by decide +kernel
theorem dX11_tonicsOf_1 : decode cX11_tonicsOf 1 = .ok (.istore_n 2, 1) := by decide +kernel
theorem dX11_tonicsOf_2 : decode cX11_tonicsOf 2 = .ok (.iconst 0, 1) := by decide +kernel
theorem dX11_tonicsOf_3 : decode cX11_tonicsOf 3 = .ok (.istore_n 3, 1) := by decide +kernel
theorem dX11_tonicsOf_4 : decode cX11_tonicsOf 4 = .ok (.iload_n 3, 1) := by decide +kernel
theorem dX11_tonicsOf_5 : decode cX11_tonicsOf 5 = .ok (.bipush 12, 2) := by decide +kernel
theorem dX11_tonicsOf_7 : decode cX11_tonicsOf 7 = .ok (.if_icmp .ge 104, 3) := by decide +kernel
theorem dX11_tonicsOf_10 : decode cX11_tonicsOf 10 = .ok (.iconst 1, 1) := by decide +kernel
theorem dX11_tonicsOf_11 : decode cX11_tonicsOf 11 = .ok (.istore 4, 2) := by decide +kernel
theorem dX11_tonicsOf_13 : decode cX11_tonicsOf 13 = .ok (.iconst 0, 1) := by decide +kernel
theorem dX11_tonicsOf_14 : decode cX11_tonicsOf 14 = .ok (.istore 5, 2) := by decide +kernel
theorem dX11_tonicsOf_16 : decode cX11_tonicsOf 16 = .ok (.iload 5, 2) := by decide +kernel
theorem dX11_tonicsOf_18 : decode cX11_tonicsOf 18 = .ok (.iconst 3, 1) := by decide +kernel
theorem dX11_tonicsOf_19 : decode cX11_tonicsOf 19 = .ok (.aload_n 0, 1) := by decide +kernel
theorem dX11_tonicsOf_20 : decode cX11_tonicsOf 20 = .ok (.getfield 121, 3) := by decide +kernel
theorem dX11_tonicsOf_23 : decode cX11_tonicsOf 23 = .ok (.imul, 1) := by decide +kernel
theorem dX11_tonicsOf_24 : decode cX11_tonicsOf 24 = .ok (.if_icmp .ge 66, 3) := by decide +kernel
theorem dX11_tonicsOf_27 : decode cX11_tonicsOf 27 = .ok (.aload_n 0, 1) := by decide +kernel
theorem dX11_tonicsOf_28 : decode cX11_tonicsOf 28 = .ok (.getfield 46, 3) := by decide +kernel
theorem dX11_tonicsOf_31 : decode cX11_tonicsOf 31 = .ok (.iload 5, 2) := by decide +kernel
theorem dX11_tonicsOf_33 : decode cX11_tonicsOf 33 = .ok (.iaload, 1) := by decide +kernel
theorem dX11_tonicsOf_34 : decode cX11_tonicsOf 34 = .ok (.iload_n 1, 1) := by decide +kernel
theorem dX11_tonicsOf_35 : decode cX11_tonicsOf 35 = .ok (.if_icmp .ne 49, 3) := by decide +kernel
theorem dX11_tonicsOf_38 : decode cX11_tonicsOf 38 = .ok (.iload 4, 2) := by decide +kernel
theorem dX11_tonicsOf_40 : decode cX11_tonicsOf 40 = .ok (.ifCond .eq 41, 3) := by decide +kernel
theorem dX11_tonicsOf_43 : decode cX11_tonicsOf 43 = .ok (.aload_n 0, 1) := by decide +kernel
theorem dX11_tonicsOf_44 : decode cX11_tonicsOf 44 = .ok (.aload_n 0, 1) := by decide +kernel
theorem dX11_tonicsOf_45 : decode cX11_tonicsOf 45 = .ok (.getfield 13, 3) := by decide +kernel
theorem dX11_tonicsOf_48 : decode cX11_tonicsOf 48 = .ok (.iconst 3, 1) := by decide +kernel
theorem dX11_tonicsOf_49 : decode cX11_tonicsOf 49 = .ok (.iload_n 1, 1) := by decide +kernel
theorem dX11_tonicsOf_50 : decode cX11_tonicsOf 50 = .ok (.imul, 1) := by decide +kernel
theorem dX11_tonicsOf_51 : decode cX11_tonicsOf 51 = .ok (.iaload, 1) := by decide +kernel
theorem dX11_tonicsOf_52 : decode cX11_tonicsOf 52 = .ok (.iload_n 3, 1) := by decide +kernel
theorem dX11_tonicsOf_53 : decode cX11_tonicsOf 53 = .ok (.aload_n 0, 1) := by decide +kernel
theorem dX11_tonicsOf_54 : decode cX11_tonicsOf 54 = .ok (.getfield 46, 3) := by decide +kernel
theorem dX11_tonicsOf_57 : decode cX11_tonicsOf 57 = .ok (.iload 5, 2) := by decide +kernel
theorem dX11_tonicsOf_59 : decode cX11_tonicsOf 59 = .ok (.iconst 1, 1) := by decide +kernel
theorem dX11_tonicsOf_60 : decode cX11_tonicsOf 60 = .ok (.iadd, 1) := by decide +kernel
theorem dX11_tonicsOf_61 : decode cX11_tonicsOf 61 = .ok (.iaload, 1) := by decide +kernel
theorem dX11_tonicsOf_62 : decode cX11_tonicsOf 62 = .ok (.invokevirtual 191, 3) := by decide +kernel
theorem dX11_tonicsOf_65 : decode cX11_tonicsOf 65 = .ok (.aload_n 0, 1) := by decide +kernel
theorem dX11_tonicsOf_66 : decode cX11_tonicsOf 66 = .ok (.getfield 46, 3) := by decide +kernel
theorem dX11_tonicsOf_69 : decode cX11_tonicsOf 69 = .ok (.iload 5, 2) := by decide +kernel
theorem dX11_tonicsOf_71 : decode cX11_tonicsOf 71 = .ok (.iconst 2, 1) := by decide +kernel
theorem dX11_tonicsOf_72 : decode cX11_tonicsOf 72 = .ok (.iadd, 1) := by decide +kernel
theorem dX11_tonicsOf_73 : decode cX11_tonicsOf 73 = .ok (.iaload, 1) := by decide +kernel
theorem dX11_tonicsOf_74 : decode cX11_tonicsOf 74 = .ok (.if_icmp .ne 7, 3) := by decide +kernel
theorem dX11_tonicsOf_77 : decode cX11_tonicsOf 77 = .ok (.iconst 1, 1) := by decide +kernel
theorem dX11_tonicsOf_78 : decode cX11_tonicsOf 78 = .ok (.goto 4, 3) := by decide +kernel
theorem dX11_tonicsOf_81 : decode cX11_tonicsOf 81 = .ok (.iconst 0, 1) := by decide +kernel
theorem dX11_tonicsOf_82 : decode cX11_tonicsOf 82 = .ok (.istore 4, 2) := by decide +kernel
theorem dX11_tonicsOf_84 : decode cX11_tonicsOf 84 = .ok (.iinc 5 3, 3) := by decide +kernel
theorem dX11_tonicsOf_87 : decode cX11_tonicsOf 87 = .ok (.goto (-71), 3) := by decide +kernel
theorem dX11_tonicsOf_90 : decode cX11_tonicsOf 90 = .ok (.iload_n 2, 1) := by decide +kernel
theorem dX11_tonicsOf_91 : decode cX11_tonicsOf 91 = .ok (.iload 4, 2) := by decide +kernel
theorem dX11_tonicsOf_93 : decode cX11_tonicsOf 93 = .ok (.ifCond .eq 9, 3) := by decide +kernel
theorem dX11_tonicsOf_96 : decode cX11_tonicsOf 96 = .ok (.iconst 1, 1) := by decide +kernel
theorem dX11_tonicsOf_97 : decode cX11_tonicsOf 97 = .ok (.iload_n 3, 1) := by decide +kernel
theorem dX11_tonicsOf_98 : decode cX11_tonicsOf 98 = .ok (.ishl, 1) := by decide +kernel
theorem dX11_tonicsOf_99 : decode cX11_tonicsOf 99 = .ok (.goto 4, 3) := by decide +kernel
theorem dX11_tonicsOf_102 : decode cX11_tonicsOf 102 = .ok (.iconst 0, 1) := by decide +kernel
theorem dX11_tonicsOf_103 : decode cX11_tonicsOf 103 = .ok (.ior, 1) := by decide +kernel
theorem dX11_tonicsOf_104 : decode cX11_tonicsOf 104 = .ok (.istore_n 2, 1) := by decide +kernel
theorem dX11_tonicsOf_105 : decode cX11_tonicsOf 105 = .ok (.iinc 3 1, 3) := by decide +kernel
theorem dX11_tonicsOf_108 : decode cX11_tonicsOf 108 = .ok (.goto (-104), 3) := by decide +kernel
theorem dX11_tonicsOf_111 : decode cX11_tonicsOf 111 = .ok (.iload_n 2, 1) := by decide +kernel
theorem dX11_tonicsOf_112 : decode cX11_tonicsOf 112 = .ok (.ireturn, 1) := by decide +kernel
theorem dX11_askOf_0 : decode cX11_askOf 0 = .ok (.aload_n 0, 1) := by decide +kernel
theorem dX11_askOf_1 : decode cX11_askOf 1 = .ok (.iload_n 1, 1) := by decide +kernel
theorem dX11_askOf_2 : decode cX11_askOf 2 = .ok (.invokevirtual 213, 3) := by decide +kernel
theorem dX11_askOf_5 : decode cX11_askOf 5 = .ok (.istore_n 2, 1) := by decide +kernel
theorem dX11_askOf_6 : decode cX11_askOf 6 = .ok (.iconst (-1), 1) := by decide +kernel
theorem dX11_askOf_7 : decode cX11_askOf 7 = .ok (.istore_n 3, 1) := by decide +kernel
theorem dX11_askOf_8 : decode cX11_askOf 8 = .ok (.bipush 13, 2) := by decide +kernel
theorem dX11_askOf_10 : decode cX11_askOf 10 = .ok (.istore 4, 2) := by decide +kernel
theorem dX11_askOf_12 : decode cX11_askOf 12 = .ok (.iconst 0, 1) := by decide +kernel
theorem dX11_askOf_13 : decode cX11_askOf 13 = .ok (.istore 5, 2) := by decide +kernel
theorem dX11_askOf_15 : decode cX11_askOf 15 = .ok (.iload 5, 2) := by decide +kernel
theorem dX11_askOf_17 : decode cX11_askOf 17 = .ok (.bipush 12, 2) := by decide +kernel
theorem dX11_askOf_19 : decode cX11_askOf 19 = .ok (.if_icmp .ge 146, 3) := by decide +kernel
theorem dX11_askOf_22 : decode cX11_askOf 22 = .ok (.iload_n 2, 1) := by decide +kernel
theorem dX11_askOf_23 : decode cX11_askOf 23 = .ok (.ifCond .eq 142, 3) := by decide +kernel
theorem dX11_askOf_26 : decode cX11_askOf 26 = .ok (.iconst 0, 1) := by decide +kernel
theorem dX11_askOf_27 : decode cX11_askOf 27 = .ok (.istore 6, 2) := by decide +kernel
theorem dX11_askOf_29 : decode cX11_askOf 29 = .ok (.iload 6, 2) := by decide +kernel
theorem dX11_askOf_31 : decode cX11_askOf 31 = .ok (.bipush 12, 2) := by decide +kernel
theorem dX11_askOf_33 : decode cX11_askOf 33 = .ok (.if_icmp .ge 17, 3) := by decide +kernel
theorem dX11_askOf_36 : decode cX11_askOf 36 = .ok (.aload_n 0, 1) := by decide +kernel
theorem dX11_askOf_37 : decode cX11_askOf 37 = .ok (.getfield 49, 3) := by decide +kernel
theorem dX11_askOf_40 : decode cX11_askOf 40 = .ok (.iload 6, 2) := by decide +kernel
theorem dX11_askOf_42 : decode cX11_askOf 42 = .ok (.iconst 0, 1) := by decide +kernel
theorem dX11_askOf_43 : decode cX11_askOf 43 = .ok (.iastore, 1) := by decide +kernel
theorem dX11_askOf_44 : decode cX11_askOf 44 = .ok (.iinc 6 1, 3) := by decide +kernel
theorem dX11_askOf_47 : decode cX11_askOf 47 = .ok (.goto (-18), 3) := by decide +kernel
theorem dX11_askOf_50 : decode cX11_askOf 50 = .ok (.iconst 0, 1) := by decide +kernel
theorem dX11_askOf_51 : decode cX11_askOf 51 = .ok (.istore 6, 2) := by decide +kernel
theorem dX11_askOf_53 : decode cX11_askOf 53 = .ok (.iconst 0, 1) := by decide +kernel
theorem dX11_askOf_54 : decode cX11_askOf 54 = .ok (.istore 7, 2) := by decide +kernel
theorem dX11_askOf_56 : decode cX11_askOf 56 = .ok (.iload 7, 2) := by decide +kernel
theorem dX11_askOf_58 : decode cX11_askOf 58 = .ok (.bipush 12, 2) := by decide +kernel
theorem dX11_askOf_60 : decode cX11_askOf 60 = .ok (.if_icmp .ge 69, 3) := by decide +kernel
theorem dX11_askOf_63 : decode cX11_askOf 63 = .ok (.aload_n 0, 1) := by decide +kernel
theorem dX11_askOf_64 : decode cX11_askOf 64 = .ok (.aload_n 0, 1) := by decide +kernel
theorem dX11_askOf_65 : decode cX11_askOf 65 = .ok (.getfield 13, 3) := by decide +kernel
theorem dX11_askOf_68 : decode cX11_askOf 68 = .ok (.iconst 3, 1) := by decide +kernel
theorem dX11_askOf_69 : decode cX11_askOf 69 = .ok (.iload_n 1, 1) := by decide +kernel
theorem dX11_askOf_70 : decode cX11_askOf 70 = .ok (.imul, 1) := by decide +kernel
theorem dX11_askOf_71 : decode cX11_askOf 71 = .ok (.iaload, 1) := by decide +kernel
theorem dX11_askOf_72 : decode cX11_askOf 72 = .ok (.iload 7, 2) := by decide +kernel
theorem dX11_askOf_74 : decode cX11_askOf 74 = .ok (.iload 5, 2) := by decide +kernel
theorem dX11_askOf_76 : decode cX11_askOf 76 = .ok (.invokevirtual 191, 3) := by decide +kernel
theorem dX11_askOf_79 : decode cX11_askOf 79 = .ok (.istore 8, 2) := by decide +kernel
theorem dX11_askOf_81 : decode cX11_askOf 81 = .ok (.aload_n 0, 1) := by decide +kernel
theorem dX11_askOf_82 : decode cX11_askOf 82 = .ok (.getfield 49, 3) := by decide +kernel
theorem dX11_askOf_85 : decode cX11_askOf 85 = .ok (.iload 8, 2) := by decide +kernel
theorem dX11_askOf_87 : decode cX11_askOf 87 = .ok (.dup2, 1) := by decide +kernel
theorem dX11_askOf_88 : decode cX11_askOf 88 = .ok (.iaload, 1) := by decide +kernel
theorem dX11_askOf_89 : decode cX11_askOf 89 = .ok (.iload_n 2, 1) := by decide +kernel
theorem dX11_askOf_90 : decode cX11_askOf 90 = .ok (.iload 7, 2) := by decide +kernel
theorem dX11_askOf_92 : decode cX11_askOf 92 = .ok (.ishr, 1) := by decide +kernel
theorem dX11_askOf_93 : decode cX11_askOf 93 = .ok (.iconst 1, 1) := by decide +kernel
theorem dX11_askOf_94 : decode cX11_askOf 94 = .ok (.iand, 1) := by decide +kernel
theorem dX11_askOf_95 : decode cX11_askOf 95 = .ok (.iadd, 1) := by decide +kernel
theorem dX11_askOf_96 : decode cX11_askOf 96 = .ok (.iastore, 1) := by decide +kernel
theorem dX11_askOf_97 : decode cX11_askOf 97 = .ok (.aload_n 0, 1) := by decide +kernel
theorem dX11_askOf_98 : decode cX11_askOf 98 = .ok (.getfield 49, 3) := by decide +kernel
theorem dX11_askOf_101 : decode cX11_askOf 101 = .ok (.iload 8, 2) := by decide +kernel
theorem dX11_askOf_103 : decode cX11_askOf 103 = .ok (.iaload, 1) := by decide +kernel
theorem dX11_askOf_104 : decode cX11_askOf 104 = .ok (.iload 6, 2) := by decide +kernel
theorem dX11_askOf_106 : decode cX11_askOf 106 = .ok (.if_icmp .le 13, 3) := by decide +kernel
theorem dX11_askOf_109 : decode cX11_askOf 109 = .ok (.aload_n 0, 1) := by decide +kernel
theorem dX11_askOf_110 : decode cX11_askOf 110 = .ok (.getfield 49, 3) := by decide +kernel
theorem dX11_askOf_113 : decode cX11_askOf 113 = .ok (.iload 8, 2) := by decide +kernel
theorem dX11_askOf_115 : decode cX11_askOf 115 = .ok (.iaload, 1) := by decide +kernel
theorem dX11_askOf_116 : decode cX11_askOf 116 = .ok (.goto 5, 3) := by decide +kernel
theorem dX11_askOf_119 : decode cX11_askOf 119 = .ok (.iload 6, 2) := by decide +kernel
theorem dX11_askOf_121 : decode cX11_askOf 121 = .ok (.istore 6, 2) := by decide +kernel
theorem dX11_askOf_123 : decode cX11_askOf 123 = .ok (.iinc 7 1, 3) := by decide +kernel
theorem dX11_askOf_126 : decode cX11_askOf 126 = .ok (.goto (-70), 3) := by decide +kernel
theorem dX11_askOf_129 : decode cX11_askOf 129 = .ok (.iload 6, 2) := by decide +kernel
theorem dX11_askOf_131 : decode cX11_askOf 131 = .ok (.iload 4, 2) := by decide +kernel
theorem dX11_askOf_133 : decode cX11_askOf 133 = .ok (.if_icmp .ge 8, 3) := by decide +kernel
theorem dX11_askOf_136 : decode cX11_askOf 136 = .ok (.iload 5, 2) := by decide +kernel
theorem dX11_askOf_138 : decode cX11_askOf 138 = .ok (.goto 4, 3) := by decide +kernel
theorem dX11_askOf_141 : decode cX11_askOf 141 = .ok (.iload_n 3, 1) := by decide +kernel
theorem dX11_askOf_142 : decode cX11_askOf 142 = .ok (.istore_n 3, 1) := by decide +kernel
theorem dX11_askOf_143 : decode cX11_askOf 143 = .ok (.iload 6, 2) := by decide +kernel
theorem dX11_askOf_145 : decode cX11_askOf 145 = .ok (.iload 4, 2) := by decide +kernel
theorem dX11_askOf_147 : decode cX11_askOf 147 = .ok (.if_icmp .ge 8, 3) := by decide +kernel
theorem dX11_askOf_150 : decode cX11_askOf 150 = .ok (.iload 6, 2) := by decide +kernel
theorem dX11_askOf_152 : decode cX11_askOf 152 = .ok (.goto 5, 3) := by decide +kernel
theorem dX11_askOf_155 : decode cX11_askOf 155 = .ok (.iload 4, 2) := by decide +kernel
theorem dX11_askOf_157 : decode cX11_askOf 157 = .ok (.istore 4, 2) := by decide +kernel
theorem dX11_askOf_159 : decode cX11_askOf 159 = .ok (.iinc 5 1, 3) := by decide +kernel
theorem dX11_askOf_162 : decode cX11_askOf 162 = .ok (.goto (-147), 3) := by decide +kernel
theorem dX11_askOf_165 : decode cX11_askOf 165 = .ok (.iload_n 3, 1) := by decide +kernel
theorem dX11_askOf_166 : decode cX11_askOf 166 = .ok (.ireturn, 1) := by decide +kernel
theorem dX11_draw_0 : decode cX11_draw 0 = .ok (.aload_n 0, 1) := by decide +kernel
theorem dX11_draw_1 : decode cX11_draw 1 = .ok (.ldc2_w 279, 3) := by decide +kernel
theorem dX11_draw_4 : decode cX11_draw 4 = .ok (.aload_n 0, 1) := by decide +kernel
theorem dX11_draw_5 : decode cX11_draw 5 = .ok (.getfield 281, 3) := by decide +kernel
theorem dX11_draw_8 : decode cX11_draw 8 = .ok (.i2l, 1) := by decide +kernel
theorem dX11_draw_9 : decode cX11_draw 9 = .ok (.lmul, 1) := by decide +kernel
theorem dX11_draw_10 : decode cX11_draw 10 = .ok (.ldc2_w 284, 3) := by decide +kernel
theorem dX11_draw_13 : decode cX11_draw 13 = .ok (.ladd, 1) := by decide +kernel
theorem dX11_draw_14 : decode cX11_draw 14 = .ok (.ldc2_w 286, 3) := by decide +kernel
theorem dX11_draw_17 : decode cX11_draw 17 = .ok (.land, 1) := by decide +kernel
theorem dX11_draw_18 : decode cX11_draw 18 = .ok (.l2i, 1) := by decide +kernel
theorem dX11_draw_19 : decode cX11_draw 19 = .ok (.putfield 281, 3) := by decide +kernel
theorem dX11_draw_22 : decode cX11_draw 22 = .ok (.aload_n 0, 1) := by decide +kernel
theorem dX11_draw_23 : decode cX11_draw 23 = .ok (.getfield 281, 3) := by decide +kernel
theorem dX11_draw_26 : decode cX11_draw 26 = .ok (.ldc_w 288, 3) := by decide +kernel
theorem dX11_draw_29 : decode cX11_draw 29 = .ok (.idiv, 1) := by decide +kernel
theorem dX11_draw_30 : decode cX11_draw 30 = .ok (.iload_n 1, 1) := by decide +kernel
theorem dX11_draw_31 : decode cX11_draw 31 = .ok (.irem, 1) := by decide +kernel
theorem dX11_draw_32 : decode cX11_draw 32 = .ok (.ireturn, 1) := by decide +kernel
theorem dX11_endsMany_0 : decode cX11_endsMany 0 = .ok (.iconst 0, 1) := by decide +kernel
theorem dX11_endsMany_1 : decode cX11_endsMany 1 = .ok (.istore_n 2, 1) := by decide +kernel
theorem dX11_endsMany_2 : decode cX11_endsMany 2 = .ok (.iconst 0, 1) := by decide +kernel
theorem dX11_endsMany_3 : decode cX11_endsMany 3 = .ok (.istore_n 3, 1) := by decide +kernel
theorem dX11_endsMany_4 : decode cX11_endsMany 4 = .ok (.iload_n 3, 1) := by decide +kernel
theorem dX11_endsMany_5 : decode cX11_endsMany 5 = .ok (.aload_n 0, 1) := by decide +kernel
theorem dX11_endsMany_6 : decode cX11_endsMany 6 = .ok (.getfield 108, 3) := by decide +kernel
theorem dX11_endsMany_9 : decode cX11_endsMany 9 = .ok (.if_icmp .ge 26, 3) := by decide +kernel
theorem dX11_endsMany_12 : decode cX11_endsMany 12 = .ok (.iload_n 2, 1) := by decide +kernel
theorem dX11_endsMany_13 : decode cX11_endsMany 13 = .ok (.aload_n 0, 1) := by decide +kernel
theorem dX11_endsMany_14 : decode cX11_endsMany 14 = .ok (.iload_n 3, 1) := by decide +kernel
theorem dX11_endsMany_15 : decode cX11_endsMany 15 = .ok (.iload_n 1, 1) := by decide +kernel
theorem dX11_endsMany_16 : decode cX11_endsMany 16 = .ok (.invokevirtual 224, 3) := by decide +kernel
theorem dX11_endsMany_19 : decode cX11_endsMany 19 = .ok (.ifCond .eq 7, 3) := by decide +kernel
theorem dX11_endsMany_22 : decode cX11_endsMany 22 = .ok (.iconst 1, 1) := by decide +kernel
theorem dX11_endsMany_23 : decode cX11_endsMany 23 = .ok (.goto 4, 3) := by decide +kernel
theorem dX11_endsMany_26 : decode cX11_endsMany 26 = .ok (.iconst 0, 1) := by decide +kernel
theorem dX11_endsMany_27 : decode cX11_endsMany 27 = .ok (.iadd, 1) := by decide +kernel
theorem dX11_endsMany_28 : decode cX11_endsMany 28 = .ok (.istore_n 2, 1) := by decide +kernel
theorem dX11_endsMany_29 : decode cX11_endsMany 29 = .ok (.iinc 3 1, 3) := by decide +kernel
theorem dX11_endsMany_32 : decode cX11_endsMany 32 = .ok (.goto (-28), 3) := by decide +kernel
theorem dX11_endsMany_35 : decode cX11_endsMany 35 = .ok (.iload_n 2, 1) := by decide +kernel
theorem dX11_endsMany_36 : decode cX11_endsMany 36 = .ok (.ireturn, 1) := by decide +kernel
theorem dX11_endsNo_0 : decode cX11_endsNo 0 = .ok (.iconst 0, 1) := by decide +kernel
theorem dX11_endsNo_1 : decode cX11_endsNo 1 = .ok (.istore_n 3, 1) := by decide +kernel
theorem dX11_endsNo_2 : decode cX11_endsNo 2 = .ok (.iload_n 2, 1) := by decide +kernel
theorem dX11_endsNo_3 : decode cX11_endsNo 3 = .ok (.istore 4, 2) := by decide +kernel
theorem dX11_endsNo_5 : decode cX11_endsNo 5 = .ok (.aload_n 0, 1) := by decide +kernel
theorem dX11_endsNo_6 : decode cX11_endsNo 6 = .ok (.iload_n 3, 1) := by decide +kernel
theorem dX11_endsNo_7 : decode cX11_endsNo 7 = .ok (.iload_n 1, 1) := by decide +kernel
theorem dX11_endsNo_8 : decode cX11_endsNo 8 = .ok (.invokevirtual 224, 3) := by decide +kernel
theorem dX11_endsNo_11 : decode cX11_endsNo 11 = .ok (.ifCond .eq 8, 3) := by decide +kernel
theorem dX11_endsNo_14 : decode cX11_endsNo 14 = .ok (.iload 4, 2) := by decide +kernel
theorem dX11_endsNo_16 : decode cX11_endsNo 16 = .ok (.ifCond .le 28, 3) := by decide +kernel
theorem dX11_endsNo_19 : decode cX11_endsNo 19 = .ok (.iload 4, 2) := by decide +kernel
theorem dX11_endsNo_21 : decode cX11_endsNo 21 = .ok (.aload_n 0, 1) := by decide +kernel
theorem dX11_endsNo_22 : decode cX11_endsNo 22 = .ok (.iload_n 3, 1) := by decide +kernel
theorem dX11_endsNo_23 : decode cX11_endsNo 23 = .ok (.iload_n 1, 1) := by decide +kernel
theorem dX11_endsNo_24 : decode cX11_endsNo 24 = .ok (.invokevirtual 224, 3) := by decide +kernel
theorem dX11_endsNo_27 : decode cX11_endsNo 27 = .ok (.ifCond .eq 7, 3) := by decide +kernel
theorem dX11_endsNo_30 : decode cX11_endsNo 30 = .ok (.iconst 1, 1) := by decide +kernel
theorem dX11_endsNo_31 : decode cX11_endsNo 31 = .ok (.goto 4, 3) := by decide +kernel
theorem dX11_endsNo_34 : decode cX11_endsNo 34 = .ok (.iconst 0, 1) := by decide +kernel
theorem dX11_endsNo_35 : decode cX11_endsNo 35 = .ok (.isub, 1) := by decide +kernel
theorem dX11_endsNo_36 : decode cX11_endsNo 36 = .ok (.istore 4, 2) := by decide +kernel
theorem dX11_endsNo_38 : decode cX11_endsNo 38 = .ok (.iinc 3 1, 3) := by decide +kernel
theorem dX11_endsNo_41 : decode cX11_endsNo 41 = .ok (.goto (-36), 3) := by decide +kernel
theorem dX11_endsNo_44 : decode cX11_endsNo 44 = .ok (.iload_n 3, 1) := by decide +kernel
theorem dX11_endsNo_45 : decode cX11_endsNo 45 = .ok (.ireturn, 1) := by decide +kernel
theorem dX11_wander_0 : decode cX11_wander 0 = .ok (.iload_n 1, 1) := by decide +kernel
theorem dX11_wander_1 : decode cX11_wander 1 = .ok (.i2l, 1) := by decide +kernel
theorem dX11_wander_2 : decode cX11_wander 2 = .ok (.lconst 1, 1) := by decide +kernel
theorem dX11_wander_3 : decode cX11_wander 3 = .ok (.ldc2_w 289, 3) := by decide +kernel
theorem dX11_wander_6 : decode cX11_wander 6 = .ok (.invokestatic 73, 3) := by decide +kernel
theorem dX11_wander_9 : decode cX11_wander 9 = .ok (.ifCond .eq 19, 3) := by decide +kernel
theorem dX11_wander_12 : decode cX11_wander 12 = .ok (.iload_n 2, 1) := by decide +kernel
theorem dX11_wander_13 : decode cX11_wander 13 = .ok (.ifCond .lt 15, 3) := by decide +kernel
theorem dX11_wander_16 : decode cX11_wander 16 = .ok (.iload_n 3, 1) := by decide +kernel
theorem dX11_wander_17 : decode cX11_wander 17 = .ok (.i2l, 1) := by decide +kernel
theorem dX11_wander_18 : decode cX11_wander 18 = .ok (.lconst 0, 1) := by decide +kernel
theorem dX11_wander_19 : decode cX11_wander 19 = .ok (.ldc2_w 291, 3) := by decide +kernel
theorem dX11_wander_22 : decode cX11_wander 22 = .ok (.invokestatic 73, 3) := by decide +kernel
theorem dX11_wander_25 : decode cX11_wander 25 = .ok (.ifCond .ne 6, 3) := by decide +kernel
theorem dX11_wander_28 : decode cX11_wander 28 = .ok (.bipush (-102), 2) := by decide +kernel
theorem dX11_wander_30 : decode cX11_wander 30 = .ok (.ireturn, 1) := by decide +kernel
theorem dX11_wander_31 : decode cX11_wander 31 = .ok (.aload_n 0, 1) := by decide +kernel
theorem dX11_wander_32 : decode cX11_wander 32 = .ok (.invokevirtual 234, 3) := by decide +kernel
theorem dX11_wander_35 : decode cX11_wander 35 = .ok (.ifCond .ne 10, 3) := by decide +kernel
theorem dX11_wander_38 : decode cX11_wander 38 = .ok (.aload_n 0, 1) := by decide +kernel
theorem dX11_wander_39 : decode cX11_wander 39 = .ok (.invokevirtual 251, 3) := by decide +kernel
theorem dX11_wander_42 : decode cX11_wander 42 = .ok (.ifCond .ne 6, 3) := by decide +kernel
theorem dX11_wander_45 : decode cX11_wander 45 = .ok (.bipush (-103), 2) := by decide +kernel
theorem dX11_wander_47 : decode cX11_wander 47 = .ok (.ireturn, 1) := by decide +kernel
theorem dX11_wander_48 : decode cX11_wander 48 = .ok (.aload_n 0, 1) := by decide +kernel
theorem dX11_wander_49 : decode cX11_wander 49 = .ok (.iload_n 2, 1) := by decide +kernel
theorem dX11_wander_50 : decode cX11_wander 50 = .ok (.putfield 281, 3) := by decide +kernel
theorem dX11_wander_53 : decode cX11_wander 53 = .ok (.aload_n 0, 1) := by decide +kernel
theorem dX11_wander_54 : decode cX11_wander 54 = .ok (.getfield 111, 3) := by decide +kernel
theorem dX11_wander_57 : decode cX11_wander 57 = .ok (.istore 4, 2) := by decide +kernel
theorem dX11_wander_59 : decode cX11_wander 59 = .ok (.iconst 0, 1) := by decide +kernel
theorem dX11_wander_60 : decode cX11_wander 60 = .ok (.istore 5, 2) := by decide +kernel
theorem dX11_wander_62 : decode cX11_wander 62 = .ok (.aload_n 0, 1) := by decide +kernel
theorem dX11_wander_63 : decode cX11_wander 63 = .ok (.getfield 22, 3) := by decide +kernel
theorem dX11_wander_66 : decode cX11_wander 66 = .ok (.aload_n 0, 1) := by decide +kernel
theorem dX11_wander_67 : decode cX11_wander 67 = .ok (.getfield 31, 3) := by decide +kernel
theorem dX11_wander_70 : decode cX11_wander 70 = .ok (.invokestatic 195, 3) := by decide +kernel
theorem dX11_wander_73 : decode cX11_wander 73 = .ok (.iconst 0, 1) := by decide +kernel
theorem dX11_wander_74 : decode cX11_wander 74 = .ok (.istore 6, 2) := by decide +kernel
theorem dX11_wander_76 : decode cX11_wander 76 = .ok (.iload 6, 2) := by decide +kernel
theorem dX11_wander_78 : decode cX11_wander 78 = .ok (.iload_n 1, 1) := by decide +kernel
theorem dX11_wander_79 : decode cX11_wander 79 = .ok (.if_icmp .ge 109, 3) := by decide +kernel
theorem dX11_wander_82 : decode cX11_wander 82 = .ok (.aload_n 0, 1) := by decide +kernel
theorem dX11_wander_83 : decode cX11_wander 83 = .ok (.iload 4, 2) := by decide +kernel
theorem dX11_wander_85 : decode cX11_wander 85 = .ok (.invokevirtual 293, 3) := by decide +kernel
theorem dX11_wander_88 : decode cX11_wander 88 = .ok (.istore 7, 2) := by decide +kernel
theorem dX11_wander_90 : decode cX11_wander 90 = .ok (.iload 7, 2) := by decide +kernel
theorem dX11_wander_92 : decode cX11_wander 92 = .ok (.ifCond .le 58, 3) := by decide +kernel
theorem dX11_wander_95 : decode cX11_wander 95 = .ok (.aload_n 0, 1) := by decide +kernel
theorem dX11_wander_96 : decode cX11_wander 96 = .ok (.iload 4, 2) := by decide +kernel
theorem dX11_wander_98 : decode cX11_wander 98 = .ok (.aload_n 0, 1) := by decide +kernel
theorem dX11_wander_99 : decode cX11_wander 99 = .ok (.iload 7, 2) := by decide +kernel
theorem dX11_wander_101 : decode cX11_wander 101 = .ok (.invokevirtual 296, 3) := by decide +kernel
theorem dX11_wander_104 : decode cX11_wander 104 = .ok (.invokevirtual 299, 3) := by decide +kernel
theorem dX11_wander_107 : decode cX11_wander 107 = .ok (.istore 8, 2) := by decide +kernel
theorem dX11_wander_109 : decode cX11_wander 109 = .ok (.aload_n 0, 1) := by decide +kernel
theorem dX11_wander_110 : decode cX11_wander 110 = .ok (.iload 8, 2) := by decide +kernel
theorem dX11_wander_112 : decode cX11_wander 112 = .ok (.aload_n 0, 1) := by decide +kernel
theorem dX11_wander_113 : decode cX11_wander 113 = .ok (.getfield 31, 3) := by decide +kernel
theorem dX11_wander_116 : decode cX11_wander 116 = .ok (.aload_n 0, 1) := by decide +kernel
theorem dX11_wander_117 : decode cX11_wander 117 = .ok (.getfield 135, 3) := by decide +kernel
theorem dX11_wander_120 : decode cX11_wander 120 = .ok (.invokevirtual 227, 3) := by decide +kernel
theorem dX11_wander_123 : decode cX11_wander 123 = .ok (.ifCond .eq 27, 3) := by decide +kernel
theorem dX11_wander_126 : decode cX11_wander 126 = .ok (.aload_n 0, 1) := by decide +kernel
theorem dX11_wander_127 : decode cX11_wander 127 = .ok (.iload 8, 2) := by decide +kernel
theorem dX11_wander_129 : decode cX11_wander 129 = .ok (.aload_n 0, 1) := by decide +kernel
theorem dX11_wander_130 : decode cX11_wander 130 = .ok (.getfield 31, 3) := by decide +kernel
theorem dX11_wander_133 : decode cX11_wander 133 = .ok (.aload_n 0, 1) := by decide +kernel
theorem dX11_wander_134 : decode cX11_wander 134 = .ok (.getfield 135, 3) := by decide +kernel
theorem dX11_wander_137 : decode cX11_wander 137 = .ok (.invokevirtual 199, 3) := by decide +kernel
theorem dX11_wander_140 : decode cX11_wander 140 = .ok (.aload_n 0, 1) := by decide +kernel
theorem dX11_wander_141 : decode cX11_wander 141 = .ok (.iload 8, 2) := by decide +kernel
theorem dX11_wander_143 : decode cX11_wander 143 = .ok (.iload 4, 2) := by decide +kernel
theorem dX11_wander_145 : decode cX11_wander 145 = .ok (.invokevirtual 231, 3) := by decide +kernel
theorem dX11_wander_148 : decode cX11_wander 148 = .ok (.istore 4, 2) := by decide +kernel
theorem dX11_wander_150 : decode cX11_wander 150 = .ok (.iload 5, 2) := by decide +kernel
theorem dX11_wander_152 : decode cX11_wander 152 = .ok (.aload_n 0, 1) := by decide +kernel
theorem dX11_wander_153 : decode cX11_wander 153 = .ok (.getfield 31, 3) := by decide +kernel
theorem dX11_wander_156 : decode cX11_wander 156 = .ok (.aload_n 0, 1) := by decide +kernel
theorem dX11_wander_157 : decode cX11_wander 157 = .ok (.getfield 135, 3) := by decide +kernel
theorem dX11_wander_160 : decode cX11_wander 160 = .ok (.aload_n 0, 1) := by decide +kernel
theorem dX11_wander_161 : decode cX11_wander 161 = .ok (.getfield 25, 3) := by decide +kernel
theorem dX11_wander_164 : decode cX11_wander 164 = .ok (.aload_n 0, 1) := by decide +kernel
theorem dX11_wander_165 : decode cX11_wander 165 = .ok (.getfield 138, 3) := by decide +kernel
theorem dX11_wander_168 : decode cX11_wander 168 = .ok (.invokestatic 203, 3) := by decide +kernel
theorem dX11_wander_171 : decode cX11_wander 171 = .ok (.ifCond .eq 7, 3) := by decide +kernel
theorem dX11_wander_174 : decode cX11_wander 174 = .ok (.iconst 1, 1) := by decide +kernel
theorem dX11_wander_175 : decode cX11_wander 175 = .ok (.goto 4, 3) := by decide +kernel
theorem dX11_wander_178 : decode cX11_wander 178 = .ok (.iconst 0, 1) := by decide +kernel
theorem dX11_wander_179 : decode cX11_wander 179 = .ok (.iadd, 1) := by decide +kernel
theorem dX11_wander_180 : decode cX11_wander 180 = .ok (.istore 5, 2) := by decide +kernel
theorem dX11_wander_182 : decode cX11_wander 182 = .ok (.iinc 6 1, 3) := by decide +kernel
theorem dX11_wander_185 : decode cX11_wander 185 = .ok (.goto (-109), 3) := by decide +kernel
theorem dX11_wander_188 : decode cX11_wander 188 = .ok (.iload_n 3, 1) := by decide +kernel
theorem dX11_wander_189 : decode cX11_wander 189 = .ok (.ifCond .ne 8, 3) := by decide +kernel
theorem dX11_wander_192 : decode cX11_wander 192 = .ok (.iload 5, 2) := by decide +kernel
theorem dX11_wander_194 : decode cX11_wander 194 = .ok (.goto 17, 3) := by decide +kernel
theorem dX11_wander_197 : decode cX11_wander 197 = .ok (.iload_n 3, 1) := by decide +kernel
theorem dX11_wander_198 : decode cX11_wander 198 = .ok (.iconst 1, 1) := by decide +kernel
theorem dX11_wander_199 : decode cX11_wander 199 = .ok (.if_icmp .ne 8, 3) := by decide +kernel
theorem dX11_wander_202 : decode cX11_wander 202 = .ok (.iload 4, 2) := by decide +kernel
theorem dX11_wander_204 : decode cX11_wander 204 = .ok (.goto 7, 3) := by decide +kernel
theorem dX11_wander_207 : decode cX11_wander 207 = .ok (.aload_n 0, 1) := by decide +kernel
theorem dX11_wander_208 : decode cX11_wander 208 = .ok (.getfield 281, 3) := by decide +kernel
theorem dX11_wander_211 : decode cX11_wander 211 = .ok (.ireturn, 1) := by decide +kernel
theorem dX11_image_0 : decode cX11_image 0 = .ok (.aload_n 0, 1) := by decide +kernel
theorem dX11_image_1 : decode cX11_image 1 = .ok (.invokevirtual 234, 3) := by decide +kernel
theorem dX11_image_4 : decode cX11_image 4 = .ok (.ifCond .eq 6, 3) := by decide +kernel
theorem dX11_image_7 : decode cX11_image 7 = .ok (.bipush (-103), 2) := by decide +kernel
theorem dX11_image_9 : decode cX11_image 9 = .ok (.ireturn, 1) := by decide +kernel
theorem dX11_image_10 : decode cX11_image 10 = .ok (.aload_n 0, 1) := by decide +kernel
theorem dX11_image_11 : decode cX11_image 11 = .ok (.getfield 16, 3) := by decide +kernel
theorem dX11_image_14 : decode cX11_image 14 = .ok (.aload_n 0, 1) := by decide +kernel
theorem dX11_image_15 : decode cX11_image 15 = .ok (.getfield 52, 3) := by decide +kernel
theorem dX11_image_18 : decode cX11_image 18 = .ok (.invokestatic 195, 3) := by decide +kernel
theorem dX11_image_21 : decode cX11_image 21 = .ok (.aload_n 0, 1) := by decide +kernel
theorem dX11_image_22 : decode cX11_image 22 = .ok (.getfield 19, 3) := by decide +kernel
theorem dX11_image_25 : decode cX11_image 25 = .ok (.aload_n 0, 1) := by decide +kernel
theorem dX11_image_26 : decode cX11_image 26 = .ok (.getfield 55, 3) := by decide +kernel
theorem dX11_image_29 : decode cX11_image 29 = .ok (.invokestatic 195, 3) := by decide +kernel
theorem dX11_image_32 : decode cX11_image 32 = .ok (.aload_n 0, 1) := by decide +kernel
theorem dX11_image_33 : decode cX11_image 33 = .ok (.getfield 22, 3) := by decide +kernel
theorem dX11_image_36 : decode cX11_image 36 = .ok (.aload_n 0, 1) := by decide +kernel
theorem dX11_image_37 : decode cX11_image 37 = .ok (.getfield 58, 3) := by decide +kernel
theorem dX11_image_40 : decode cX11_image 40 = .ok (.invokestatic 195, 3) := by decide +kernel
theorem dX11_image_43 : decode cX11_image 43 = .ok (.aload_n 0, 1) := by decide +kernel
theorem dX11_image_44 : decode cX11_image 44 = .ok (.getfield 25, 3) := by decide +kernel
theorem dX11_image_47 : decode cX11_image 47 = .ok (.aload_n 0, 1) := by decide +kernel
theorem dX11_image_48 : decode cX11_image 48 = .ok (.getfield 61, 3) := by decide +kernel
theorem dX11_image_51 : decode cX11_image 51 = .ok (.invokestatic 195, 3) := by decide +kernel
theorem dX11_image_54 : decode cX11_image 54 = .ok (.aload_n 0, 1) := by decide +kernel
theorem dX11_image_55 : decode cX11_image 55 = .ok (.getfield 46, 3) := by decide +kernel
theorem dX11_image_58 : decode cX11_image 58 = .ok (.aload_n 0, 1) := by decide +kernel
theorem dX11_image_59 : decode cX11_image 59 = .ok (.getfield 64, 3) := by decide +kernel
theorem dX11_image_62 : decode cX11_image 62 = .ok (.invokestatic 195, 3) := by decide +kernel
theorem dX11_image_65 : decode cX11_image 65 = .ok (.aload_n 0, 1) := by decide +kernel
theorem dX11_image_66 : decode cX11_image 66 = .ok (.aload_n 0, 1) := by decide +kernel
theorem dX11_image_67 : decode cX11_image 67 = .ok (.getfield 111, 3) := by decide +kernel
theorem dX11_image_70 : decode cX11_image 70 = .ok (.putfield 302, 3) := by decide +kernel
theorem dX11_image_73 : decode cX11_image 73 = .ok (.aload_n 0, 1) := by decide +kernel
theorem dX11_image_74 : decode cX11_image 74 = .ok (.aload_n 0, 1) := by decide +kernel
theorem dX11_image_75 : decode cX11_image 75 = .ok (.getfield 114, 3) := by decide +kernel
theorem dX11_image_78 : decode cX11_image 78 = .ok (.putfield 305, 3) := by decide +kernel
theorem dX11_image_81 : decode cX11_image 81 = .ok (.aload_n 0, 1) := by decide +kernel
theorem dX11_image_82 : decode cX11_image 82 = .ok (.aload_n 0, 1) := by decide +kernel
theorem dX11_image_83 : decode cX11_image 83 = .ok (.getfield 118, 3) := by decide +kernel
theorem dX11_image_86 : decode cX11_image 86 = .ok (.putfield 308, 3) := by decide +kernel
theorem dX11_image_89 : decode cX11_image 89 = .ok (.aload_n 0, 1) := by decide +kernel
theorem dX11_image_90 : decode cX11_image 90 = .ok (.aload_n 0, 1) := by decide +kernel
theorem dX11_image_91 : decode cX11_image 91 = .ok (.getfield 135, 3) := by decide +kernel
theorem dX11_image_94 : decode cX11_image 94 = .ok (.putfield 311, 3) := by decide +kernel
theorem dX11_image_97 : decode cX11_image 97 = .ok (.aload_n 0, 1) := by decide +kernel
theorem dX11_image_98 : decode cX11_image 98 = .ok (.aload_n 0, 1) := by decide +kernel
theorem dX11_image_99 : decode cX11_image 99 = .ok (.getfield 138, 3) := by decide +kernel
theorem dX11_image_102 : decode cX11_image 102 = .ok (.putfield 314, 3) := by decide +kernel
theorem dX11_image_105 : decode cX11_image 105 = .ok (.aload_n 0, 1) := by decide +kernel
theorem dX11_image_106 : decode cX11_image 106 = .ok (.aload_n 0, 1) := by decide +kernel
theorem dX11_image_107 : decode cX11_image 107 = .ok (.getfield 121, 3) := by decide +kernel
theorem dX11_image_110 : decode cX11_image 110 = .ok (.putfield 317, 3) := by decide +kernel
theorem dX11_image_113 : decode cX11_image 113 = .ok (.aload_n 0, 1) := by decide +kernel
theorem dX11_image_114 : decode cX11_image 114 = .ok (.aload_n 0, 1) := by decide +kernel
theorem dX11_image_115 : decode cX11_image 115 = .ok (.getfield 124, 3) := by decide +kernel
theorem dX11_image_118 : decode cX11_image 118 = .ok (.putfield 67, 3) := by decide +kernel
theorem dX11_image_121 : decode cX11_image 121 = .ok (.aload_n 0, 1) := by decide +kernel
theorem dX11_image_122 : decode cX11_image 122 = .ok (.getfield 118, 3) := by decide +kernel
theorem dX11_image_125 : decode cX11_image 125 = .ok (.ireturn, 1) := by decide +kernel
theorem dX11_restore_0 : decode cX11_restore 0 = .ok (.aload_n 0, 1) := by decide +kernel
theorem dX11_restore_1 : decode cX11_restore 1 = .ok (.getfield 67, 3) := by decide +kernel
theorem dX11_restore_4 : decode cX11_restore 4 = .ok (.aload_n 0, 1) := by decide +kernel
theorem dX11_restore_5 : decode cX11_restore 5 = .ok (.getfield 124, 3) := by decide +kernel
theorem dX11_restore_8 : decode cX11_restore 8 = .ok (.if_icmp .eq 6, 3) := by decide +kernel
theorem dX11_restore_11 : decode cX11_restore 11 = .ok (.bipush (-103), 2) := by decide +kernel
theorem dX11_restore_13 : decode cX11_restore 13 = .ok (.ireturn, 1) := by decide +kernel
theorem dX11_restore_14 : decode cX11_restore 14 = .ok (.aload_n 0, 1) := by decide +kernel
theorem dX11_restore_15 : decode cX11_restore 15 = .ok (.getfield 52, 3) := by decide +kernel
theorem dX11_restore_18 : decode cX11_restore 18 = .ok (.aload_n 0, 1) := by decide +kernel
theorem dX11_restore_19 : decode cX11_restore 19 = .ok (.getfield 16, 3) := by decide +kernel
theorem dX11_restore_22 : decode cX11_restore 22 = .ok (.invokestatic 195, 3) := by decide +kernel
theorem dX11_restore_25 : decode cX11_restore 25 = .ok (.aload_n 0, 1) := by decide +kernel
theorem dX11_restore_26 : decode cX11_restore 26 = .ok (.getfield 55, 3) := by decide +kernel
theorem dX11_restore_29 : decode cX11_restore 29 = .ok (.aload_n 0, 1) := by decide +kernel
theorem dX11_restore_30 : decode cX11_restore 30 = .ok (.getfield 19, 3) := by decide +kernel
theorem dX11_restore_33 : decode cX11_restore 33 = .ok (.invokestatic 195, 3) := by decide +kernel
theorem dX11_restore_36 : decode cX11_restore 36 = .ok (.aload_n 0, 1) := by decide +kernel
theorem dX11_restore_37 : decode cX11_restore 37 = .ok (.getfield 58, 3) := by decide +kernel
theorem dX11_restore_40 : decode cX11_restore 40 = .ok (.aload_n 0, 1) := by decide +kernel
theorem dX11_restore_41 : decode cX11_restore 41 = .ok (.getfield 22, 3) := by decide +kernel
theorem dX11_restore_44 : decode cX11_restore 44 = .ok (.invokestatic 195, 3) := by decide +kernel
theorem dX11_restore_47 : decode cX11_restore 47 = .ok (.aload_n 0, 1) := by decide +kernel
theorem dX11_restore_48 : decode cX11_restore 48 = .ok (.getfield 61, 3) := by decide +kernel
theorem dX11_restore_51 : decode cX11_restore 51 = .ok (.aload_n 0, 1) := by decide +kernel
theorem dX11_restore_52 : decode cX11_restore 52 = .ok (.getfield 25, 3) := by decide +kernel
theorem dX11_restore_55 : decode cX11_restore 55 = .ok (.invokestatic 195, 3) := by decide +kernel
theorem dX11_restore_58 : decode cX11_restore 58 = .ok (.aload_n 0, 1) := by decide +kernel
theorem dX11_restore_59 : decode cX11_restore 59 = .ok (.getfield 64, 3) := by decide +kernel
theorem dX11_restore_62 : decode cX11_restore 62 = .ok (.aload_n 0, 1) := by decide +kernel
theorem dX11_restore_63 : decode cX11_restore 63 = .ok (.getfield 46, 3) := by decide +kernel
theorem dX11_restore_66 : decode cX11_restore 66 = .ok (.invokestatic 195, 3) := by decide +kernel
theorem dX11_restore_69 : decode cX11_restore 69 = .ok (.aload_n 0, 1) := by decide +kernel
theorem dX11_restore_70 : decode cX11_restore 70 = .ok (.aload_n 0, 1) := by decide +kernel
theorem dX11_restore_71 : decode cX11_restore 71 = .ok (.getfield 302, 3) := by decide +kernel
theorem dX11_restore_74 : decode cX11_restore 74 = .ok (.putfield 111, 3) := by decide +kernel
theorem dX11_restore_77 : decode cX11_restore 77 = .ok (.aload_n 0, 1) := by decide +kernel
theorem dX11_restore_78 : decode cX11_restore 78 = .ok (.aload_n 0, 1) := by decide +kernel
theorem dX11_restore_79 : decode cX11_restore 79 = .ok (.getfield 305, 3) := by decide +kernel
theorem dX11_restore_82 : decode cX11_restore 82 = .ok (.putfield 114, 3) := by decide +kernel
theorem dX11_restore_85 : decode cX11_restore 85 = .ok (.aload_n 0, 1) := by decide +kernel
theorem dX11_restore_86 : decode cX11_restore 86 = .ok (.aload_n 0, 1) := by decide +kernel
theorem dX11_restore_87 : decode cX11_restore 87 = .ok (.getfield 308, 3) := by decide +kernel
theorem dX11_restore_90 : decode cX11_restore 90 = .ok (.putfield 118, 3) := by decide +kernel
theorem dX11_restore_93 : decode cX11_restore 93 = .ok (.aload_n 0, 1) := by decide +kernel
theorem dX11_restore_94 : decode cX11_restore 94 = .ok (.aload_n 0, 1) := by decide +kernel
theorem dX11_restore_95 : decode cX11_restore 95 = .ok (.getfield 311, 3) := by decide +kernel
theorem dX11_restore_98 : decode cX11_restore 98 = .ok (.putfield 135, 3) := by decide +kernel
theorem dX11_restore_101 : decode cX11_restore 101 = .ok (.aload_n 0, 1) := by decide +kernel
theorem dX11_restore_102 : decode cX11_restore 102 = .ok (.aload_n 0, 1) := by decide +kernel
theorem dX11_restore_103 : decode cX11_restore 103 = .ok (.getfield 314, 3) := by decide +kernel
theorem dX11_restore_106 : decode cX11_restore 106 = .ok (.putfield 138, 3) := by decide +kernel
theorem dX11_restore_109 : decode cX11_restore 109 = .ok (.aload_n 0, 1) := by decide +kernel
theorem dX11_restore_110 : decode cX11_restore 110 = .ok (.aload_n 0, 1) := by decide +kernel
theorem dX11_restore_111 : decode cX11_restore 111 = .ok (.getfield 317, 3) := by decide +kernel
theorem dX11_restore_114 : decode cX11_restore 114 = .ok (.putfield 121, 3) := by decide +kernel
theorem dX11_restore_117 : decode cX11_restore 117 = .ok (.aload_n 0, 1) := by decide +kernel
theorem dX11_restore_118 : decode cX11_restore 118 = .ok (.getfield 118, 3) := by decide +kernel
theorem dX11_restore_121 : decode cX11_restore 121 = .ok (.ireturn, 1) := by decide +kernel
theorem dX11_openMany_0 : decode cX11_openMany 0 = .ok (.iconst 0, 1) := by decide +kernel
theorem dX11_openMany_1 : decode cX11_openMany 1 = .ok (.istore_n 1, 1) := by decide +kernel
theorem dX11_openMany_2 : decode cX11_openMany 2 = .ok (.iconst 0, 1) := by decide +kernel
theorem dX11_openMany_3 : decode cX11_openMany 3 = .ok (.istore_n 2, 1) := by decide +kernel
theorem dX11_openMany_4 : decode cX11_openMany 4 = .ok (.iload_n 2, 1) := by decide +kernel
theorem dX11_openMany_5 : decode cX11_openMany 5 = .ok (.aload_n 0, 1) := by decide +kernel
theorem dX11_openMany_6 : decode cX11_openMany 6 = .ok (.getfield 108, 3) := by decide +kernel
theorem dX11_openMany_9 : decode cX11_openMany 9 = .ok (.if_icmp .ge 52, 3) := by decide +kernel
theorem dX11_openMany_12 : decode cX11_openMany 12 = .ok (.aload_n 0, 1) := by decide +kernel
theorem dX11_openMany_13 : decode cX11_openMany 13 = .ok (.getfield 135, 3) := by decide +kernel
theorem dX11_openMany_16 : decode cX11_openMany 16 = .ok (.ifCond .le 45, 3) := by decide +kernel
theorem dX11_openMany_19 : decode cX11_openMany 19 = .ok (.iload_n 1, 1) := by decide +kernel
theorem dX11_openMany_20 : decode cX11_openMany 20 = .ok (.aload_n 0, 1) := by decide +kernel
theorem dX11_openMany_21 : decode cX11_openMany 21 = .ok (.iload_n 2, 1) := by decide +kernel
theorem dX11_openMany_22 : decode cX11_openMany 22 = .ok (.aload_n 0, 1) := by decide +kernel
theorem dX11_openMany_23 : decode cX11_openMany 23 = .ok (.getfield 111, 3) := by decide +kernel
theorem dX11_openMany_26 : decode cX11_openMany 26 = .ok (.invokevirtual 224, 3) := by decide +kernel
theorem dX11_openMany_29 : decode cX11_openMany 29 = .ok (.ifCond .eq 23, 3) := by decide +kernel
theorem dX11_openMany_32 : decode cX11_openMany 32 = .ok (.aload_n 0, 1) := by decide +kernel
theorem dX11_openMany_33 : decode cX11_openMany 33 = .ok (.iload_n 2, 1) := by decide +kernel
theorem dX11_openMany_34 : decode cX11_openMany 34 = .ok (.aload_n 0, 1) := by decide +kernel
theorem dX11_openMany_35 : decode cX11_openMany 35 = .ok (.getfield 22, 3) := by decide +kernel
theorem dX11_openMany_38 : decode cX11_openMany 38 = .ok (.aload_n 0, 1) := by decide +kernel
theorem dX11_openMany_39 : decode cX11_openMany 39 = .ok (.getfield 135, 3) := by decide +kernel
theorem dX11_openMany_42 : decode cX11_openMany 42 = .ok (.invokevirtual 227, 3) := by decide +kernel
theorem dX11_openMany_45 : decode cX11_openMany 45 = .ok (.ifCond .eq 7, 3) := by decide +kernel
theorem dX11_openMany_48 : decode cX11_openMany 48 = .ok (.iconst 1, 1) := by decide +kernel
theorem dX11_openMany_49 : decode cX11_openMany 49 = .ok (.goto 4, 3) := by decide +kernel
theorem dX11_openMany_52 : decode cX11_openMany 52 = .ok (.iconst 0, 1) := by decide +kernel
theorem dX11_openMany_53 : decode cX11_openMany 53 = .ok (.iadd, 1) := by decide +kernel
theorem dX11_openMany_54 : decode cX11_openMany 54 = .ok (.istore_n 1, 1) := by decide +kernel
theorem dX11_openMany_55 : decode cX11_openMany 55 = .ok (.iinc 2 1, 3) := by decide +kernel
theorem dX11_openMany_58 : decode cX11_openMany 58 = .ok (.goto (-54), 3) := by decide +kernel
theorem dX11_openMany_61 : decode cX11_openMany 61 = .ok (.iload_n 1, 1) := by decide +kernel
theorem dX11_openMany_62 : decode cX11_openMany 62 = .ok (.ireturn, 1) := by decide +kernel
theorem dX11_countOf_0 : decode cX11_countOf 0 = .ok (.iload_n 1, 1) := by decide +kernel
theorem dX11_countOf_1 : decode cX11_countOf 1 = .ok (.tableswitch 143 0 12 #[67, 72, 77, 82, 95, 104, 109, 114, 114, 123, 128, 133, 138], 67) := by decide +kernel
theorem dX11_countOf_68 : decode cX11_countOf 68 = .ok (.aload_n 0, 1) := by decide +kernel
theorem dX11_countOf_69 : decode cX11_countOf 69 = .ok (.getfield 105, 3) := by decide +kernel
theorem dX11_countOf_72 : decode cX11_countOf 72 = .ok (.ireturn, 1) := by decide +kernel
theorem dX11_countOf_73 : decode cX11_countOf 73 = .ok (.aload_n 0, 1) := by decide +kernel
theorem dX11_countOf_74 : decode cX11_countOf 74 = .ok (.getfield 108, 3) := by decide +kernel
theorem dX11_countOf_77 : decode cX11_countOf 77 = .ok (.ireturn, 1) := by decide +kernel
theorem dX11_countOf_78 : decode cX11_countOf 78 = .ok (.aload_n 0, 1) := by decide +kernel
theorem dX11_countOf_79 : decode cX11_countOf 79 = .ok (.getfield 111, 3) := by decide +kernel
theorem dX11_countOf_82 : decode cX11_countOf 82 = .ok (.ireturn, 1) := by decide +kernel
theorem dX11_countOf_83 : decode cX11_countOf 83 = .ok (.aload_n 0, 1) := by decide +kernel
theorem dX11_countOf_84 : decode cX11_countOf 84 = .ok (.getfield 114, 3) := by decide +kernel
theorem dX11_countOf_87 : decode cX11_countOf 87 = .ok (.ifCond .eq 7, 3) := by decide +kernel
theorem dX11_countOf_90 : decode cX11_countOf 90 = .ok (.iconst 1, 1) := by decide +kernel
theorem dX11_countOf_91 : decode cX11_countOf 91 = .ok (.goto 4, 3) := by decide +kernel
theorem dX11_countOf_94 : decode cX11_countOf 94 = .ok (.iconst 0, 1) := by decide +kernel
theorem dX11_countOf_95 : decode cX11_countOf 95 = .ok (.ireturn, 1) := by decide +kernel
theorem dX11_countOf_96 : decode cX11_countOf 96 = .ok (.aload_n 0, 1) := by decide +kernel
theorem dX11_countOf_97 : decode cX11_countOf 97 = .ok (.aload_n 0, 1) := by decide +kernel
theorem dX11_countOf_98 : decode cX11_countOf 98 = .ok (.getfield 111, 3) := by decide +kernel
theorem dX11_countOf_101 : decode cX11_countOf 101 = .ok (.invokevirtual 293, 3) := by decide +kernel
theorem dX11_countOf_104 : decode cX11_countOf 104 = .ok (.ireturn, 1) := by decide +kernel
theorem dX11_countOf_105 : decode cX11_countOf 105 = .ok (.aload_n 0, 1) := by decide +kernel
theorem dX11_countOf_106 : decode cX11_countOf 106 = .ok (.invokevirtual 320, 3) := by decide +kernel
theorem dX11_countOf_109 : decode cX11_countOf 109 = .ok (.ireturn, 1) := by decide +kernel
theorem dX11_countOf_110 : decode cX11_countOf 110 = .ok (.aload_n 0, 1) := by decide +kernel
theorem dX11_countOf_111 : decode cX11_countOf 111 = .ok (.getfield 118, 3) := by decide +kernel
theorem dX11_countOf_114 : decode cX11_countOf 114 = .ok (.ireturn, 1) := by decide +kernel
theorem dX11_countOf_115 : decode cX11_countOf 115 = .ok (.aload_n 0, 1) := by decide +kernel
theorem dX11_countOf_116 : decode cX11_countOf 116 = .ok (.iload_n 1, 1) := by decide +kernel
theorem dX11_countOf_117 : decode cX11_countOf 117 = .ok (.bipush 7, 2) := by decide +kernel
theorem dX11_countOf_119 : decode cX11_countOf 119 = .ok (.isub, 1) := by decide +kernel
theorem dX11_countOf_120 : decode cX11_countOf 120 = .ok (.invokevirtual 141, 3) := by decide +kernel
theorem dX11_countOf_123 : decode cX11_countOf 123 = .ok (.ireturn, 1) := by decide +kernel
theorem dX11_countOf_124 : decode cX11_countOf 124 = .ok (.aload_n 0, 1) := by decide +kernel
theorem dX11_countOf_125 : decode cX11_countOf 125 = .ok (.getfield 121, 3) := by decide +kernel
theorem dX11_countOf_128 : decode cX11_countOf 128 = .ok (.ireturn, 1) := by decide +kernel
theorem dX11_countOf_129 : decode cX11_countOf 129 = .ok (.aload_n 0, 1) := by decide +kernel
theorem dX11_countOf_130 : decode cX11_countOf 130 = .ok (.getfield 77, 3) := by decide +kernel
theorem dX11_countOf_133 : decode cX11_countOf 133 = .ok (.ireturn, 1) := by decide +kernel
theorem dX11_countOf_134 : decode cX11_countOf 134 = .ok (.aload_n 0, 1) := by decide +kernel
theorem dX11_countOf_135 : decode cX11_countOf 135 = .ok (.getfield 124, 3) := by decide +kernel
theorem dX11_countOf_138 : decode cX11_countOf 138 = .ok (.ireturn, 1) := by decide +kernel
theorem dX11_countOf_139 : decode cX11_countOf 139 = .ok (.aload_n 0, 1) := by decide +kernel
theorem dX11_countOf_140 : decode cX11_countOf 140 = .ok (.getfield 254, 3) := by decide +kernel
theorem dX11_countOf_143 : decode cX11_countOf 143 = .ok (.ireturn, 1) := by decide +kernel
theorem dX11_countOf_144 : decode cX11_countOf 144 = .ok (.bipush (-102), 2) := by decide +kernel
theorem dX11_countOf_146 : decode cX11_countOf 146 = .ok (.ireturn, 1) := by decide +kernel
theorem dX11_count_0 : decode cX11_count 0 = .ok (.aload_n 0, 1) := by decide +kernel
theorem dX11_count_1 : decode cX11_count 1 = .ok (.iload_n 1, 1) := by decide +kernel
theorem dX11_count_2 : decode cX11_count 2 = .ok (.invokevirtual 323, 3) := by decide +kernel
theorem dX11_count_5 : decode cX11_count 5 = .ok (.ireturn, 1) := by decide +kernel
theorem dX11_say_0 : decode cX11_say 0 = .ok (.aload_n 0, 1) := by decide +kernel
theorem dX11_say_1 : decode cX11_say 1 = .ok (.ldc2_w 326, 3) := by decide +kernel
theorem dX11_say_4 : decode cX11_say 4 = .ok (.aload_n 0, 1) := by decide +kernel
theorem dX11_say_5 : decode cX11_say 5 = .ok (.getfield 328, 3) := by decide +kernel
theorem dX11_say_8 : decode cX11_say 8 = .ok (.lmul, 1) := by decide +kernel
theorem dX11_say_9 : decode cX11_say 9 = .ok (.lload_n 1, 1) := by decide +kernel
theorem dX11_say_10 : decode cX11_say 10 = .ok (.ladd, 1) := by decide +kernel
theorem dX11_say_11 : decode cX11_say 11 = .ok (.putfield 328, 3) := by decide +kernel
theorem dX11_say_14 : decode cX11_say 14 = .ok (.return_, 1) := by decide +kernel
theorem dX11_sayTune_0 : decode cX11_sayTune 0 = .ok (.iconst 0, 1) := by decide +kernel
theorem dX11_sayTune_1 : decode cX11_sayTune 1 = .ok (.istore_n 2, 1) := by decide +kernel
theorem dX11_sayTune_2 : decode cX11_sayTune 2 = .ok (.iload_n 2, 1) := by decide +kernel
theorem dX11_sayTune_3 : decode cX11_sayTune 3 = .ok (.bipush 18, 2) := by decide +kernel
theorem dX11_sayTune_5 : decode cX11_sayTune 5 = .ok (.if_icmp .ge 31, 3) := by decide +kernel
theorem dX11_sayTune_8 : decode cX11_sayTune 8 = .ok (.iload_n 2, 1) := by decide +kernel
theorem dX11_sayTune_9 : decode cX11_sayTune 9 = .ok (.iconst 5, 1) := by decide +kernel
theorem dX11_sayTune_10 : decode cX11_sayTune 10 = .ok (.if_icmp .lt 9, 3) := by decide +kernel
theorem dX11_sayTune_13 : decode cX11_sayTune 13 = .ok (.iload_n 2, 1) := by decide +kernel
theorem dX11_sayTune_14 : decode cX11_sayTune 14 = .ok (.bipush 9, 2) := by decide +kernel
theorem dX11_sayTune_16 : decode cX11_sayTune 16 = .ok (.if_icmp .le 14, 3) := by decide +kernel
theorem dX11_sayTune_19 : decode cX11_sayTune 19 = .ok (.aload_n 0, 1) := by decide +kernel
theorem dX11_sayTune_20 : decode cX11_sayTune 20 = .ok (.aload_n 0, 1) := by decide +kernel
theorem dX11_sayTune_21 : decode cX11_sayTune 21 = .ok (.iload_n 1, 1) := by decide +kernel
theorem dX11_sayTune_22 : decode cX11_sayTune 22 = .ok (.iload_n 2, 1) := by decide +kernel
theorem dX11_sayTune_23 : decode cX11_sayTune 23 = .ok (.invokevirtual 175, 3) := by decide +kernel
theorem dX11_sayTune_26 : decode cX11_sayTune 26 = .ok (.i2l, 1) := by decide +kernel
theorem dX11_sayTune_27 : decode cX11_sayTune 27 = .ok (.invokevirtual 332, 3) := by decide +kernel
theorem dX11_sayTune_30 : decode cX11_sayTune 30 = .ok (.iinc 2 1, 3) := by decide +kernel
theorem dX11_sayTune_33 : decode cX11_sayTune 33 = .ok (.goto (-31), 3) := by decide +kernel
theorem dX11_sayTune_36 : decode cX11_sayTune 36 = .ok (.return_, 1) := by decide +kernel
theorem dX11_digest_0 : decode cX11_digest 0 = .ok (.aload_n 0, 1) := by decide +kernel
theorem dX11_digest_1 : decode cX11_digest 1 = .ok (.ldc2_w 336, 3) := by decide +kernel
theorem dX11_digest_4 : decode cX11_digest 4 = .ok (.putfield 328, 3) := by decide +kernel
theorem dX11_digest_7 : decode cX11_digest 7 = .ok (.iconst 0, 1) := by decide +kernel
theorem dX11_digest_8 : decode cX11_digest 8 = .ok (.istore_n 1, 1) := by decide +kernel
theorem dX11_digest_9 : decode cX11_digest 9 = .ok (.iload_n 1, 1) := by decide +kernel
theorem dX11_digest_10 : decode cX11_digest 10 = .ok (.aload_n 0, 1) := by decide +kernel
theorem dX11_digest_11 : decode cX11_digest 11 = .ok (.getfield 108, 3) := by decide +kernel
theorem dX11_digest_14 : decode cX11_digest 14 = .ok (.if_icmp .ge 72, 3) := by decide +kernel
theorem dX11_digest_17 : decode cX11_digest 17 = .ok (.iconst 0, 1) := by decide +kernel
theorem dX11_digest_18 : decode cX11_digest 18 = .ok (.istore_n 2, 1) := by decide +kernel
theorem dX11_digest_19 : decode cX11_digest 19 = .ok (.iload_n 2, 1) := by decide +kernel
theorem dX11_digest_20 : decode cX11_digest 20 = .ok (.bipush 9, 2) := by decide +kernel
theorem dX11_digest_22 : decode cX11_digest 22 = .ok (.if_icmp .ge 20, 3) := by decide +kernel
theorem dX11_digest_25 : decode cX11_digest 25 = .ok (.aload_n 0, 1) := by decide +kernel
theorem dX11_digest_26 : decode cX11_digest 26 = .ok (.aload_n 0, 1) := by decide +kernel
theorem dX11_digest_27 : decode cX11_digest 27 = .ok (.iload_n 1, 1) := by decide +kernel
theorem dX11_digest_28 : decode cX11_digest 28 = .ok (.iload_n 2, 1) := by decide +kernel
theorem dX11_digest_29 : decode cX11_digest 29 = .ok (.invokevirtual 219, 3) := by decide +kernel
theorem dX11_digest_32 : decode cX11_digest 32 = .ok (.i2l, 1) := by decide +kernel
theorem dX11_digest_33 : decode cX11_digest 33 = .ok (.invokevirtual 332, 3) := by decide +kernel
theorem dX11_digest_36 : decode cX11_digest 36 = .ok (.iinc 2 1, 3) := by decide +kernel
theorem dX11_digest_39 : decode cX11_digest 39 = .ok (.goto (-20), 3) := by decide +kernel
theorem dX11_digest_42 : decode cX11_digest 42 = .ok (.iconst 0, 1) := by decide +kernel
theorem dX11_digest_43 : decode cX11_digest 43 = .ok (.istore_n 2, 1) := by decide +kernel
theorem dX11_digest_44 : decode cX11_digest 44 = .ok (.iload_n 2, 1) := by decide +kernel
theorem dX11_digest_45 : decode cX11_digest 45 = .ok (.bipush 12, 2) := by decide +kernel
theorem dX11_digest_47 : decode cX11_digest 47 = .ok (.if_icmp .ge 33, 3) := by decide +kernel
theorem dX11_digest_50 : decode cX11_digest 50 = .ok (.aload_n 0, 1) := by decide +kernel
theorem dX11_digest_51 : decode cX11_digest 51 = .ok (.aload_n 0, 1) := by decide +kernel
theorem dX11_digest_52 : decode cX11_digest 52 = .ok (.aload_n 0, 1) := by decide +kernel
theorem dX11_digest_53 : decode cX11_digest 53 = .ok (.getfield 13, 3) := by decide +kernel
theorem dX11_digest_56 : decode cX11_digest 56 = .ok (.iconst 3, 1) := by decide +kernel
theorem dX11_digest_57 : decode cX11_digest 57 = .ok (.iload_n 1, 1) := by decide +kernel
theorem dX11_digest_58 : decode cX11_digest 58 = .ok (.imul, 1) := by decide +kernel
theorem dX11_digest_59 : decode cX11_digest 59 = .ok (.iaload, 1) := by decide +kernel
theorem dX11_digest_60 : decode cX11_digest 60 = .ok (.aload_n 0, 1) := by decide +kernel
theorem dX11_digest_61 : decode cX11_digest 61 = .ok (.getfield 16, 3) := by decide +kernel
theorem dX11_digest_64 : decode cX11_digest 64 = .ok (.iload_n 1, 1) := by decide +kernel
theorem dX11_digest_65 : decode cX11_digest 65 = .ok (.iaload, 1) := by decide +kernel
theorem dX11_digest_66 : decode cX11_digest 66 = .ok (.iload_n 2, 1) := by decide +kernel
theorem dX11_digest_67 : decode cX11_digest 67 = .ok (.invokevirtual 191, 3) := by decide +kernel
theorem dX11_digest_70 : decode cX11_digest 70 = .ok (.i2l, 1) := by decide +kernel
theorem dX11_digest_71 : decode cX11_digest 71 = .ok (.invokevirtual 332, 3) := by decide +kernel
theorem dX11_digest_74 : decode cX11_digest 74 = .ok (.iinc 2 1, 3) := by decide +kernel
theorem dX11_digest_77 : decode cX11_digest 77 = .ok (.goto (-33), 3) := by decide +kernel
theorem dX11_digest_80 : decode cX11_digest 80 = .ok (.iinc 1 1, 3) := by decide +kernel
theorem dX11_digest_83 : decode cX11_digest 83 = .ok (.goto (-74), 3) := by decide +kernel
theorem dX11_digest_86 : decode cX11_digest 86 = .ok (.iconst 0, 1) := by decide +kernel
theorem dX11_digest_87 : decode cX11_digest 87 = .ok (.istore_n 1, 1) := by decide +kernel
theorem dX11_digest_88 : decode cX11_digest 88 = .ok (.iload_n 1, 1) := by decide +kernel
theorem dX11_digest_89 : decode cX11_digest 89 = .ok (.iconst 2, 1) := by decide +kernel
theorem dX11_digest_90 : decode cX11_digest 90 = .ok (.if_icmp .ge 22, 3) := by decide +kernel
theorem dX11_digest_93 : decode cX11_digest 93 = .ok (.aload_n 0, 1) := by decide +kernel
theorem dX11_digest_94 : decode cX11_digest 94 = .ok (.iload_n 1, 1) := by decide +kernel
theorem dX11_digest_95 : decode cX11_digest 95 = .ok (.invokevirtual 172, 3) := by decide +kernel
theorem dX11_digest_98 : decode cX11_digest 98 = .ok (.ifCond .eq 8, 3) := by decide +kernel
theorem dX11_digest_101 : decode cX11_digest 101 = .ok (.aload_n 0, 1) := by decide +kernel
theorem dX11_digest_102 : decode cX11_digest 102 = .ok (.iload_n 1, 1) := by decide +kernel
theorem dX11_digest_103 : decode cX11_digest 103 = .ok (.invokevirtual 338, 3) := by decide +kernel
theorem dX11_digest_106 : decode cX11_digest 106 = .ok (.iinc 1 1, 3) := by decide +kernel
theorem dX11_digest_109 : decode cX11_digest 109 = .ok (.goto (-21), 3) := by decide +kernel
theorem dX11_digest_112 : decode cX11_digest 112 = .ok (.aload_n 0, 1) := by decide +kernel
theorem dX11_digest_113 : decode cX11_digest 113 = .ok (.invokevirtual 234, 3) := by decide +kernel
theorem dX11_digest_116 : decode cX11_digest 116 = .ok (.ifCond .ne 29, 3) := by decide +kernel
theorem dX11_digest_119 : decode cX11_digest 119 = .ok (.aload_n 0, 1) := by decide +kernel
theorem dX11_digest_120 : decode cX11_digest 120 = .ok (.invokevirtual 251, 3) := by decide +kernel
theorem dX11_digest_123 : decode cX11_digest 123 = .ok (.ifCond .eq 22, 3) := by decide +kernel
theorem dX11_digest_126 : decode cX11_digest 126 = .ok (.aload_n 0, 1) := by decide +kernel
theorem dX11_digest_127 : decode cX11_digest 127 = .ok (.aload_n 0, 1) := by decide +kernel
theorem dX11_digest_128 : decode cX11_digest 128 = .ok (.iconst 2, 1) := by decide +kernel
theorem dX11_digest_129 : decode cX11_digest 129 = .ok (.invokevirtual 269, 3) := by decide +kernel
theorem dX11_digest_132 : decode cX11_digest 132 = .ok (.i2l, 1) := by decide +kernel
theorem dX11_digest_133 : decode cX11_digest 133 = .ok (.invokevirtual 332, 3) := by decide +kernel
theorem dX11_digest_136 : decode cX11_digest 136 = .ok (.aload_n 0, 1) := by decide +kernel
theorem dX11_digest_137 : decode cX11_digest 137 = .ok (.aload_n 0, 1) := by decide +kernel
theorem dX11_digest_138 : decode cX11_digest 138 = .ok (.invokevirtual 276, 3) := by decide +kernel
theorem dX11_digest_141 : decode cX11_digest 141 = .ok (.i2l, 1) := by decide +kernel
theorem dX11_digest_142 : decode cX11_digest 142 = .ok (.invokevirtual 332, 3) := by decide +kernel
theorem dX11_digest_145 : decode cX11_digest 145 = .ok (.iconst 0, 1) := by decide +kernel
theorem dX11_digest_146 : decode cX11_digest 146 = .ok (.istore_n 1, 1) := by decide +kernel
theorem dX11_digest_147 : decode cX11_digest 147 = .ok (.iload_n 1, 1) := by decide +kernel
theorem dX11_digest_148 : decode cX11_digest 148 = .ok (.aload_n 0, 1) := by decide +kernel
theorem dX11_digest_149 : decode cX11_digest 149 = .ok (.getfield 77, 3) := by decide +kernel
theorem dX11_digest_152 : decode cX11_digest 152 = .ok (.if_icmp .ge 20, 3) := by decide +kernel
theorem dX11_digest_155 : decode cX11_digest 155 = .ok (.aload_n 0, 1) := by decide +kernel
theorem dX11_digest_156 : decode cX11_digest 156 = .ok (.aload_n 0, 1) := by decide +kernel
theorem dX11_digest_157 : decode cX11_digest 157 = .ok (.getfield 7, 3) := by decide +kernel
theorem dX11_digest_160 : decode cX11_digest 160 = .ok (.iload_n 1, 1) := by decide +kernel
theorem dX11_digest_161 : decode cX11_digest 161 = .ok (.iaload, 1) := by decide +kernel
theorem dX11_digest_162 : decode cX11_digest 162 = .ok (.i2l, 1) := by decide +kernel
theorem dX11_digest_163 : decode cX11_digest 163 = .ok (.invokevirtual 332, 3) := by decide +kernel
theorem dX11_digest_166 : decode cX11_digest 166 = .ok (.iinc 1 1, 3) := by decide +kernel
theorem dX11_digest_169 : decode cX11_digest 169 = .ok (.goto (-22), 3) := by decide +kernel
theorem dX11_digest_172 : decode cX11_digest 172 = .ok (.iconst 0, 1) := by decide +kernel
theorem dX11_digest_173 : decode cX11_digest 173 = .ok (.istore_n 1, 1) := by decide +kernel
theorem dX11_digest_174 : decode cX11_digest 174 = .ok (.iload_n 1, 1) := by decide +kernel
theorem dX11_digest_175 : decode cX11_digest 175 = .ok (.bipush 13, 2) := by decide +kernel
theorem dX11_digest_177 : decode cX11_digest 177 = .ok (.if_icmp .ge 19, 3) := by decide +kernel
theorem dX11_digest_180 : decode cX11_digest 180 = .ok (.aload_n 0, 1) := by decide +kernel
theorem dX11_digest_181 : decode cX11_digest 181 = .ok (.aload_n 0, 1) := by decide +kernel
theorem dX11_digest_182 : decode cX11_digest 182 = .ok (.iload_n 1, 1) := by decide +kernel
theorem dX11_digest_183 : decode cX11_digest 183 = .ok (.invokevirtual 323, 3) := by decide +kernel
theorem dX11_digest_186 : decode cX11_digest 186 = .ok (.i2l, 1) := by decide +kernel
theorem dX11_digest_187 : decode cX11_digest 187 = .ok (.invokevirtual 332, 3) := by decide +kernel
theorem dX11_digest_190 : decode cX11_digest 190 = .ok (.iinc 1 1, 3) := by decide +kernel
theorem dX11_digest_193 : decode cX11_digest 193 = .ok (.goto (-19), 3) := by decide +kernel
theorem dX11_digest_196 : decode cX11_digest 196 = .ok (.aload_n 0, 1) := by decide +kernel
theorem dX11_digest_197 : decode cX11_digest 197 = .ok (.getfield 328, 3) := by decide +kernel
theorem dX11_digest_200 : decode cX11_digest 200 = .ok (.lreturn, 1) := by decide +kernel
theorem dJ9_abs_0f7a4_0 : decode cJ9_abs_0f7a4 0 = .ok (.iload_n 0, 1) := by decide +kernel
theorem dJ9_abs_0f7a4_1 : decode cJ9_abs_0f7a4 1 = .ok (.ifCond .ge 8, 3) := by decide +kernel
theorem dJ9_abs_0f7a4_4 : decode cJ9_abs_0f7a4 4 = .ok (.iload_n 0, 1) := by decide +kernel
theorem dJ9_abs_0f7a4_5 : decode cJ9_abs_0f7a4 5 = .ok (.ineg, 1) := by decide +kernel
theorem dJ9_abs_0f7a4_6 : decode cJ9_abs_0f7a4 6 = .ok (.goto 4, 3) := by decide +kernel
theorem dJ9_abs_0f7a4_9 : decode cJ9_abs_0f7a4 9 = .ok (.iload_n 0, 1) := by decide +kernel
theorem dJ9_abs_0f7a4_10 : decode cJ9_abs_0f7a4 10 = .ok (.ireturn, 1) := by decide +kernel
theorem dJ9_max_7cf53_0 : decode cJ9_max_7cf53 0 = .ok (.iload_n 0, 1) := by decide +kernel
theorem dJ9_max_7cf53_1 : decode cJ9_max_7cf53 1 = .ok (.iload_n 1, 1) := by decide +kernel
theorem dJ9_max_7cf53_2 : decode cJ9_max_7cf53 2 = .ok (.if_icmp .lt 7, 3) := by decide +kernel
theorem dJ9_max_7cf53_5 : decode cJ9_max_7cf53 5 = .ok (.iload_n 0, 1) := by decide +kernel
theorem dJ9_max_7cf53_6 : decode cJ9_max_7cf53 6 = .ok (.goto 4, 3) := by decide +kernel
theorem dJ9_max_7cf53_9 : decode cJ9_max_7cf53 9 = .ok (.iload_n 1, 1) := by decide +kernel
theorem dJ9_max_7cf53_10 : decode cJ9_max_7cf53 10 = .ok (.ireturn, 1) := by decide +kernel
theorem dJ9_min_7cf53_0 : decode cJ9_min_7cf53 0 = .ok (.iload_n 0, 1) := by decide +kernel
theorem dJ9_min_7cf53_1 : decode cJ9_min_7cf53 1 = .ok (.iload_n 1, 1) := by decide +kernel
theorem dJ9_min_7cf53_2 : decode cJ9_min_7cf53 2 = .ok (.if_icmp .gt 7, 3) := by decide +kernel
theorem dJ9_min_7cf53_5 : decode cJ9_min_7cf53 5 = .ok (.iload_n 0, 1) := by decide +kernel
theorem dJ9_min_7cf53_6 : decode cJ9_min_7cf53 6 = .ok (.goto 4, 3) := by decide +kernel
theorem dJ9_min_7cf53_9 : decode cJ9_min_7cf53 9 = .ok (.iload_n 1, 1) := by decide +kernel
theorem dJ9_min_7cf53_10 : decode cJ9_min_7cf53 10 = .ok (.ireturn, 1) := by decide +kernel
theorem dJ0_length_8abf5_0 : decode cJ0_length_8abf5 0 = .ok (.aload_n 0, 1) := by decide +kernel
theorem dJ0_length_8abf5_1 : decode cJ0_length_8abf5 1 = .ok (.getfield 9, 3) := by decide +kernel
theorem dJ0_length_8abf5_4 : decode cJ0_length_8abf5 4 = .ok (.arraylength, 1) := by decide +kernel
theorem dJ0_length_8abf5_5 : decode cJ0_length_8abf5 5 = .ok (.aload_n 0, 1) := by decide +kernel
theorem dJ0_length_8abf5_6 : decode cJ0_length_8abf5 6 = .ok (.invokevirtual 335, 3) := by decide +kernel
theorem dJ0_length_8abf5_9 : decode cJ0_length_8abf5 9 = .ok (.ishr, 1) := by decide +kernel
theorem dJ0_length_8abf5_10 : decode cJ0_length_8abf5 10 = .ok (.ireturn, 1) := by decide +kernel
theorem dJ0_indexOf_0f7a4_0 : decode cJ0_indexOf_0f7a4 0 = .ok (.aload_n 0, 1) := by decide +kernel
theorem dJ0_indexOf_0f7a4_1 : decode cJ0_indexOf_0f7a4 1 = .ok (.iload_n 1, 1) := by decide +kernel
theorem dJ0_indexOf_0f7a4_2 : decode cJ0_indexOf_0f7a4 2 = .ok (.iconst 0, 1) := by decide +kernel
theorem dJ0_indexOf_0f7a4_3 : decode cJ0_indexOf_0f7a4 3 = .ok (.invokevirtual 633, 3) := by decide +kernel
theorem dJ0_indexOf_0f7a4_6 : decode cJ0_indexOf_0f7a4 6 = .ok (.ireturn, 1) := by decide +kernel
theorem dJ0_indexOf_7cf53_0 : decode cJ0_indexOf_7cf53 0 = .ok (.aload_n 0, 1) := by decide +kernel
theorem dJ0_indexOf_7cf53_1 : decode cJ0_indexOf_7cf53 1 = .ok (.invokevirtual 492, 3) := by decide +kernel
theorem dJ0_indexOf_7cf53_4 : decode cJ0_indexOf_7cf53 4 = .ok (.ifCond .eq 19, 3) := by decide +kernel
theorem dJ0_indexOf_7cf53_7 : decode cJ0_indexOf_7cf53 7 = .ok (.aload_n 0, 1) := by decide +kernel
theorem dJ0_indexOf_7cf53_8 : decode cJ0_indexOf_7cf53 8 = .ok (.getfield 9, 3) := by decide +kernel
theorem dJ0_indexOf_7cf53_11 : decode cJ0_indexOf_7cf53 11 = .ok (.iload_n 1, 1) := by decide +kernel
theorem dJ0_indexOf_7cf53_12 : decode cJ0_indexOf_7cf53 12 = .ok (.iload_n 2, 1) := by decide +kernel
theorem dJ0_indexOf_7cf53_13 : decode cJ0_indexOf_7cf53 13 = .ok (.aload_n 0, 1) := by decide +kernel
theorem dJ0_indexOf_7cf53_14 : decode cJ0_indexOf_7cf53 14 = .ok (.invokevirtual 505, 3) := by decide +kernel
theorem dJ0_indexOf_7cf53_17 : decode cJ0_indexOf_7cf53 17 = .ok (.invokestatic 637, 3) := by decide +kernel
theorem dJ0_indexOf_7cf53_20 : decode cJ0_indexOf_7cf53 20 = .ok (.goto 16, 3) := by decide +kernel
theorem dJ0_indexOf_7cf53_23 : decode cJ0_indexOf_7cf53 23 = .ok (.aload_n 0, 1) := by decide +kernel
theorem dJ0_indexOf_7cf53_24 : decode cJ0_indexOf_7cf53 24 = .ok (.getfield 9, 3) := by decide +kernel
theorem dJ0_indexOf_7cf53_27 : decode cJ0_indexOf_7cf53 27 = .ok (.iload_n 1, 1) := by decide +kernel
theorem dJ0_indexOf_7cf53_28 : decode cJ0_indexOf_7cf53 28 = .ok (.iload_n 2, 1) := by decide +kernel
theorem dJ0_indexOf_7cf53_29 : decode cJ0_indexOf_7cf53 29 = .ok (.aload_n 0, 1) := by decide +kernel
theorem dJ0_indexOf_7cf53_30 : decode cJ0_indexOf_7cf53 30 = .ok (.invokevirtual 505, 3) := by decide +kernel
theorem dJ0_indexOf_7cf53_33 : decode cJ0_indexOf_7cf53 33 = .ok (.invokestatic 640, 3) := by decide +kernel
theorem dJ0_indexOf_7cf53_36 : decode cJ0_indexOf_7cf53 36 = .ok (.ireturn, 1) := by decide +kernel
theorem dJ0_coder_7d493_0 : decode cJ0_coder_7d493 0 = .ok (.getstatic 38, 3) := by decide +kernel
theorem dJ0_coder_7d493_3 : decode cJ0_coder_7d493 3 = .ok (.ifCond .eq 10, 3) := by decide +kernel
theorem dJ0_coder_7d493_6 : decode cJ0_coder_7d493 6 = .ok (.aload_n 0, 1) := by decide +kernel
theorem dJ0_coder_7d493_7 : decode cJ0_coder_7d493 7 = .ok (.getfield 15, 3) := by decide +kernel
theorem dJ0_coder_7d493_10 : decode cJ0_coder_7d493 10 = .ok (.goto 4, 3) := by decide +kernel
theorem dJ0_coder_7d493_13 : decode cJ0_coder_7d493 13 = .ok (.iconst 1, 1) := by decide +kernel
theorem dJ0_coder_7d493_14 : decode cJ0_coder_7d493 14 = .ok (.ireturn, 1) := by decide +kernel
theorem dJ0_isLatin1_aae02_0 : decode cJ0_isLatin1_aae02 0 = .ok (.getstatic 38, 3) := by decide +kernel
theorem dJ0_isLatin1_aae02_3 : decode cJ0_isLatin1_aae02 3 = .ok (.ifCond .eq 14, 3) := by decide +kernel
theorem dJ0_isLatin1_aae02_6 : decode cJ0_isLatin1_aae02 6 = .ok (.aload_n 0, 1) := by decide +kernel
theorem dJ0_isLatin1_aae02_7 : decode cJ0_isLatin1_aae02 7 = .ok (.getfield 15, 3) := by decide +kernel
theorem dJ0_isLatin1_aae02_10 : decode cJ0_isLatin1_aae02 10 = .ok (.ifCond .ne 7, 3) := by decide +kernel
theorem dJ0_isLatin1_aae02_13 : decode cJ0_isLatin1_aae02 13 = .ok (.iconst 1, 1) := by decide +kernel
theorem dJ0_isLatin1_aae02_14 : decode cJ0_isLatin1_aae02 14 = .ok (.goto 4, 3) := by decide +kernel
theorem dJ0_isLatin1_aae02_17 : decode cJ0_isLatin1_aae02 17 = .ok (.iconst 0, 1) := by decide +kernel
theorem dJ0_isLatin1_aae02_18 : decode cJ0_isLatin1_aae02 18 = .ok (.ireturn, 1) := by decide +kernel
theorem dJ0_checkBoundsBeginEnd_23922_0 : decode cJ0_checkBoundsBeginEnd_23922 0 = .ok (.iload_n 0, 1) := by decide +kernel
theorem dJ0_checkBoundsBeginEnd_23922_1 : decode cJ0_checkBoundsBeginEnd_23922 1 = .ok (.iload_n 1, 1) := by decide +kernel
theorem dJ0_checkBoundsBeginEnd_23922_2 : decode cJ0_checkBoundsBeginEnd_23922 2 = .ok (.iload_n 2, 1) := by decide +kernel
theorem dJ0_checkBoundsBeginEnd_23922_3 : decode cJ0_checkBoundsBeginEnd_23922 3 = .ok (.getstatic 1053, 3) := by decide +kernel
theorem dJ0_checkBoundsBeginEnd_23922_6 : decode cJ0_checkBoundsBeginEnd_23922 6 = .ok (.invokestatic 1062, 3) := by decide +kernel
theorem dJ0_checkBoundsBeginEnd_23922_9 : decode cJ0_checkBoundsBeginEnd_23922 9 = .ok (.pop, 1) := by decide +kernel
theorem dJ0_checkBoundsBeginEnd_23922_10 : decode cJ0_checkBoundsBeginEnd_23922 10 = .ok (.return_, 1) := by decide +kernel
theorem dJ1_canEncode_9a6ad_0 : decode cJ1_canEncode_9a6ad 0 = .ok (.iload_n 0, 1) := by decide +kernel
theorem dJ1_canEncode_9a6ad_1 : decode cJ1_canEncode_9a6ad 1 = .ok (.ifCond .lt 14, 3) := by decide +kernel
theorem dJ1_canEncode_9a6ad_4 : decode cJ1_canEncode_9a6ad 4 = .ok (.iload_n 0, 1) := by decide +kernel
theorem dJ1_canEncode_9a6ad_5 : decode cJ1_canEncode_9a6ad 5 = .ok (.sipush 255, 3) := by decide +kernel
theorem dJ1_canEncode_9a6ad_8 : decode cJ1_canEncode_9a6ad 8 = .ok (.if_icmp .gt 7, 3) := by decide +kernel
theorem dJ1_canEncode_9a6ad_11 : decode cJ1_canEncode_9a6ad 11 = .ok (.iconst 1, 1) := by decide +kernel
theorem dJ1_canEncode_9a6ad_12 : decode cJ1_canEncode_9a6ad 12 = .ok (.goto 4, 3) := by decide +kernel
theorem dJ1_canEncode_9a6ad_15 : decode cJ1_canEncode_9a6ad 15 = .ok (.iconst 0, 1) := by decide +kernel
theorem dJ1_canEncode_9a6ad_16 : decode cJ1_canEncode_9a6ad 16 = .ok (.ireturn, 1) := by decide +kernel
theorem dJ1_indexOf_4cfef_0 : decode cJ1_indexOf_4cfef 0 = .ok (.iload_n 1, 1) := by decide +kernel
theorem dJ1_indexOf_4cfef_1 : decode cJ1_indexOf_4cfef 1 = .ok (.invokestatic 88, 3) := by decide +kernel
theorem dJ1_indexOf_4cfef_4 : decode cJ1_indexOf_4cfef 4 = .ok (.ifCond .ne 5, 3) := by decide +kernel
theorem dJ1_indexOf_4cfef_7 : decode cJ1_indexOf_4cfef 7 = .ok (.iconst (-1), 1) := by decide +kernel
theorem dJ1_indexOf_4cfef_8 : decode cJ1_indexOf_4cfef 8 = .ok (.ireturn, 1) := by decide +kernel
theorem dJ1_indexOf_4cfef_9 : decode cJ1_indexOf_4cfef 9 = .ok (.iload_n 2, 1) := by decide +kernel
theorem dJ1_indexOf_4cfef_10 : decode cJ1_indexOf_4cfef 10 = .ok (.iconst 0, 1) := by decide +kernel
theorem dJ1_indexOf_4cfef_11 : decode cJ1_indexOf_4cfef 11 = .ok (.invokestatic 92, 3) := by decide +kernel
theorem dJ1_indexOf_4cfef_14 : decode cJ1_indexOf_4cfef 14 = .ok (.istore_n 2, 1) := by decide +kernel
theorem dJ1_indexOf_4cfef_15 : decode cJ1_indexOf_4cfef 15 = .ok (.iload_n 3, 1) := by decide +kernel
theorem dJ1_indexOf_4cfef_16 : decode cJ1_indexOf_4cfef 16 = .ok (.aload_n 0, 1) := by decide +kernel
theorem dJ1_indexOf_4cfef_17 : decode cJ1_indexOf_4cfef 17 = .ok (.arraylength, 1) := by decide +kernel
theorem dJ1_indexOf_4cfef_18 : decode cJ1_indexOf_4cfef 18 = .ok (.invokestatic 38, 3) := by decide +kernel
theorem dJ1_indexOf_4cfef_21 : decode cJ1_indexOf_4cfef 21 = .ok (.istore_n 3, 1) := by decide +kernel
theorem dJ1_indexOf_4cfef_22 : decode cJ1_indexOf_4cfef 22 = .ok (.iload_n 2, 1) := by decide +kernel
theorem dJ1_indexOf_4cfef_23 : decode cJ1_indexOf_4cfef 23 = .ok (.iload_n 3, 1) := by decide +kernel
theorem dJ1_indexOf_4cfef_24 : decode cJ1_indexOf_4cfef 24 = .ok (.if_icmp .lt 5, 3) := by decide +kernel
theorem dJ1_indexOf_4cfef_27 : decode cJ1_indexOf_4cfef 27 = .ok (.iconst (-1), 1) := by decide +kernel
theorem dJ1_indexOf_4cfef_28 : decode cJ1_indexOf_4cfef 28 = .ok (.ireturn, 1) := by decide +kernel
theorem dJ1_indexOf_4cfef_29 : decode cJ1_indexOf_4cfef 29 = .ok (.aload_n 0, 1) := by decide +kernel
theorem dJ1_indexOf_4cfef_30 : decode cJ1_indexOf_4cfef 30 = .ok (.iload_n 1, 1) := by decide +kernel
theorem dJ1_indexOf_4cfef_31 : decode cJ1_indexOf_4cfef 31 = .ok (.iload_n 2, 1) := by decide +kernel
theorem dJ1_indexOf_4cfef_32 : decode cJ1_indexOf_4cfef 32 = .ok (.iload_n 3, 1) := by decide +kernel
theorem dJ1_indexOf_4cfef_33 : decode cJ1_indexOf_4cfef 33 = .ok (.invokestatic 95, 3) := by decide +kernel
theorem dJ1_indexOf_4cfef_36 : decode cJ1_indexOf_4cfef 36 = .ok (.ireturn, 1) := by decide +kernel
theorem dJ1_indexOfChar_4cfef_0 : decode cJ1_indexOfChar_4cfef 0 = .ok (.iload_n 1, 1) := by decide +kernel
theorem dJ1_indexOfChar_4cfef_1 : decode cJ1_indexOfChar_4cfef 1 = .ok (.i2b, 1) := by decide +kernel
theorem dJ1_indexOfChar_4cfef_2 : decode cJ1_indexOfChar_4cfef 2 = .ok (.istore 4, 2) := by decide +kernel
theorem dJ1_indexOfChar_4cfef_4 : decode cJ1_indexOfChar_4cfef 4 = .ok (.iload_n 2, 1) := by decide +kernel
theorem dJ1_indexOfChar_4cfef_5 : decode cJ1_indexOfChar_4cfef 5 = .ok (.istore 5, 2) := by decide +kernel
theorem dJ1_indexOfChar_4cfef_7 : decode cJ1_indexOfChar_4cfef 7 = .ok (.iload 5, 2) := by decide +kernel
theorem dJ1_indexOfChar_4cfef_9 : decode cJ1_indexOfChar_4cfef 9 = .ok (.iload_n 3, 1) := by decide +kernel
theorem dJ1_indexOfChar_4cfef_10 : decode cJ1_indexOfChar_4cfef 10 = .ok (.if_icmp .ge 21, 3) := by decide +kernel
theorem dJ1_indexOfChar_4cfef_13 : decode cJ1_indexOfChar_4cfef 13 = .ok (.aload_n 0, 1) := by decide +kernel
theorem dJ1_indexOfChar_4cfef_14 : decode cJ1_indexOfChar_4cfef 14 = .ok (.iload 5, 2) := by decide +kernel
theorem dJ1_indexOfChar_4cfef_16 : decode cJ1_indexOfChar_4cfef 16 = .ok (.baload, 1) := by decide +kernel
theorem dJ1_indexOfChar_4cfef_17 : decode cJ1_indexOfChar_4cfef 17 = .ok (.iload 4, 2) := by decide +kernel
theorem dJ1_indexOfChar_4cfef_19 : decode cJ1_indexOfChar_4cfef 19 = .ok (.if_icmp .ne 6, 3) := by decide +kernel
theorem dJ1_indexOfChar_4cfef_22 : decode cJ1_indexOfChar_4cfef 22 = .ok (.iload 5, 2) := by decide +kernel
theorem dJ1_indexOfChar_4cfef_24 : decode cJ1_indexOfChar_4cfef 24 = .ok (.ireturn, 1) := by decide +kernel
theorem dJ1_indexOfChar_4cfef_25 : decode cJ1_indexOfChar_4cfef 25 = .ok (.iinc 5 1, 3) := by decide +kernel
theorem dJ1_indexOfChar_4cfef_28 : decode cJ1_indexOfChar_4cfef 28 = .ok (.goto (-21), 3) := by decide +kernel
theorem dJ1_indexOfChar_4cfef_31 : decode cJ1_indexOfChar_4cfef 31 = .ok (.iconst (-1), 1) := by decide +kernel
theorem dJ1_indexOfChar_4cfef_32 : decode cJ1_indexOfChar_4cfef 32 = .ok (.ireturn, 1) := by decide +kernel
theorem dL_law_0 : decode cL_law 0 = .ok (.new 7, 3) := by decide +kernel
theorem dL_law_3 : decode cL_law 3 = .ok (.dup, 1) := by decide +kernel
theorem dL_law_4 : decode cL_law 4 = .ok (.invokespecial 9, 3) := by decide +kernel
theorem dL_law_7 : decode cL_law 7 = .ok (.astore_n 1, 1) := by decide +kernel
theorem dL_law_8 : decode cL_law 8 = .ok (.new 10, 3) := by decide +kernel
theorem dL_law_11 : decode cL_law 11 = .ok (.dup, 1) := by decide +kernel
theorem dL_law_12 : decode cL_law 12 = .ok (.invokespecial 12, 3) := by decide +kernel
theorem dL_law_15 : decode cL_law 15 = .ok (.astore_n 2, 1) := by decide +kernel
theorem dL_law_16 : decode cL_law 16 = .ok (.iconst 0, 1) := by decide +kernel
theorem dL_law_17 : decode cL_law 17 = .ok (.istore_n 3, 1) := by decide +kernel
theorem dL_law_18 : decode cL_law 18 = .ok (.iload_n 3, 1) := by decide +kernel
theorem dL_law_19 : decode cL_law 19 = .ok (.aload_n 0, 1) := by decide +kernel
theorem dL_law_20 : decode cL_law 20 = .ok (.arraylength, 1) := by decide +kernel
theorem dL_law_21 : decode cL_law 21 = .ok (.iconst 4, 1) := by decide +kernel
theorem dL_law_22 : decode cL_law 22 = .ok (.isub, 1) := by decide +kernel
theorem dL_law_23 : decode cL_law 23 = .ok (.if_icmp .gt 717, 3) := by decide +kernel
theorem dL_law_26 : decode cL_law 26 = .ok (.aload_n 0, 1) := by decide +kernel
theorem dL_law_27 : decode cL_law 27 = .ok (.iload_n 3, 1) := by decide +kernel
theorem dL_law_28 : decode cL_law 28 = .ok (.iaload, 1) := by decide +kernel
theorem dL_law_29 : decode cL_law 29 = .ok (.bipush 31, 2) := by decide +kernel
theorem dL_law_31 : decode cL_law 31 = .ok (.iand, 1) := by decide +kernel
theorem dL_law_32 : decode cL_law 32 = .ok (.tableswitch 702 0 24 #[116, 139, 152, 165, 178, 201, 234, 267, 300, 333, 356, 379, 392, 435, 468, 491, 514, 527, 540, 583, 596, 639, 652, 665, 688], 116) := by decide +kernel
theorem dL_law_148 : decode cL_law 148 = .ok (.aload_n 1, 1) := by decide +kernel
theorem dL_law_149 : decode cL_law 149 = .ok (.aload_n 0, 1) := by decide +kernel
theorem dL_law_150 : decode cL_law 150 = .ok (.iload_n 3, 1) := by decide +kernel
theorem dL_law_151 : decode cL_law 151 = .ok (.iconst 1, 1) := by decide +kernel
theorem dL_law_152 : decode cL_law 152 = .ok (.iadd, 1) := by decide +kernel
theorem dL_law_153 : decode cL_law 153 = .ok (.iaload, 1) := by decide +kernel
theorem dL_law_154 : decode cL_law 154 = .ok (.invokevirtual 13, 3) := by decide +kernel
theorem dL_law_157 : decode cL_law 157 = .ok (.aload_n 2, 1) := by decide +kernel
theorem dL_law_158 : decode cL_law 158 = .ok (.aload_n 0, 1) := by decide +kernel
theorem dL_law_159 : decode cL_law 159 = .ok (.iload_n 3, 1) := by decide +kernel
theorem dL_law_160 : decode cL_law 160 = .ok (.iconst 1, 1) := by decide +kernel
theorem dL_law_161 : decode cL_law 161 = .ok (.iadd, 1) := by decide +kernel
theorem dL_law_162 : decode cL_law 162 = .ok (.iaload, 1) := by decide +kernel
theorem dL_law_163 : decode cL_law 163 = .ok (.invokevirtual 17, 3) := by decide +kernel
theorem dL_law_166 : decode cL_law 166 = .ok (.if_icmp .eq 568, 3) := by decide +kernel
theorem dL_law_169 : decode cL_law 169 = .ok (.iconst 0, 1) := by decide +kernel
theorem dL_law_170 : decode cL_law 170 = .ok (.ireturn, 1) := by decide +kernel
theorem dL_law_171 : decode cL_law 171 = .ok (.aload_n 1, 1) := by decide +kernel
theorem dL_law_172 : decode cL_law 172 = .ok (.invokevirtual 18, 3) := by decide +kernel
theorem dL_law_175 : decode cL_law 175 = .ok (.aload_n 2, 1) := by decide +kernel
theorem dL_law_176 : decode cL_law 176 = .ok (.invokevirtual 22, 3) := by decide +kernel
theorem dL_law_179 : decode cL_law 179 = .ok (.if_icmp .eq 555, 3) := by decide +kernel
theorem dL_law_182 : decode cL_law 182 = .ok (.iconst 0, 1) := by decide +kernel
theorem dL_law_183 : decode cL_law 183 = .ok (.ireturn, 1) := by decide +kernel
theorem dL_law_184 : decode cL_law 184 = .ok (.aload_n 1, 1) := by decide +kernel
theorem dL_law_185 : decode cL_law 185 = .ok (.invokevirtual 23, 3) := by decide +kernel
theorem dL_law_188 : decode cL_law 188 = .ok (.aload_n 2, 1) := by decide +kernel
theorem dL_law_189 : decode cL_law 189 = .ok (.invokevirtual 26, 3) := by decide +kernel
theorem dL_law_192 : decode cL_law 192 = .ok (.if_icmp .eq 542, 3) := by decide +kernel
theorem dL_law_195 : decode cL_law 195 = .ok (.iconst 0, 1) := by decide +kernel
theorem dL_law_196 : decode cL_law 196 = .ok (.ireturn, 1) := by decide +kernel
theorem dL_law_197 : decode cL_law 197 = .ok (.aload_n 1, 1) := by decide +kernel
theorem dL_law_198 : decode cL_law 198 = .ok (.invokevirtual 27, 3) := by decide +kernel
theorem dL_law_201 : decode cL_law 201 = .ok (.aload_n 2, 1) := by decide +kernel
theorem dL_law_202 : decode cL_law 202 = .ok (.invokevirtual 30, 3) := by decide +kernel
theorem dL_law_205 : decode cL_law 205 = .ok (.if_icmp .eq 529, 3) := by decide +kernel
theorem dL_law_208 : decode cL_law 208 = .ok (.iconst 0, 1) := by decide +kernel
theorem dL_law_209 : decode cL_law 209 = .ok (.ireturn, 1) := by decide +kernel
theorem dL_law_210 : decode cL_law 210 = .ok (.aload_n 1, 1) := by decide +kernel
theorem dL_law_211 : decode cL_law 211 = .ok (.aload_n 0, 1) := by decide +kernel
theorem dL_law_212 : decode cL_law 212 = .ok (.iload_n 3, 1) := by decide +kernel
theorem dL_law_213 : decode cL_law 213 = .ok (.iconst 1, 1) := by decide +kernel
theorem dL_law_214 : decode cL_law 214 = .ok (.iadd, 1) := by decide +kernel
theorem dL_law_215 : decode cL_law 215 = .ok (.iaload, 1) := by decide +kernel
theorem dL_law_216 : decode cL_law 216 = .ok (.invokevirtual 31, 3) := by decide +kernel
theorem dL_law_219 : decode cL_law 219 = .ok (.aload_n 2, 1) := by decide +kernel
theorem dL_law_220 : decode cL_law 220 = .ok (.aload_n 0, 1) := by decide +kernel
theorem dL_law_221 : decode cL_law 221 = .ok (.iload_n 3, 1) := by decide +kernel
theorem dL_law_222 : decode cL_law 222 = .ok (.iconst 1, 1) := by decide +kernel
theorem dL_law_223 : decode cL_law 223 = .ok (.iadd, 1) := by decide +kernel
theorem dL_law_224 : decode cL_law 224 = .ok (.iaload, 1) := by decide +kernel
theorem dL_law_225 : decode cL_law 225 = .ok (.invokevirtual 34, 3) := by decide +kernel
theorem dL_law_228 : decode cL_law 228 = .ok (.if_icmp .eq 506, 3) := by decide +kernel
theorem dL_law_231 : decode cL_law 231 = .ok (.iconst 0, 1) := by decide +kernel
theorem dL_law_232 : decode cL_law 232 = .ok (.ireturn, 1) := by decide +kernel
theorem dL_law_233 : decode cL_law 233 = .ok (.aload_n 1, 1) := by decide +kernel
theorem dL_law_234 : decode cL_law 234 = .ok (.aload_n 0, 1) := by decide +kernel
theorem dL_law_235 : decode cL_law 235 = .ok (.iload_n 3, 1) := by decide +kernel
theorem dL_law_236 : decode cL_law 236 = .ok (.iconst 1, 1) := by decide +kernel
theorem dL_law_237 : decode cL_law 237 = .ok (.iadd, 1) := by decide +kernel
theorem dL_law_238 : decode cL_law 238 = .ok (.iaload, 1) := by decide +kernel
theorem dL_law_239 : decode cL_law 239 = .ok (.aload_n 0, 1) := by decide +kernel
theorem dL_law_240 : decode cL_law 240 = .ok (.iload_n 3, 1) := by decide +kernel
theorem dL_law_241 : decode cL_law 241 = .ok (.iconst 2, 1) := by decide +kernel
theorem dL_law_242 : decode cL_law 242 = .ok (.iadd, 1) := by decide +kernel
theorem dL_law_243 : decode cL_law 243 = .ok (.iaload, 1) := by decide +kernel
theorem dL_law_244 : decode cL_law 244 = .ok (.invokevirtual 35, 3) := by decide +kernel
theorem dL_law_247 : decode cL_law 247 = .ok (.aload_n 2, 1) := by decide +kernel
theorem dL_law_248 : decode cL_law 248 = .ok (.aload_n 0, 1) := by decide +kernel
theorem dL_law_249 : decode cL_law 249 = .ok (.iload_n 3, 1) := by decide +kernel
theorem dL_law_250 : decode cL_law 250 = .ok (.iconst 1, 1) := by decide +kernel
theorem dL_law_251 : decode cL_law 251 = .ok (.iadd, 1) := by decide +kernel
theorem dL_law_252 : decode cL_law 252 = .ok (.iaload, 1) := by decide +kernel
theorem dL_law_253 : decode cL_law 253 = .ok (.aload_n 0, 1) := by decide +kernel
theorem dL_law_254 : decode cL_law 254 = .ok (.iload_n 3, 1) := by decide +kernel
theorem dL_law_255 : decode cL_law 255 = .ok (.iconst 2, 1) := by decide +kernel
theorem dL_law_256 : decode cL_law 256 = .ok (.iadd, 1) := by decide +kernel
theorem dL_law_257 : decode cL_law 257 = .ok (.iaload, 1) := by decide +kernel
theorem dL_law_258 : decode cL_law 258 = .ok (.invokevirtual 39, 3) := by decide +kernel
theorem dL_law_261 : decode cL_law 261 = .ok (.if_icmp .eq 473, 3) := by decide +kernel
theorem dL_law_264 : decode cL_law 264 = .ok (.iconst 0, 1) := by decide +kernel
theorem dL_law_265 : decode cL_law 265 = .ok (.ireturn, 1) := by decide +kernel
theorem dL_law_266 : decode cL_law 266 = .ok (.aload_n 1, 1) := by decide +kernel
theorem dL_law_267 : decode cL_law 267 = .ok (.aload_n 0, 1) := by decide +kernel
theorem dL_law_268 : decode cL_law 268 = .ok (.iload_n 3, 1) := by decide +kernel
theorem dL_law_269 : decode cL_law 269 = .ok (.iconst 1, 1) := by decide +kernel
theorem dL_law_270 : decode cL_law 270 = .ok (.iadd, 1) := by decide +kernel
theorem dL_law_271 : decode cL_law 271 = .ok (.iaload, 1) := by decide +kernel
theorem dL_law_272 : decode cL_law 272 = .ok (.aload_n 0, 1) := by decide +kernel
theorem dL_law_273 : decode cL_law 273 = .ok (.iload_n 3, 1) := by decide +kernel
theorem dL_law_274 : decode cL_law 274 = .ok (.iconst 2, 1) := by decide +kernel
theorem dL_law_275 : decode cL_law 275 = .ok (.iadd, 1) := by decide +kernel
theorem dL_law_276 : decode cL_law 276 = .ok (.iaload, 1) := by decide +kernel
theorem dL_law_277 : decode cL_law 277 = .ok (.invokevirtual 40, 3) := by decide +kernel
theorem dL_law_280 : decode cL_law 280 = .ok (.aload_n 2, 1) := by decide +kernel
theorem dL_law_281 : decode cL_law 281 = .ok (.aload_n 0, 1) := by decide +kernel
theorem dL_law_282 : decode cL_law 282 = .ok (.iload_n 3, 1) := by decide +kernel
theorem dL_law_283 : decode cL_law 283 = .ok (.iconst 1, 1) := by decide +kernel
theorem dL_law_284 : decode cL_law 284 = .ok (.iadd, 1) := by decide +kernel
theorem dL_law_285 : decode cL_law 285 = .ok (.iaload, 1) := by decide +kernel
theorem dL_law_286 : decode cL_law 286 = .ok (.aload_n 0, 1) := by decide +kernel
theorem dL_law_287 : decode cL_law 287 = .ok (.iload_n 3, 1) := by decide +kernel
theorem dL_law_288 : decode cL_law 288 = .ok (.iconst 2, 1) := by decide +kernel
theorem dL_law_289 : decode cL_law 289 = .ok (.iadd, 1) := by decide +kernel
theorem dL_law_290 : decode cL_law 290 = .ok (.iaload, 1) := by decide +kernel
theorem dL_law_291 : decode cL_law 291 = .ok (.invokevirtual 43, 3) := by decide +kernel
theorem dL_law_294 : decode cL_law 294 = .ok (.if_icmp .eq 440, 3) := by decide +kernel
theorem dL_law_297 : decode cL_law 297 = .ok (.iconst 0, 1) := by decide +kernel
theorem dL_law_298 : decode cL_law 298 = .ok (.ireturn, 1) := by decide +kernel
theorem dL_law_299 : decode cL_law 299 = .ok (.aload_n 1, 1) := by decide +kernel
theorem dL_law_300 : decode cL_law 300 = .ok (.aload_n 0, 1) := by decide +kernel
theorem dL_law_301 : decode cL_law 301 = .ok (.iload_n 3, 1) := by decide +kernel
theorem dL_law_302 : decode cL_law 302 = .ok (.iconst 1, 1) := by decide +kernel
theorem dL_law_303 : decode cL_law 303 = .ok (.iadd, 1) := by decide +kernel
theorem dL_law_304 : decode cL_law 304 = .ok (.iaload, 1) := by decide +kernel
theorem dL_law_305 : decode cL_law 305 = .ok (.aload_n 0, 1) := by decide +kernel
theorem dL_law_306 : decode cL_law 306 = .ok (.iload_n 3, 1) := by decide +kernel
theorem dL_law_307 : decode cL_law 307 = .ok (.iconst 2, 1) := by decide +kernel
theorem dL_law_308 : decode cL_law 308 = .ok (.iadd, 1) := by decide +kernel
theorem dL_law_309 : decode cL_law 309 = .ok (.iaload, 1) := by decide +kernel
theorem dL_law_310 : decode cL_law 310 = .ok (.invokevirtual 44, 3) := by decide +kernel
theorem dL_law_313 : decode cL_law 313 = .ok (.aload_n 2, 1) := by decide +kernel
theorem dL_law_314 : decode cL_law 314 = .ok (.aload_n 0, 1) := by decide +kernel
theorem dL_law_315 : decode cL_law 315 = .ok (.iload_n 3, 1) := by decide +kernel
theorem dL_law_316 : decode cL_law 316 = .ok (.iconst 1, 1) := by decide +kernel
theorem dL_law_317 : decode cL_law 317 = .ok (.iadd, 1) := by decide +kernel
theorem dL_law_318 : decode cL_law 318 = .ok (.iaload, 1) := by decide +kernel
theorem dL_law_319 : decode cL_law 319 = .ok (.aload_n 0, 1) := by decide +kernel
theorem dL_law_320 : decode cL_law 320 = .ok (.iload_n 3, 1) := by decide +kernel
theorem dL_law_321 : decode cL_law 321 = .ok (.iconst 2, 1) := by decide +kernel
theorem dL_law_322 : decode cL_law 322 = .ok (.iadd, 1) := by decide +kernel
theorem dL_law_323 : decode cL_law 323 = .ok (.iaload, 1) := by decide +kernel
theorem dL_law_324 : decode cL_law 324 = .ok (.invokevirtual 47, 3) := by decide +kernel
theorem dL_law_327 : decode cL_law 327 = .ok (.if_icmp .eq 407, 3) := by decide +kernel
theorem dL_law_330 : decode cL_law 330 = .ok (.iconst 0, 1) := by decide +kernel
theorem dL_law_331 : decode cL_law 331 = .ok (.ireturn, 1) := by decide +kernel
theorem dL_law_332 : decode cL_law 332 = .ok (.aload_n 1, 1) := by decide +kernel
theorem dL_law_333 : decode cL_law 333 = .ok (.aload_n 0, 1) := by decide +kernel
theorem dL_law_334 : decode cL_law 334 = .ok (.iload_n 3, 1) := by decide +kernel
theorem dL_law_335 : decode cL_law 335 = .ok (.iconst 1, 1) := by decide +kernel
theorem dL_law_336 : decode cL_law 336 = .ok (.iadd, 1) := by decide +kernel
theorem dL_law_337 : decode cL_law 337 = .ok (.iaload, 1) := by decide +kernel
theorem dL_law_338 : decode cL_law 338 = .ok (.aload_n 0, 1) := by decide +kernel
theorem dL_law_339 : decode cL_law 339 = .ok (.iload_n 3, 1) := by decide +kernel
theorem dL_law_340 : decode cL_law 340 = .ok (.iconst 2, 1) := by decide +kernel
theorem dL_law_341 : decode cL_law 341 = .ok (.iadd, 1) := by decide +kernel
theorem dL_law_342 : decode cL_law 342 = .ok (.iaload, 1) := by decide +kernel
theorem dL_law_343 : decode cL_law 343 = .ok (.invokevirtual 48, 3) := by decide +kernel
theorem dL_law_346 : decode cL_law 346 = .ok (.aload_n 2, 1) := by decide +kernel
theorem dL_law_347 : decode cL_law 347 = .ok (.aload_n 0, 1) := by decide +kernel
theorem dL_law_348 : decode cL_law 348 = .ok (.iload_n 3, 1) := by decide +kernel
theorem dL_law_349 : decode cL_law 349 = .ok (.iconst 1, 1) := by decide +kernel
theorem dL_law_350 : decode cL_law 350 = .ok (.iadd, 1) := by decide +kernel
theorem dL_law_351 : decode cL_law 351 = .ok (.iaload, 1) := by decide +kernel
theorem dL_law_352 : decode cL_law 352 = .ok (.aload_n 0, 1) := by decide +kernel
theorem dL_law_353 : decode cL_law 353 = .ok (.iload_n 3, 1) := by decide +kernel
theorem dL_law_354 : decode cL_law 354 = .ok (.iconst 2, 1) := by decide +kernel
theorem dL_law_355 : decode cL_law 355 = .ok (.iadd, 1) := by decide +kernel
theorem dL_law_356 : decode cL_law 356 = .ok (.iaload, 1) := by decide +kernel
theorem dL_law_357 : decode cL_law 357 = .ok (.invokevirtual 51, 3) := by decide +kernel
theorem dL_law_360 : decode cL_law 360 = .ok (.if_icmp .eq 374, 3) := by decide +kernel
theorem dL_law_363 : decode cL_law 363 = .ok (.iconst 0, 1) := by decide +kernel
theorem dL_law_364 : decode cL_law 364 = .ok (.ireturn, 1) := by decide +kernel
theorem dL_law_365 : decode cL_law 365 = .ok (.aload_n 1, 1) := by decide +kernel
theorem dL_law_366 : decode cL_law 366 = .ok (.aload_n 0, 1) := by decide +kernel
theorem dL_law_367 : decode cL_law 367 = .ok (.iload_n 3, 1) := by decide +kernel
theorem dL_law_368 : decode cL_law 368 = .ok (.iconst 1, 1) := by decide +kernel
theorem dL_law_369 : decode cL_law 369 = .ok (.iadd, 1) := by decide +kernel
theorem dL_law_370 : decode cL_law 370 = .ok (.iaload, 1) := by decide +kernel
theorem dL_law_371 : decode cL_law 371 = .ok (.invokevirtual 52, 3) := by decide +kernel
theorem dL_law_374 : decode cL_law 374 = .ok (.aload_n 2, 1) := by decide +kernel
theorem dL_law_375 : decode cL_law 375 = .ok (.aload_n 0, 1) := by decide +kernel
theorem dL_law_376 : decode cL_law 376 = .ok (.iload_n 3, 1) := by decide +kernel
theorem dL_law_377 : decode cL_law 377 = .ok (.iconst 1, 1) := by decide +kernel
theorem dL_law_378 : decode cL_law 378 = .ok (.iadd, 1) := by decide +kernel
theorem dL_law_379 : decode cL_law 379 = .ok (.iaload, 1) := by decide +kernel
theorem dL_law_380 : decode cL_law 380 = .ok (.invokevirtual 55, 3) := by decide +kernel
theorem dL_law_383 : decode cL_law 383 = .ok (.if_icmp .eq 351, 3) := by decide +kernel
theorem dL_law_386 : decode cL_law 386 = .ok (.iconst 0, 1) := by decide +kernel
theorem dL_law_387 : decode cL_law 387 = .ok (.ireturn, 1) := by decide +kernel
theorem dL_law_388 : decode cL_law 388 = .ok (.aload_n 1, 1) := by decide +kernel
theorem dL_law_389 : decode cL_law 389 = .ok (.aload_n 0, 1) := by decide +kernel
theorem dL_law_390 : decode cL_law 390 = .ok (.iload_n 3, 1) := by decide +kernel
theorem dL_law_391 : decode cL_law 391 = .ok (.iconst 1, 1) := by decide +kernel
theorem dL_law_392 : decode cL_law 392 = .ok (.iadd, 1) := by decide +kernel
theorem dL_law_393 : decode cL_law 393 = .ok (.iaload, 1) := by decide +kernel
theorem dL_law_394 : decode cL_law 394 = .ok (.invokevirtual 56, 3) := by decide +kernel
theorem dL_law_397 : decode cL_law 397 = .ok (.aload_n 2, 1) := by decide +kernel
theorem dL_law_398 : decode cL_law 398 = .ok (.aload_n 0, 1) := by decide +kernel
theorem dL_law_399 : decode cL_law 399 = .ok (.iload_n 3, 1) := by decide +kernel
theorem dL_law_400 : decode cL_law 400 = .ok (.iconst 1, 1) := by decide +kernel
theorem dL_law_401 : decode cL_law 401 = .ok (.iadd, 1) := by decide +kernel
theorem dL_law_402 : decode cL_law 402 = .ok (.iaload, 1) := by decide +kernel
theorem dL_law_403 : decode cL_law 403 = .ok (.invokevirtual 59, 3) := by decide +kernel
theorem dL_law_406 : decode cL_law 406 = .ok (.if_icmp .eq 328, 3) := by decide +kernel
theorem dL_law_409 : decode cL_law 409 = .ok (.iconst 0, 1) := by decide +kernel
theorem dL_law_410 : decode cL_law 410 = .ok (.ireturn, 1) := by decide +kernel
theorem dL_law_411 : decode cL_law 411 = .ok (.aload_n 1, 1) := by decide +kernel
theorem dL_law_412 : decode cL_law 412 = .ok (.invokevirtual 60, 3) := by decide +kernel
theorem dL_law_415 : decode cL_law 415 = .ok (.aload_n 2, 1) := by decide +kernel
theorem dL_law_416 : decode cL_law 416 = .ok (.invokevirtual 63, 3) := by decide +kernel
theorem dL_law_419 : decode cL_law 419 = .ok (.if_icmp .eq 315, 3) := by decide +kernel
theorem dL_law_422 : decode cL_law 422 = .ok (.iconst 0, 1) := by decide +kernel
theorem dL_law_423 : decode cL_law 423 = .ok (.ireturn, 1) := by decide +kernel
theorem dL_law_424 : decode cL_law 424 = .ok (.aload_n 1, 1) := by decide +kernel
theorem dL_law_425 : decode cL_law 425 = .ok (.aload_n 0, 1) := by decide +kernel
theorem dL_law_426 : decode cL_law 426 = .ok (.iload_n 3, 1) := by decide +kernel
theorem dL_law_427 : decode cL_law 427 = .ok (.iconst 1, 1) := by decide +kernel
theorem dL_law_428 : decode cL_law 428 = .ok (.iadd, 1) := by decide +kernel
theorem dL_law_429 : decode cL_law 429 = .ok (.iaload, 1) := by decide +kernel
theorem dL_law_430 : decode cL_law 430 = .ok (.aload_n 0, 1) := by decide +kernel
theorem dL_law_431 : decode cL_law 431 = .ok (.iload_n 3, 1) := by decide +kernel
theorem dL_law_432 : decode cL_law 432 = .ok (.iconst 2, 1) := by decide +kernel
theorem dL_law_433 : decode cL_law 433 = .ok (.iadd, 1) := by decide +kernel
theorem dL_law_434 : decode cL_law 434 = .ok (.iaload, 1) := by decide +kernel
theorem dL_law_435 : decode cL_law 435 = .ok (.aload_n 0, 1) := by decide +kernel
theorem dL_law_436 : decode cL_law 436 = .ok (.iload_n 3, 1) := by decide +kernel
theorem dL_law_437 : decode cL_law 437 = .ok (.iconst 3, 1) := by decide +kernel
theorem dL_law_438 : decode cL_law 438 = .ok (.iadd, 1) := by decide +kernel
theorem dL_law_439 : decode cL_law 439 = .ok (.iaload, 1) := by decide +kernel
theorem dL_law_440 : decode cL_law 440 = .ok (.invokevirtual 64, 3) := by decide +kernel
theorem dL_law_443 : decode cL_law 443 = .ok (.aload_n 2, 1) := by decide +kernel
theorem dL_law_444 : decode cL_law 444 = .ok (.aload_n 0, 1) := by decide +kernel
theorem dL_law_445 : decode cL_law 445 = .ok (.iload_n 3, 1) := by decide +kernel
theorem dL_law_446 : decode cL_law 446 = .ok (.iconst 1, 1) := by decide +kernel
theorem dL_law_447 : decode cL_law 447 = .ok (.iadd, 1) := by decide +kernel
theorem dL_law_448 : decode cL_law 448 = .ok (.iaload, 1) := by decide +kernel
theorem dL_law_449 : decode cL_law 449 = .ok (.aload_n 0, 1) := by decide +kernel
theorem dL_law_450 : decode cL_law 450 = .ok (.iload_n 3, 1) := by decide +kernel
theorem dL_law_451 : decode cL_law 451 = .ok (.iconst 2, 1) := by decide +kernel
theorem dL_law_452 : decode cL_law 452 = .ok (.iadd, 1) := by decide +kernel
theorem dL_law_453 : decode cL_law 453 = .ok (.iaload, 1) := by decide +kernel
theorem dL_law_454 : decode cL_law 454 = .ok (.aload_n 0, 1) := by decide +kernel
theorem dL_law_455 : decode cL_law 455 = .ok (.iload_n 3, 1) := by decide +kernel
theorem dL_law_456 : decode cL_law 456 = .ok (.iconst 3, 1) := by decide +kernel
theorem dL_law_457 : decode cL_law 457 = .ok (.iadd, 1) := by decide +kernel
theorem dL_law_458 : decode cL_law 458 = .ok (.iaload, 1) := by decide +kernel
theorem dL_law_459 : decode cL_law 459 = .ok (.invokevirtual 68, 3) := by decide +kernel
theorem dL_law_462 : decode cL_law 462 = .ok (.if_icmp .eq 272, 3) := by decide +kernel
theorem dL_law_465 : decode cL_law 465 = .ok (.iconst 0, 1) := by decide +kernel
theorem dL_law_466 : decode cL_law 466 = .ok (.ireturn, 1) := by decide +kernel
theorem dL_law_467 : decode cL_law 467 = .ok (.aload_n 1, 1) := by decide +kernel
theorem dL_law_468 : decode cL_law 468 = .ok (.aload_n 0, 1) := by decide +kernel
theorem dL_law_469 : decode cL_law 469 = .ok (.iload_n 3, 1) := by decide +kernel
theorem dL_law_470 : decode cL_law 470 = .ok (.iconst 1, 1) := by decide +kernel
theorem dL_law_471 : decode cL_law 471 = .ok (.iadd, 1) := by decide +kernel
theorem dL_law_472 : decode cL_law 472 = .ok (.iaload, 1) := by decide +kernel
theorem dL_law_473 : decode cL_law 473 = .ok (.aload_n 0, 1) := by decide +kernel
theorem dL_law_474 : decode cL_law 474 = .ok (.iload_n 3, 1) := by decide +kernel
theorem dL_law_475 : decode cL_law 475 = .ok (.iconst 2, 1) := by decide +kernel
theorem dL_law_476 : decode cL_law 476 = .ok (.iadd, 1) := by decide +kernel
theorem dL_law_477 : decode cL_law 477 = .ok (.iaload, 1) := by decide +kernel
theorem dL_law_478 : decode cL_law 478 = .ok (.invokevirtual 69, 3) := by decide +kernel
theorem dL_law_481 : decode cL_law 481 = .ok (.aload_n 2, 1) := by decide +kernel
theorem dL_law_482 : decode cL_law 482 = .ok (.aload_n 0, 1) := by decide +kernel
theorem dL_law_483 : decode cL_law 483 = .ok (.iload_n 3, 1) := by decide +kernel
theorem dL_law_484 : decode cL_law 484 = .ok (.iconst 1, 1) := by decide +kernel
theorem dL_law_485 : decode cL_law 485 = .ok (.iadd, 1) := by decide +kernel
theorem dL_law_486 : decode cL_law 486 = .ok (.iaload, 1) := by decide +kernel
theorem dL_law_487 : decode cL_law 487 = .ok (.aload_n 0, 1) := by decide +kernel
theorem dL_law_488 : decode cL_law 488 = .ok (.iload_n 3, 1) := by decide +kernel
theorem dL_law_489 : decode cL_law 489 = .ok (.iconst 2, 1) := by decide +kernel
theorem dL_law_490 : decode cL_law 490 = .ok (.iadd, 1) := by decide +kernel
theorem dL_law_491 : decode cL_law 491 = .ok (.iaload, 1) := by decide +kernel
theorem dL_law_492 : decode cL_law 492 = .ok (.invokevirtual 72, 3) := by decide +kernel
theorem dL_law_495 : decode cL_law 495 = .ok (.if_icmp .eq 239, 3) := by decide +kernel
theorem dL_law_498 : decode cL_law 498 = .ok (.iconst 0, 1) := by decide +kernel
theorem dL_law_499 : decode cL_law 499 = .ok (.ireturn, 1) := by decide +kernel
theorem dL_law_500 : decode cL_law 500 = .ok (.aload_n 1, 1) := by decide +kernel
theorem dL_law_501 : decode cL_law 501 = .ok (.aload_n 0, 1) := by decide +kernel
theorem dL_law_502 : decode cL_law 502 = .ok (.iload_n 3, 1) := by decide +kernel
theorem dL_law_503 : decode cL_law 503 = .ok (.iconst 1, 1) := by decide +kernel
theorem dL_law_504 : decode cL_law 504 = .ok (.iadd, 1) := by decide +kernel
theorem dL_law_505 : decode cL_law 505 = .ok (.iaload, 1) := by decide +kernel
theorem dL_law_506 : decode cL_law 506 = .ok (.invokevirtual 73, 3) := by decide +kernel
theorem dL_law_509 : decode cL_law 509 = .ok (.aload_n 2, 1) := by decide +kernel
theorem dL_law_510 : decode cL_law 510 = .ok (.aload_n 0, 1) := by decide +kernel
theorem dL_law_511 : decode cL_law 511 = .ok (.iload_n 3, 1) := by decide +kernel
theorem dL_law_512 : decode cL_law 512 = .ok (.iconst 1, 1) := by decide +kernel
theorem dL_law_513 : decode cL_law 513 = .ok (.iadd, 1) := by decide +kernel
theorem dL_law_514 : decode cL_law 514 = .ok (.iaload, 1) := by decide +kernel
theorem dL_law_515 : decode cL_law 515 = .ok (.invokevirtual 76, 3) := by decide +kernel
theorem dL_law_518 : decode cL_law 518 = .ok (.if_icmp .eq 216, 3) := by decide +kernel
theorem dL_law_521 : decode cL_law 521 = .ok (.iconst 0, 1) := by decide +kernel
theorem dL_law_522 : decode cL_law 522 = .ok (.ireturn, 1) := by decide +kernel
theorem dL_law_523 : decode cL_law 523 = .ok (.aload_n 1, 1) := by decide +kernel
theorem dL_law_524 : decode cL_law 524 = .ok (.aload_n 0, 1) := by decide +kernel
theorem dL_law_525 : decode cL_law 525 = .ok (.iload_n 3, 1) := by decide +kernel
theorem dL_law_526 : decode cL_law 526 = .ok (.iconst 1, 1) := by decide +kernel
theorem dL_law_527 : decode cL_law 527 = .ok (.iadd, 1) := by decide +kernel
theorem dL_law_528 : decode cL_law 528 = .ok (.iaload, 1) := by decide +kernel
theorem dL_law_529 : decode cL_law 529 = .ok (.invokevirtual 77, 3) := by decide +kernel
theorem dL_law_532 : decode cL_law 532 = .ok (.aload_n 2, 1) := by decide +kernel
theorem dL_law_533 : decode cL_law 533 = .ok (.aload_n 0, 1) := by decide +kernel
theorem dL_law_534 : decode cL_law 534 = .ok (.iload_n 3, 1) := by decide +kernel
theorem dL_law_535 : decode cL_law 535 = .ok (.iconst 1, 1) := by decide +kernel
theorem dL_law_536 : decode cL_law 536 = .ok (.iadd, 1) := by decide +kernel
theorem dL_law_537 : decode cL_law 537 = .ok (.iaload, 1) := by decide +kernel
theorem dL_law_538 : decode cL_law 538 = .ok (.invokevirtual 80, 3) := by decide +kernel
theorem dL_law_541 : decode cL_law 541 = .ok (.if_icmp .eq 193, 3) := by decide +kernel
theorem dL_law_544 : decode cL_law 544 = .ok (.iconst 0, 1) := by decide +kernel
theorem dL_law_545 : decode cL_law 545 = .ok (.ireturn, 1) := by decide +kernel
theorem dL_law_546 : decode cL_law 546 = .ok (.aload_n 1, 1) := by decide +kernel
theorem dL_law_547 : decode cL_law 547 = .ok (.invokevirtual 81, 3) := by decide +kernel
theorem dL_law_550 : decode cL_law 550 = .ok (.aload_n 2, 1) := by decide +kernel
theorem dL_law_551 : decode cL_law 551 = .ok (.invokevirtual 84, 3) := by decide +kernel
theorem dL_law_554 : decode cL_law 554 = .ok (.if_icmp .eq 180, 3) := by decide +kernel
theorem dL_law_557 : decode cL_law 557 = .ok (.iconst 0, 1) := by decide +kernel
theorem dL_law_558 : decode cL_law 558 = .ok (.ireturn, 1) := by decide +kernel
theorem dL_law_559 : decode cL_law 559 = .ok (.aload_n 1, 1) := by decide +kernel
theorem dL_law_560 : decode cL_law 560 = .ok (.invokevirtual 85, 3) := by decide +kernel
theorem dL_law_563 : decode cL_law 563 = .ok (.aload_n 2, 1) := by decide +kernel
theorem dL_law_564 : decode cL_law 564 = .ok (.invokevirtual 88, 3) := by decide +kernel
theorem dL_law_567 : decode cL_law 567 = .ok (.if_icmp .eq 167, 3) := by decide +kernel
theorem dL_law_570 : decode cL_law 570 = .ok (.iconst 0, 1) := by decide +kernel
theorem dL_law_571 : decode cL_law 571 = .ok (.ireturn, 1) := by decide +kernel
theorem dL_law_572 : decode cL_law 572 = .ok (.aload_n 1, 1) := by decide +kernel
theorem dL_law_573 : decode cL_law 573 = .ok (.aload_n 0, 1) := by decide +kernel
theorem dL_law_574 : decode cL_law 574 = .ok (.iload_n 3, 1) := by decide +kernel
theorem dL_law_575 : decode cL_law 575 = .ok (.iconst 1, 1) := by decide +kernel
theorem dL_law_576 : decode cL_law 576 = .ok (.iadd, 1) := by decide +kernel
theorem dL_law_577 : decode cL_law 577 = .ok (.iaload, 1) := by decide +kernel
theorem dL_law_578 : decode cL_law 578 = .ok (.aload_n 0, 1) := by decide +kernel
theorem dL_law_579 : decode cL_law 579 = .ok (.iload_n 3, 1) := by decide +kernel
theorem dL_law_580 : decode cL_law 580 = .ok (.iconst 2, 1) := by decide +kernel
theorem dL_law_581 : decode cL_law 581 = .ok (.iadd, 1) := by decide +kernel
theorem dL_law_582 : decode cL_law 582 = .ok (.iaload, 1) := by decide +kernel
theorem dL_law_583 : decode cL_law 583 = .ok (.aload_n 0, 1) := by decide +kernel
theorem dL_law_584 : decode cL_law 584 = .ok (.iload_n 3, 1) := by decide +kernel
theorem dL_law_585 : decode cL_law 585 = .ok (.iconst 3, 1) := by decide +kernel
theorem dL_law_586 : decode cL_law 586 = .ok (.iadd, 1) := by decide +kernel
theorem dL_law_587 : decode cL_law 587 = .ok (.iaload, 1) := by decide +kernel
theorem dL_law_588 : decode cL_law 588 = .ok (.invokevirtual 89, 3) := by decide +kernel
theorem dL_law_591 : decode cL_law 591 = .ok (.aload_n 2, 1) := by decide +kernel
theorem dL_law_592 : decode cL_law 592 = .ok (.aload_n 0, 1) := by decide +kernel
theorem dL_law_593 : decode cL_law 593 = .ok (.iload_n 3, 1) := by decide +kernel
theorem dL_law_594 : decode cL_law 594 = .ok (.iconst 1, 1) := by decide +kernel
theorem dL_law_595 : decode cL_law 595 = .ok (.iadd, 1) := by decide +kernel
theorem dL_law_596 : decode cL_law 596 = .ok (.iaload, 1) := by decide +kernel
theorem dL_law_597 : decode cL_law 597 = .ok (.aload_n 0, 1) := by decide +kernel
theorem dL_law_598 : decode cL_law 598 = .ok (.iload_n 3, 1) := by decide +kernel
theorem dL_law_599 : decode cL_law 599 = .ok (.iconst 2, 1) := by decide +kernel
theorem dL_law_600 : decode cL_law 600 = .ok (.iadd, 1) := by decide +kernel
theorem dL_law_601 : decode cL_law 601 = .ok (.iaload, 1) := by decide +kernel
theorem dL_law_602 : decode cL_law 602 = .ok (.aload_n 0, 1) := by decide +kernel
theorem dL_law_603 : decode cL_law 603 = .ok (.iload_n 3, 1) := by decide +kernel
theorem dL_law_604 : decode cL_law 604 = .ok (.iconst 3, 1) := by decide +kernel
theorem dL_law_605 : decode cL_law 605 = .ok (.iadd, 1) := by decide +kernel
theorem dL_law_606 : decode cL_law 606 = .ok (.iaload, 1) := by decide +kernel
theorem dL_law_607 : decode cL_law 607 = .ok (.invokevirtual 92, 3) := by decide +kernel
theorem dL_law_610 : decode cL_law 610 = .ok (.if_icmp .eq 124, 3) := by decide +kernel
theorem dL_law_613 : decode cL_law 613 = .ok (.iconst 0, 1) := by decide +kernel
theorem dL_law_614 : decode cL_law 614 = .ok (.ireturn, 1) := by decide +kernel
theorem dL_law_615 : decode cL_law 615 = .ok (.aload_n 1, 1) := by decide +kernel
theorem dL_law_616 : decode cL_law 616 = .ok (.invokevirtual 93, 3) := by decide +kernel
theorem dL_law_619 : decode cL_law 619 = .ok (.aload_n 2, 1) := by decide +kernel
theorem dL_law_620 : decode cL_law 620 = .ok (.invokevirtual 96, 3) := by decide +kernel
theorem dL_law_623 : decode cL_law 623 = .ok (.if_icmp .eq 111, 3) := by decide +kernel
theorem dL_law_626 : decode cL_law 626 = .ok (.iconst 0, 1) := by decide +kernel
theorem dL_law_627 : decode cL_law 627 = .ok (.ireturn, 1) := by decide +kernel
theorem dL_law_628 : decode cL_law 628 = .ok (.aload_n 1, 1) := by decide +kernel
theorem dL_law_629 : decode cL_law 629 = .ok (.aload_n 0, 1) := by decide +kernel
theorem dL_law_630 : decode cL_law 630 = .ok (.iload_n 3, 1) := by decide +kernel
theorem dL_law_631 : decode cL_law 631 = .ok (.iconst 1, 1) := by decide +kernel
theorem dL_law_632 : decode cL_law 632 = .ok (.iadd, 1) := by decide +kernel
theorem dL_law_633 : decode cL_law 633 = .ok (.iaload, 1) := by decide +kernel
theorem dL_law_634 : decode cL_law 634 = .ok (.aload_n 0, 1) := by decide +kernel
theorem dL_law_635 : decode cL_law 635 = .ok (.iload_n 3, 1) := by decide +kernel
theorem dL_law_636 : decode cL_law 636 = .ok (.iconst 2, 1) := by decide +kernel
theorem dL_law_637 : decode cL_law 637 = .ok (.iadd, 1) := by decide +kernel
theorem dL_law_638 : decode cL_law 638 = .ok (.iaload, 1) := by decide +kernel
theorem dL_law_639 : decode cL_law 639 = .ok (.aload_n 0, 1) := by decide +kernel
theorem dL_law_640 : decode cL_law 640 = .ok (.iload_n 3, 1) := by decide +kernel
theorem dL_law_641 : decode cL_law 641 = .ok (.iconst 3, 1) := by decide +kernel
theorem dL_law_642 : decode cL_law 642 = .ok (.iadd, 1) := by decide +kernel
theorem dL_law_643 : decode cL_law 643 = .ok (.iaload, 1) := by decide +kernel
theorem dL_law_644 : decode cL_law 644 = .ok (.invokevirtual 97, 3) := by decide +kernel
theorem dL_law_647 : decode cL_law 647 = .ok (.aload_n 2, 1) := by decide +kernel
theorem dL_law_648 : decode cL_law 648 = .ok (.aload_n 0, 1) := by decide +kernel
theorem dL_law_649 : decode cL_law 649 = .ok (.iload_n 3, 1) := by decide +kernel
theorem dL_law_650 : decode cL_law 650 = .ok (.iconst 1, 1) := by decide +kernel
theorem dL_law_651 : decode cL_law 651 = .ok (.iadd, 1) := by decide +kernel
theorem dL_law_652 : decode cL_law 652 = .ok (.iaload, 1) := by decide +kernel
theorem dL_law_653 : decode cL_law 653 = .ok (.aload_n 0, 1) := by decide +kernel
theorem dL_law_654 : decode cL_law 654 = .ok (.iload_n 3, 1) := by decide +kernel
theorem dL_law_655 : decode cL_law 655 = .ok (.iconst 2, 1) := by decide +kernel
theorem dL_law_656 : decode cL_law 656 = .ok (.iadd, 1) := by decide +kernel
theorem dL_law_657 : decode cL_law 657 = .ok (.iaload, 1) := by decide +kernel
theorem dL_law_658 : decode cL_law 658 = .ok (.aload_n 0, 1) := by decide +kernel
theorem dL_law_659 : decode cL_law 659 = .ok (.iload_n 3, 1) := by decide +kernel
theorem dL_law_660 : decode cL_law 660 = .ok (.iconst 3, 1) := by decide +kernel
theorem dL_law_661 : decode cL_law 661 = .ok (.iadd, 1) := by decide +kernel
theorem dL_law_662 : decode cL_law 662 = .ok (.iaload, 1) := by decide +kernel
theorem dL_law_663 : decode cL_law 663 = .ok (.invokevirtual 100, 3) := by decide +kernel
theorem dL_law_666 : decode cL_law 666 = .ok (.if_icmp .eq 68, 3) := by decide +kernel
theorem dL_law_669 : decode cL_law 669 = .ok (.iconst 0, 1) := by decide +kernel
theorem dL_law_670 : decode cL_law 670 = .ok (.ireturn, 1) := by decide +kernel
theorem dL_law_671 : decode cL_law 671 = .ok (.aload_n 1, 1) := by decide +kernel
theorem dL_law_672 : decode cL_law 672 = .ok (.invokevirtual 101, 3) := by decide +kernel
theorem dL_law_675 : decode cL_law 675 = .ok (.aload_n 2, 1) := by decide +kernel
theorem dL_law_676 : decode cL_law 676 = .ok (.invokevirtual 104, 3) := by decide +kernel
theorem dL_law_679 : decode cL_law 679 = .ok (.if_icmp .eq 55, 3) := by decide +kernel
theorem dL_law_682 : decode cL_law 682 = .ok (.iconst 0, 1) := by decide +kernel
theorem dL_law_683 : decode cL_law 683 = .ok (.ireturn, 1) := by decide +kernel
theorem dL_law_684 : decode cL_law 684 = .ok (.aload_n 1, 1) := by decide +kernel
theorem dL_law_685 : decode cL_law 685 = .ok (.invokevirtual 105, 3) := by decide +kernel
theorem dL_law_688 : decode cL_law 688 = .ok (.aload_n 2, 1) := by decide +kernel
theorem dL_law_689 : decode cL_law 689 = .ok (.invokevirtual 108, 3) := by decide +kernel
theorem dL_law_692 : decode cL_law 692 = .ok (.if_icmp .eq 42, 3) := by decide +kernel
theorem dL_law_695 : decode cL_law 695 = .ok (.iconst 0, 1) := by decide +kernel
theorem dL_law_696 : decode cL_law 696 = .ok (.ireturn, 1) := by decide +kernel
theorem dL_law_697 : decode cL_law 697 = .ok (.aload_n 1, 1) := by decide +kernel
theorem dL_law_698 : decode cL_law 698 = .ok (.aload_n 0, 1) := by decide +kernel
theorem dL_law_699 : decode cL_law 699 = .ok (.iload_n 3, 1) := by decide +kernel
theorem dL_law_700 : decode cL_law 700 = .ok (.iconst 1, 1) := by decide +kernel
theorem dL_law_701 : decode cL_law 701 = .ok (.iadd, 1) := by decide +kernel
theorem dL_law_702 : decode cL_law 702 = .ok (.iaload, 1) := by decide +kernel
theorem dL_law_703 : decode cL_law 703 = .ok (.invokevirtual 109, 3) := by decide +kernel
theorem dL_law_706 : decode cL_law 706 = .ok (.aload_n 2, 1) := by decide +kernel
theorem dL_law_707 : decode cL_law 707 = .ok (.aload_n 0, 1) := by decide +kernel
theorem dL_law_708 : decode cL_law 708 = .ok (.iload_n 3, 1) := by decide +kernel
theorem dL_law_709 : decode cL_law 709 = .ok (.iconst 1, 1) := by decide +kernel
theorem dL_law_710 : decode cL_law 710 = .ok (.iadd, 1) := by decide +kernel
theorem dL_law_711 : decode cL_law 711 = .ok (.iaload, 1) := by decide +kernel
theorem dL_law_712 : decode cL_law 712 = .ok (.invokevirtual 112, 3) := by decide +kernel
theorem dL_law_715 : decode cL_law 715 = .ok (.if_icmp .eq 19, 3) := by decide +kernel
theorem dL_law_718 : decode cL_law 718 = .ok (.iconst 0, 1) := by decide +kernel
theorem dL_law_719 : decode cL_law 719 = .ok (.ireturn, 1) := by decide +kernel
theorem dL_law_720 : decode cL_law 720 = .ok (.aload_n 1, 1) := by decide +kernel
theorem dL_law_721 : decode cL_law 721 = .ok (.invokevirtual 113, 3) := by decide +kernel
theorem dL_law_724 : decode cL_law 724 = .ok (.aload_n 2, 1) := by decide +kernel
theorem dL_law_725 : decode cL_law 725 = .ok (.invokevirtual 117, 3) := by decide +kernel
theorem dL_law_728 : decode cL_law 728 = .ok (.lcmp, 1) := by decide +kernel
theorem dL_law_729 : decode cL_law 729 = .ok (.ifCond .eq 5, 3) := by decide +kernel
theorem dL_law_732 : decode cL_law 732 = .ok (.iconst 0, 1) := by decide +kernel
theorem dL_law_733 : decode cL_law 733 = .ok (.ireturn, 1) := by decide +kernel
theorem dL_law_734 : decode cL_law 734 = .ok (.iinc 3 4, 3) := by decide +kernel
theorem dL_law_737 : decode cL_law 737 = .ok (.goto (-719), 3) := by decide +kernel
theorem dL_law_740 : decode cL_law 740 = .ok (.iconst 1, 1) := by decide +kernel
theorem dL_law_741 : decode cL_law 741 = .ok (.ireturn, 1) := by decide +kernel
