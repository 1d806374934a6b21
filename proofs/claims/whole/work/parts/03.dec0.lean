theorem dX0_init_0 : decode cX0_init 0 = .ok (.aload_n 0, 1) := by decide +kernel
theorem dX0_init_1 : decode cX0_init 1 = .ok (.invokespecial 3, 3) := by decide +kernel
theorem dX0_init_4 : decode cX0_init 4 = .ok (.aload_n 0, 1) := by decide +kernel
theorem dX0_init_5 : decode cX0_init 5 = .ok (.new 9, 3) := by decide +kernel
theorem dX0_init_8 : decode cX0_init 8 = .ok (.dup, 1) := by decide +kernel
theorem dX0_init_9 : decode cX0_init 9 = .ok (.invokespecial 11, 3) := by decide +kernel
theorem dX0_init_12 : decode cX0_init 12 = .ok (.putfield 12, 3) := by decide +kernel
theorem dX0_init_15 : decode cX0_init 15 = .ok (.aload_n 0, 1) := by decide +kernel
theorem dX0_init_16 : decode cX0_init 16 = .ok (.new 9, 3) := by decide +kernel
theorem dX0_init_19 : decode cX0_init 19 = .ok (.dup, 1) := by decide +kernel
theorem dX0_init_20 : decode cX0_init 20 = .ok (.invokespecial 11, 3) := by decide +kernel
theorem dX0_init_23 : decode cX0_init 23 = .ok (.putfield 18, 3) := by decide +kernel
theorem dX0_init_26 : decode cX0_init 26 = .ok (.aload_n 0, 1) := by decide +kernel
theorem dX0_init_27 : decode cX0_init 27 = .ok (.new 9, 3) := by decide +kernel
theorem dX0_init_30 : decode cX0_init 30 = .ok (.dup, 1) := by decide +kernel
theorem dX0_init_31 : decode cX0_init 31 = .ok (.invokespecial 11, 3) := by decide +kernel
theorem dX0_init_34 : decode cX0_init 34 = .ok (.putfield 21, 3) := by decide +kernel
theorem dX0_init_37 : decode cX0_init 37 = .ok (.aload_n 0, 1) := by decide +kernel
theorem dX0_init_38 : decode cX0_init 38 = .ok (.new 24, 3) := by decide +kernel
theorem dX0_init_41 : decode cX0_init 41 = .ok (.dup, 1) := by decide +kernel
theorem dX0_init_42 : decode cX0_init 42 = .ok (.invokespecial 26, 3) := by decide +kernel
theorem dX0_init_45 : decode cX0_init 45 = .ok (.putfield 27, 3) := by decide +kernel
theorem dX0_init_48 : decode cX0_init 48 = .ok (.aload_n 0, 1) := by decide +kernel
theorem dX0_init_49 : decode cX0_init 49 = .ok (.new 31, 3) := by decide +kernel
theorem dX0_init_52 : decode cX0_init 52 = .ok (.dup, 1) := by decide +kernel
theorem dX0_init_53 : decode cX0_init 53 = .ok (.invokespecial 33, 3) := by decide +kernel
theorem dX0_init_56 : decode cX0_init 56 = .ok (.putfield 34, 3) := by decide +kernel
theorem dX0_init_59 : decode cX0_init 59 = .ok (.return_, 1) := by decide +kernel
theorem dX0_forget_0 : decode cX0_forget 0 = .ok (.aload_n 0, 1) := by decide +kernel
theorem dX0_forget_1 : decode cX0_forget 1 = .ok (.iconst 0, 1) := by decide +kernel
theorem dX0_forget_2 : decode cX0_forget 2 = .ok (.putfield 38, 3) := by decide +kernel
theorem dX0_forget_5 : decode cX0_forget 5 = .ok (.aload_n 0, 1) := by decide +kernel
theorem dX0_forget_6 : decode cX0_forget 6 = .ok (.iconst 0, 1) := by decide +kernel
theorem dX0_forget_7 : decode cX0_forget 7 = .ok (.putfield 42, 3) := by decide +kernel
theorem dX0_forget_10 : decode cX0_forget 10 = .ok (.return_, 1) := by decide +kernel
theorem dX0_keysOf_0 : decode cX0_keysOf 0 = .ok (.iload_n 1, 1) := by decide +kernel
theorem dX0_keysOf_1 : decode cX0_keysOf 1 = .ok (.ifCond .ne 10, 3) := by decide +kernel
theorem dX0_keysOf_4 : decode cX0_keysOf 4 = .ok (.aload_n 0, 1) := by decide +kernel
theorem dX0_keysOf_5 : decode cX0_keysOf 5 = .ok (.getfield 18, 3) := by decide +kernel
theorem dX0_keysOf_8 : decode cX0_keysOf 8 = .ok (.goto 7, 3) := by decide +kernel
theorem dX0_keysOf_11 : decode cX0_keysOf 11 = .ok (.aload_n 0, 1) := by decide +kernel
theorem dX0_keysOf_12 : decode cX0_keysOf 12 = .ok (.getfield 21, 3) := by decide +kernel
theorem dX0_keysOf_15 : decode cX0_keysOf 15 = .ok (.areturn, 1) := by decide +kernel
theorem dX0_refresh_0 : decode cX0_refresh 0 = .ok (.aload_n 0, 1) := by decide +kernel
theorem dX0_refresh_1 : decode cX0_refresh 1 = .ok (.getfield 38, 3) := by decide +kernel
theorem dX0_refresh_4 : decode cX0_refresh 4 = .ok (.ifCond .eq 4, 3) := by decide +kernel
theorem dX0_refresh_7 : decode cX0_refresh 7 = .ok (.return_, 1) := by decide +kernel
theorem dX0_refresh_8 : decode cX0_refresh 8 = .ok (.aload_n 0, 1) := by decide +kernel
theorem dX0_refresh_9 : decode cX0_refresh 9 = .ok (.iconst 1, 1) := by decide +kernel
theorem dX0_refresh_10 : decode cX0_refresh 10 = .ok (.putfield 38, 3) := by decide +kernel
theorem dX0_refresh_13 : decode cX0_refresh 13 = .ok (.aload_n 0, 1) := by decide +kernel
theorem dX0_refresh_14 : decode cX0_refresh 14 = .ok (.aload_n 1, 1) := by decide +kernel
theorem dX0_refresh_15 : decode cX0_refresh 15 = .ok (.invokevirtual 45, 3) := by decide +kernel
theorem dX0_refresh_18 : decode cX0_refresh 18 = .ok (.aload_n 0, 1) := by decide +kernel
theorem dX0_refresh_19 : decode cX0_refresh 19 = .ok (.aload_n 1, 1) := by decide +kernel
theorem dX0_refresh_20 : decode cX0_refresh 20 = .ok (.invokevirtual 49, 3) := by decide +kernel
theorem dX0_refresh_23 : decode cX0_refresh 23 = .ok (.return_, 1) := by decide +kernel
theorem dX0_findShape_0 : decode cX0_findShape 0 = .ok (.aload_n 0, 1) := by decide +kernel
theorem dX0_findShape_1 : decode cX0_findShape 1 = .ok (.getfield 12, 3) := by decide +kernel
theorem dX0_findShape_4 : decode cX0_findShape 4 = .ok (.invokevirtual 52, 3) := by decide +kernel
theorem dX0_findShape_7 : decode cX0_findShape 7 = .ok (.aload_n 1, 1) := by decide +kernel
theorem dX0_findShape_8 : decode cX0_findShape 8 = .ok (.iconst 0, 1) := by decide +kernel
theorem dX0_findShape_9 : decode cX0_findShape 9 = .ok (.invokevirtual 55, 3) := by decide +kernel
theorem dX0_findShape_12 : decode cX0_findShape 12 = .ok (.istore_n 2, 1) := by decide +kernel
theorem dX0_findShape_13 : decode cX0_findShape 13 = .ok (.iconst 0, 1) := by decide +kernel
theorem dX0_findShape_14 : decode cX0_findShape 14 = .ok (.istore_n 3, 1) := by decide +kernel
theorem dX0_findShape_15 : decode cX0_findShape 15 = .ok (.iload_n 3, 1) := by decide +kernel
theorem dX0_findShape_16 : decode cX0_findShape 16 = .ok (.iload_n 2, 1) := by decide +kernel
theorem dX0_findShape_17 : decode cX0_findShape 17 = .ok (.if_icmp .ge 50, 3) := by decide +kernel
theorem dX0_findShape_20 : decode cX0_findShape 20 = .ok (.aload_n 1, 1) := by decide +kernel
theorem dX0_findShape_21 : decode cX0_findShape 21 = .ok (.getfield 61, 3) := by decide +kernel
theorem dX0_findShape_24 : decode cX0_findShape 24 = .ok (.aload_n 1, 1) := by decide +kernel
theorem dX0_findShape_25 : decode cX0_findShape 25 = .ok (.getfield 65, 3) := by decide +kernel
theorem dX0_findShape_28 : decode cX0_findShape 28 = .ok (.iload_n 3, 1) := by decide +kernel
theorem dX0_findShape_29 : decode cX0_findShape 29 = .ok (.invokestatic 68, 3) := by decide +kernel
theorem dX0_findShape_32 : decode cX0_findShape 32 = .ok (.istore 4, 2) := by decide +kernel
theorem dX0_findShape_34 : decode cX0_findShape 34 = .ok (.aload_n 1, 1) := by decide +kernel
theorem dX0_findShape_35 : decode cX0_findShape 35 = .ok (.iload 4, 2) := by decide +kernel
theorem dX0_findShape_37 : decode cX0_findShape 37 = .ok (.iconst 0, 1) := by decide +kernel
theorem dX0_findShape_38 : decode cX0_findShape 38 = .ok (.invokestatic 74, 3) := by decide +kernel
theorem dX0_findShape_41 : decode cX0_findShape 41 = .ok (.iload 4, 2) := by decide +kernel
theorem dX0_findShape_43 : decode cX0_findShape 43 = .ok (.iconst 1, 1) := by decide +kernel
theorem dX0_findShape_44 : decode cX0_findShape 44 = .ok (.invokestatic 74, 3) := by decide +kernel
theorem dX0_findShape_47 : decode cX0_findShape 47 = .ok (.invokevirtual 78, 3) := by decide +kernel
theorem dX0_findShape_50 : decode cX0_findShape 50 = .ok (.ifCond .eq 11, 3) := by decide +kernel
theorem dX0_findShape_53 : decode cX0_findShape 53 = .ok (.aload_n 0, 1) := by decide +kernel
theorem dX0_findShape_54 : decode cX0_findShape 54 = .ok (.getfield 12, 3) := by decide +kernel
theorem dX0_findShape_57 : decode cX0_findShape 57 = .ok (.iload_n 3, 1) := by decide +kernel
theorem dX0_findShape_58 : decode cX0_findShape 58 = .ok (.invokevirtual 82, 3) := by decide +kernel
theorem dX0_findShape_61 : decode cX0_findShape 61 = .ok (.iinc 3 1, 3) := by decide +kernel
theorem dX0_findShape_64 : decode cX0_findShape 64 = .ok (.goto (-49), 3) := by decide +kernel
theorem dX0_findShape_67 : decode cX0_findShape 67 = .ok (.return_, 1) := by decide +kernel
theorem dX0_findCovers_0 : decode cX0_findCovers 0 = .ok (.aload_n 0, 1) := by decide +kernel
theorem dX0_findCovers_1 : decode cX0_findCovers 1 = .ok (.getfield 18, 3) := by decide +kernel
theorem dX0_findCovers_4 : decode cX0_findCovers 4 = .ok (.invokevirtual 52, 3) := by decide +kernel
theorem dX0_findCovers_7 : decode cX0_findCovers 7 = .ok (.aload_n 0, 1) := by decide +kernel
theorem dX0_findCovers_8 : decode cX0_findCovers 8 = .ok (.getfield 21, 3) := by decide +kernel
theorem dX0_findCovers_11 : decode cX0_findCovers 11 = .ok (.invokevirtual 52, 3) := by decide +kernel
theorem dX0_findCovers_14 : decode cX0_findCovers 14 = .ok (.aload_n 1, 1) := by decide +kernel
theorem dX0_findCovers_15 : decode cX0_findCovers 15 = .ok (.aload_n 1, 1) := by decide +kernel
theorem dX0_findCovers_16 : decode cX0_findCovers 16 = .ok (.getfield 86, 3) := by decide +kernel
theorem dX0_findCovers_19 : decode cX0_findCovers 19 = .ok (.invokevirtual 55, 3) := by decide +kernel
theorem dX0_findCovers_22 : decode cX0_findCovers 22 = .ok (.istore_n 2, 1) := by decide +kernel
theorem dX0_findCovers_23 : decode cX0_findCovers 23 = .ok (.iconst 1, 1) := by decide +kernel
theorem dX0_findCovers_24 : decode cX0_findCovers 24 = .ok (.iconst 2, 1) := by decide +kernel
theorem dX0_findCovers_25 : decode cX0_findCovers 25 = .ok (.aload_n 1, 1) := by decide +kernel
theorem dX0_findCovers_26 : decode cX0_findCovers 26 = .ok (.getfield 86, 3) := by decide +kernel
theorem dX0_findCovers_29 : decode cX0_findCovers 29 = .ok (.imul, 1) := by decide +kernel
theorem dX0_findCovers_30 : decode cX0_findCovers 30 = .ok (.ishl, 1) := by decide +kernel
theorem dX0_findCovers_31 : decode cX0_findCovers 31 = .ok (.istore_n 3, 1) := by decide +kernel
theorem dX0_findCovers_32 : decode cX0_findCovers 32 = .ok (.iconst 0, 1) := by decide +kernel
theorem dX0_findCovers_33 : decode cX0_findCovers 33 = .ok (.istore 4, 2) := by decide +kernel
theorem dX0_findCovers_35 : decode cX0_findCovers 35 = .ok (.iload 4, 2) := by decide +kernel
theorem dX0_findCovers_37 : decode cX0_findCovers 37 = .ok (.iload_n 3, 1) := by decide +kernel
theorem dX0_findCovers_38 : decode cX0_findCovers 38 = .ok (.if_icmp .ge 58, 3) := by decide +kernel
theorem dX0_findCovers_41 : decode cX0_findCovers 41 = .ok (.aload_n 0, 1) := by decide +kernel
theorem dX0_findCovers_42 : decode cX0_findCovers 42 = .ok (.getfield 12, 3) := by decide +kernel
theorem dX0_findCovers_45 : decode cX0_findCovers 45 = .ok (.iload 4, 2) := by decide +kernel
theorem dX0_findCovers_47 : decode cX0_findCovers 47 = .ok (.iload_n 2, 1) := by decide +kernel
theorem dX0_findCovers_48 : decode cX0_findCovers 48 = .ok (.imul, 1) := by decide +kernel
theorem dX0_findCovers_49 : decode cX0_findCovers 49 = .ok (.iload_n 2, 1) := by decide +kernel
theorem dX0_findCovers_50 : decode cX0_findCovers 50 = .ok (.invokevirtual 89, 3) := by decide +kernel
theorem dX0_findCovers_53 : decode cX0_findCovers 53 = .ok (.istore 5, 2) := by decide +kernel
theorem dX0_findCovers_55 : decode cX0_findCovers 55 = .ok (.iload 5, 2) := by decide +kernel
theorem dX0_findCovers_57 : decode cX0_findCovers 57 = .ok (.ifCond .le 15, 3) := by decide +kernel
theorem dX0_findCovers_60 : decode cX0_findCovers 60 = .ok (.aload_n 0, 1) := by decide +kernel
theorem dX0_findCovers_61 : decode cX0_findCovers 61 = .ok (.getfield 18, 3) := by decide +kernel
theorem dX0_findCovers_64 : decode cX0_findCovers 64 = .ok (.iload 4, 2) := by decide +kernel
theorem dX0_findCovers_66 : decode cX0_findCovers 66 = .ok (.iload_n 2, 1) := by decide +kernel
theorem dX0_findCovers_67 : decode cX0_findCovers 67 = .ok (.imul, 1) := by decide +kernel
theorem dX0_findCovers_68 : decode cX0_findCovers 68 = .ok (.iload_n 2, 1) := by decide +kernel
theorem dX0_findCovers_69 : decode cX0_findCovers 69 = .ok (.invokevirtual 92, 3) := by decide +kernel
theorem dX0_findCovers_72 : decode cX0_findCovers 72 = .ok (.iload 5, 2) := by decide +kernel
theorem dX0_findCovers_74 : decode cX0_findCovers 74 = .ok (.iload_n 2, 1) := by decide +kernel
theorem dX0_findCovers_75 : decode cX0_findCovers 75 = .ok (.if_icmp .ne 15, 3) := by decide +kernel
theorem dX0_findCovers_78 : decode cX0_findCovers 78 = .ok (.aload_n 0, 1) := by decide +kernel
theorem dX0_findCovers_79 : decode cX0_findCovers 79 = .ok (.getfield 21, 3) := by decide +kernel
theorem dX0_findCovers_82 : decode cX0_findCovers 82 = .ok (.iload 4, 2) := by decide +kernel
theorem dX0_findCovers_84 : decode cX0_findCovers 84 = .ok (.iload_n 2, 1) := by decide +kernel
theorem dX0_findCovers_85 : decode cX0_findCovers 85 = .ok (.imul, 1) := by decide +kernel
theorem dX0_findCovers_86 : decode cX0_findCovers 86 = .ok (.iload_n 2, 1) := by decide +kernel
theorem dX0_findCovers_87 : decode cX0_findCovers 87 = .ok (.invokevirtual 92, 3) := by decide +kernel
theorem dX0_findCovers_90 : decode cX0_findCovers 90 = .ok (.iinc 4 1, 3) := by decide +kernel
theorem dX0_findCovers_93 : decode cX0_findCovers 93 = .ok (.goto (-58), 3) := by decide +kernel
theorem dX0_findCovers_96 : decode cX0_findCovers 96 = .ok (.return_, 1) := by decide +kernel
theorem dX0_tileOf_0 : decode cX0_tileOf 0 = .ok (.aload_n 1, 1) := by decide +kernel
theorem dX0_tileOf_1 : decode cX0_tileOf 1 = .ok (.aload_n 1, 1) := by decide +kernel
theorem dX0_tileOf_2 : decode cX0_tileOf 2 = .ok (.getfield 86, 3) := by decide +kernel
theorem dX0_tileOf_5 : decode cX0_tileOf 5 = .ok (.invokevirtual 55, 3) := by decide +kernel
theorem dX0_tileOf_8 : decode cX0_tileOf 8 = .ok (.istore 5, 2) := by decide +kernel
theorem dX0_tileOf_10 : decode cX0_tileOf 10 = .ok (.iconst 0, 1) := by decide +kernel
theorem dX0_tileOf_11 : decode cX0_tileOf 11 = .ok (.istore 6, 2) := by decide +kernel
theorem dX0_tileOf_13 : decode cX0_tileOf 13 = .ok (.iconst 0, 1) := by decide +kernel
theorem dX0_tileOf_14 : decode cX0_tileOf 14 = .ok (.istore 7, 2) := by decide +kernel
theorem dX0_tileOf_16 : decode cX0_tileOf 16 = .ok (.iconst 0, 1) := by decide +kernel
theorem dX0_tileOf_17 : decode cX0_tileOf 17 = .ok (.istore 8, 2) := by decide +kernel
theorem dX0_tileOf_19 : decode cX0_tileOf 19 = .ok (.iload 8, 2) := by decide +kernel
theorem dX0_tileOf_21 : decode cX0_tileOf 21 = .ok (.aload_n 1, 1) := by decide +kernel
theorem dX0_tileOf_22 : decode cX0_tileOf 22 = .ok (.iconst 0, 1) := by decide +kernel
theorem dX0_tileOf_23 : decode cX0_tileOf 23 = .ok (.invokevirtual 55, 3) := by decide +kernel
theorem dX0_tileOf_26 : decode cX0_tileOf 26 = .ok (.if_icmp .ge 83, 3) := by decide +kernel
theorem dX0_tileOf_29 : decode cX0_tileOf 29 = .ok (.iload 8, 2) := by decide +kernel
theorem dX0_tileOf_31 : decode cX0_tileOf 31 = .ok (.iload 7, 2) := by decide +kernel
theorem dX0_tileOf_33 : decode cX0_tileOf 33 = .ok (.if_icmp .ge 8, 3) := by decide +kernel
theorem dX0_tileOf_36 : decode cX0_tileOf 36 = .ok (.bipush (-4), 2) := by decide +kernel
theorem dX0_tileOf_38 : decode cX0_tileOf 38 = .ok (.goto 10, 3) := by decide +kernel
theorem dX0_tileOf_41 : decode cX0_tileOf 41 = .ok (.aload_n 1, 1) := by decide +kernel
theorem dX0_tileOf_42 : decode cX0_tileOf 42 = .ok (.aload_n 2, 1) := by decide +kernel
theorem dX0_tileOf_43 : decode cX0_tileOf 43 = .ok (.iload 8, 2) := by decide +kernel
theorem dX0_tileOf_45 : decode cX0_tileOf 45 = .ok (.invokestatic 96, 3) := by decide +kernel
theorem dX0_tileOf_48 : decode cX0_tileOf 48 = .ok (.istore 9, 2) := by decide +kernel
theorem dX0_tileOf_50 : decode cX0_tileOf 50 = .ok (.iload 9, 2) := by decide +kernel
theorem dX0_tileOf_52 : decode cX0_tileOf 52 = .ok (.bipush (-4), 2) := by decide +kernel
theorem dX0_tileOf_54 : decode cX0_tileOf 54 = .ok (.if_icmp .ne 6, 3) := by decide +kernel
theorem dX0_tileOf_57 : decode cX0_tileOf 57 = .ok (.goto 42, 3) := by decide +kernel
theorem dX0_tileOf_60 : decode cX0_tileOf 60 = .ok (.iload 6, 2) := by decide +kernel
theorem dX0_tileOf_62 : decode cX0_tileOf 62 = .ok (.iload_n 3, 1) := by decide +kernel
theorem dX0_tileOf_63 : decode cX0_tileOf 63 = .ok (.if_icmp .ne 22, 3) := by decide +kernel
theorem dX0_tileOf_66 : decode cX0_tileOf 66 = .ok (.iload 4, 2) := by decide +kernel
theorem dX0_tileOf_68 : decode cX0_tileOf 68 = .ok (.ifCond .ne 8, 3) := by decide +kernel
theorem dX0_tileOf_71 : decode cX0_tileOf 71 = .ok (.iload 9, 2) := by decide +kernel
theorem dX0_tileOf_73 : decode cX0_tileOf 73 = .ok (.goto 11, 3) := by decide +kernel
theorem dX0_tileOf_76 : decode cX0_tileOf 76 = .ok (.aload_n 1, 1) := by decide +kernel
theorem dX0_tileOf_77 : decode cX0_tileOf 77 = .ok (.iload 8, 2) := by decide +kernel
theorem dX0_tileOf_79 : decode cX0_tileOf 79 = .ok (.iload 9, 2) := by decide +kernel
theorem dX0_tileOf_81 : decode cX0_tileOf 81 = .ok (.invokevirtual 100, 3) := by decide +kernel
theorem dX0_tileOf_84 : decode cX0_tileOf 84 = .ok (.ireturn, 1) := by decide +kernel
theorem dX0_tileOf_85 : decode cX0_tileOf 85 = .ok (.iinc 6 1, 3) := by decide +kernel
theorem dX0_tileOf_88 : decode cX0_tileOf 88 = .ok (.iload 8, 2) := by decide +kernel
theorem dX0_tileOf_90 : decode cX0_tileOf 90 = .ok (.aload_n 1, 1) := by decide +kernel
theorem dX0_tileOf_91 : decode cX0_tileOf 91 = .ok (.iload 9, 2) := by decide +kernel
theorem dX0_tileOf_93 : decode cX0_tileOf 93 = .ok (.invokevirtual 55, 3) := by decide +kernel
theorem dX0_tileOf_96 : decode cX0_tileOf 96 = .ok (.iadd, 1) := by decide +kernel
theorem dX0_tileOf_97 : decode cX0_tileOf 97 = .ok (.istore 7, 2) := by decide +kernel
theorem dX0_tileOf_99 : decode cX0_tileOf 99 = .ok (.iload 8, 2) := by decide +kernel
theorem dX0_tileOf_101 : decode cX0_tileOf 101 = .ok (.iload 5, 2) := by decide +kernel
theorem dX0_tileOf_103 : decode cX0_tileOf 103 = .ok (.iadd, 1) := by decide +kernel
theorem dX0_tileOf_104 : decode cX0_tileOf 104 = .ok (.istore 8, 2) := by decide +kernel
theorem dX0_tileOf_106 : decode cX0_tileOf 106 = .ok (.goto (-87), 3) := by decide +kernel
theorem dX0_tileOf_109 : decode cX0_tileOf 109 = .ok (.iload_n 3, 1) := by decide +kernel
theorem dX0_tileOf_110 : decode cX0_tileOf 110 = .ok (.iconst (-1), 1) := by decide +kernel
theorem dX0_tileOf_111 : decode cX0_tileOf 111 = .ok (.if_icmp .ne 8, 3) := by decide +kernel
theorem dX0_tileOf_114 : decode cX0_tileOf 114 = .ok (.iload 6, 2) := by decide +kernel
theorem dX0_tileOf_116 : decode cX0_tileOf 116 = .ok (.goto 5, 3) := by decide +kernel
theorem dX0_tileOf_119 : decode cX0_tileOf 119 = .ok (.bipush (-4), 2) := by decide +kernel
theorem dX0_tileOf_121 : decode cX0_tileOf 121 = .ok (.ireturn, 1) := by decide +kernel
theorem dX0_widestAt_0 : decode cX0_widestAt 0 = .ok (.aload_n 0, 1) := by decide +kernel
theorem dX0_widestAt_1 : decode cX0_widestAt 1 = .ok (.getfield 103, 3) := by decide +kernel
theorem dX0_widestAt_4 : decode cX0_widestAt 4 = .ok (.istore_n 3, 1) := by decide +kernel
theorem dX0_widestAt_5 : decode cX0_widestAt 5 = .ok (.iload_n 3, 1) := by decide +kernel
theorem dX0_widestAt_6 : decode cX0_widestAt 6 = .ok (.aload_n 0, 1) := by decide +kernel
theorem dX0_widestAt_7 : decode cX0_widestAt 7 = .ok (.getfield 86, 3) := by decide +kernel
theorem dX0_widestAt_10 : decode cX0_widestAt 10 = .ok (.if_icmp .gt 51, 3) := by decide +kernel
theorem dX0_widestAt_13 : decode cX0_widestAt 13 = .ok (.aload_n 0, 1) := by decide +kernel
theorem dX0_widestAt_14 : decode cX0_widestAt 14 = .ok (.iload_n 3, 1) := by decide +kernel
theorem dX0_widestAt_15 : decode cX0_widestAt 15 = .ok (.invokevirtual 55, 3) := by decide +kernel
theorem dX0_widestAt_18 : decode cX0_widestAt 18 = .ok (.istore 4, 2) := by decide +kernel
theorem dX0_widestAt_20 : decode cX0_widestAt 20 = .ok (.iload_n 2, 1) := by decide +kernel
theorem dX0_widestAt_21 : decode cX0_widestAt 21 = .ok (.iload 4, 2) := by decide +kernel
theorem dX0_widestAt_23 : decode cX0_widestAt 23 = .ok (.iconst 1, 1) := by decide +kernel
theorem dX0_widestAt_24 : decode cX0_widestAt 24 = .ok (.isub, 1) := by decide +kernel
theorem dX0_widestAt_25 : decode cX0_widestAt 25 = .ok (.iand, 1) := by decide +kernel
theorem dX0_widestAt_26 : decode cX0_widestAt 26 = .ok (.ifCond .ne 7, 3) := by decide +kernel
theorem dX0_widestAt_29 : decode cX0_widestAt 29 = .ok (.iconst 1, 1) := by decide +kernel
theorem dX0_widestAt_30 : decode cX0_widestAt 30 = .ok (.goto 4, 3) := by decide +kernel
theorem dX0_widestAt_33 : decode cX0_widestAt 33 = .ok (.iconst 0, 1) := by decide +kernel
theorem dX0_widestAt_34 : decode cX0_widestAt 34 = .ok (.istore 5, 2) := by decide +kernel
theorem dX0_widestAt_36 : decode cX0_widestAt 36 = .ok (.iload 5, 2) := by decide +kernel
theorem dX0_widestAt_38 : decode cX0_widestAt 38 = .ok (.ifCond .eq 17, 3) := by decide +kernel
theorem dX0_widestAt_41 : decode cX0_widestAt 41 = .ok (.aload_n 1, 1) := by decide +kernel
theorem dX0_widestAt_42 : decode cX0_widestAt 42 = .ok (.iload_n 2, 1) := by decide +kernel
theorem dX0_widestAt_43 : decode cX0_widestAt 43 = .ok (.iload 4, 2) := by decide +kernel
theorem dX0_widestAt_45 : decode cX0_widestAt 45 = .ok (.invokevirtual 89, 3) := by decide +kernel
theorem dX0_widestAt_48 : decode cX0_widestAt 48 = .ok (.iload 4, 2) := by decide +kernel
theorem dX0_widestAt_50 : decode cX0_widestAt 50 = .ok (.if_icmp .ne 5, 3) := by decide +kernel
theorem dX0_widestAt_53 : decode cX0_widestAt 53 = .ok (.iload_n 3, 1) := by decide +kernel
theorem dX0_widestAt_54 : decode cX0_widestAt 54 = .ok (.ireturn, 1) := by decide +kernel
theorem dX0_widestAt_55 : decode cX0_widestAt 55 = .ok (.iinc 3 1, 3) := by decide +kernel
theorem dX0_widestAt_58 : decode cX0_widestAt 58 = .ok (.goto (-53), 3) := by decide +kernel
theorem dX0_widestAt_61 : decode cX0_widestAt 61 = .ok (.bipush (-4), 2) := by decide +kernel
theorem dX0_widestAt_63 : decode cX0_widestAt 63 = .ok (.ireturn, 1) := by decide +kernel
theorem dX0_leastCells_0 : decode cX0_leastCells 0 = .ok (.aload_n 0, 1) := by decide +kernel
theorem dX0_leastCells_1 : decode cX0_leastCells 1 = .ok (.getfield 42, 3) := by decide +kernel
theorem dX0_leastCells_4 : decode cX0_leastCells 4 = .ok (.ifCond .ne 20, 3) := by decide +kernel
theorem dX0_leastCells_7 : decode cX0_leastCells 7 = .ok (.aload_n 0, 1) := by decide +kernel
theorem dX0_leastCells_8 : decode cX0_leastCells 8 = .ok (.getfield 34, 3) := by decide +kernel
theorem dX0_leastCells_11 : decode cX0_leastCells 11 = .ok (.aload_n 1, 1) := by decide +kernel
theorem dX0_leastCells_12 : decode cX0_leastCells 12 = .ok (.aload_n 0, 1) := by decide +kernel
theorem dX0_leastCells_13 : decode cX0_leastCells 13 = .ok (.getfield 12, 3) := by decide +kernel
theorem dX0_leastCells_16 : decode cX0_leastCells 16 = .ok (.invokevirtual 106, 3) := by decide +kernel
theorem dX0_leastCells_19 : decode cX0_leastCells 19 = .ok (.aload_n 0, 1) := by decide +kernel
theorem dX0_leastCells_20 : decode cX0_leastCells 20 = .ok (.iconst 1, 1) := by decide +kernel
theorem dX0_leastCells_21 : decode cX0_leastCells 21 = .ok (.putfield 42, 3) := by decide +kernel
theorem dX0_leastCells_24 : decode cX0_leastCells 24 = .ok (.aload_n 0, 1) := by decide +kernel
theorem dX0_leastCells_25 : decode cX0_leastCells 25 = .ok (.getfield 34, 3) := by decide +kernel
theorem dX0_leastCells_28 : decode cX0_leastCells 28 = .ok (.iload_n 2, 1) := by decide +kernel
theorem dX0_leastCells_29 : decode cX0_leastCells 29 = .ok (.invokevirtual 110, 3) := by decide +kernel
theorem dX0_leastCells_32 : decode cX0_leastCells 32 = .ok (.ireturn, 1) := by decide +kernel
theorem dX1_keyOf_0 : decode cX1_keyOf 0 = .ok (.iconst 0, 1) := by decide +kernel
theorem dX1_keyOf_1 : decode cX1_keyOf 1 = .ok (.istore 4, 2) := by decide +kernel
theorem dX1_keyOf_3 : decode cX1_keyOf 3 = .ok (.iload_n 2, 1) := by decide +kernel
theorem dX1_keyOf_4 : decode cX1_keyOf 4 = .ok (.istore 5, 2) := by decide +kernel
theorem dX1_keyOf_6 : decode cX1_keyOf 6 = .ok (.iload_n 3, 1) := by decide +kernel
theorem dX1_keyOf_7 : decode cX1_keyOf 7 = .ok (.istore 6, 2) := by decide +kernel
theorem dX1_keyOf_9 : decode cX1_keyOf 9 = .ok (.iload_n 0, 1) := by decide +kernel
theorem dX1_keyOf_10 : decode cX1_keyOf 10 = .ok (.iconst 1, 1) := by decide +kernel
theorem dX1_keyOf_11 : decode cX1_keyOf 11 = .ok (.isub, 1) := by decide +kernel
theorem dX1_keyOf_12 : decode cX1_keyOf 12 = .ok (.istore 7, 2) := by decide +kernel
theorem dX1_keyOf_14 : decode cX1_keyOf 14 = .ok (.iload 7, 2) := by decide +kernel
theorem dX1_keyOf_16 : decode cX1_keyOf 16 = .ok (.ifCond .lt 130, 3) := by decide +kernel
theorem dX1_keyOf_19 : decode cX1_keyOf 19 = .ok (.iconst 1, 1) := by decide +kernel
theorem dX1_keyOf_20 : decode cX1_keyOf 20 = .ok (.iload 7, 2) := by decide +kernel
theorem dX1_keyOf_22 : decode cX1_keyOf 22 = .ok (.ishl, 1) := by decide +kernel
theorem dX1_keyOf_23 : decode cX1_keyOf 23 = .ok (.istore 8, 2) := by decide +kernel
theorem dX1_keyOf_25 : decode cX1_keyOf 25 = .ok (.iload 5, 2) := by decide +kernel
theorem dX1_keyOf_27 : decode cX1_keyOf 27 = .ok (.iload 8, 2) := by decide +kernel
theorem dX1_keyOf_29 : decode cX1_keyOf 29 = .ok (.if_icmp .lt 7, 3) := by decide +kernel
theorem dX1_keyOf_32 : decode cX1_keyOf 32 = .ok (.iconst 1, 1) := by decide +kernel
theorem dX1_keyOf_33 : decode cX1_keyOf 33 = .ok (.goto 4, 3) := by decide +kernel
theorem dX1_keyOf_36 : decode cX1_keyOf 36 = .ok (.iconst 0, 1) := by decide +kernel
theorem dX1_keyOf_37 : decode cX1_keyOf 37 = .ok (.istore 9, 2) := by decide +kernel
theorem dX1_keyOf_39 : decode cX1_keyOf 39 = .ok (.iload 6, 2) := by decide +kernel
theorem dX1_keyOf_41 : decode cX1_keyOf 41 = .ok (.iload 8, 2) := by decide +kernel
theorem dX1_keyOf_43 : decode cX1_keyOf 43 = .ok (.if_icmp .lt 7, 3) := by decide +kernel
theorem dX1_keyOf_46 : decode cX1_keyOf 46 = .ok (.iconst 1, 1) := by decide +kernel
theorem dX1_keyOf_47 : decode cX1_keyOf 47 = .ok (.goto 4, 3) := by decide +kernel
theorem dX1_keyOf_50 : decode cX1_keyOf 50 = .ok (.iconst 0, 1) := by decide +kernel
theorem dX1_keyOf_51 : decode cX1_keyOf 51 = .ok (.istore 10, 2) := by decide +kernel
theorem dX1_keyOf_53 : decode cX1_keyOf 53 = .ok (.iload_n 1, 1) := by decide +kernel
theorem dX1_keyOf_54 : decode cX1_keyOf 54 = .ok (.ifCond .ne 13, 3) := by decide +kernel
theorem dX1_keyOf_57 : decode cX1_keyOf 57 = .ok (.iload 9, 2) := by decide +kernel
theorem dX1_keyOf_59 : decode cX1_keyOf 59 = .ok (.iconst 2, 1) := by decide +kernel
theorem dX1_keyOf_60 : decode cX1_keyOf 60 = .ok (.iload 10, 2) := by decide +kernel
theorem dX1_keyOf_62 : decode cX1_keyOf 62 = .ok (.imul, 1) := by decide +kernel
theorem dX1_keyOf_63 : decode cX1_keyOf 63 = .ok (.iadd, 1) := by decide +kernel
theorem dX1_keyOf_64 : decode cX1_keyOf 64 = .ok (.goto 17, 3) := by decide +kernel
theorem dX1_keyOf_67 : decode cX1_keyOf 67 = .ok (.iload 9, 2) := by decide +kernel
theorem dX1_keyOf_69 : decode cX1_keyOf 69 = .ok (.ifCond .ne 8, 3) := by decide +kernel
theorem dX1_keyOf_72 : decode cX1_keyOf 72 = .ok (.iload 10, 2) := by decide +kernel
theorem dX1_keyOf_74 : decode cX1_keyOf 74 = .ok (.goto 7, 3) := by decide +kernel
theorem dX1_keyOf_77 : decode cX1_keyOf 77 = .ok (.iconst 3, 1) := by decide +kernel
theorem dX1_keyOf_78 : decode cX1_keyOf 78 = .ok (.iload 10, 2) := by decide +kernel
theorem dX1_keyOf_80 : decode cX1_keyOf 80 = .ok (.isub, 1) := by decide +kernel
theorem dX1_keyOf_81 : decode cX1_keyOf 81 = .ok (.istore 11, 2) := by decide +kernel
theorem dX1_keyOf_83 : decode cX1_keyOf 83 = .ok (.iconst 4, 1) := by decide +kernel
theorem dX1_keyOf_84 : decode cX1_keyOf 84 = .ok (.iload 4, 2) := by decide +kernel
theorem dX1_keyOf_86 : decode cX1_keyOf 86 = .ok (.imul, 1) := by decide +kernel
theorem dX1_keyOf_87 : decode cX1_keyOf 87 = .ok (.iload 11, 2) := by decide +kernel
theorem dX1_keyOf_89 : decode cX1_keyOf 89 = .ok (.iadd, 1) := by decide +kernel
theorem dX1_keyOf_90 : decode cX1_keyOf 90 = .ok (.istore 4, 2) := by decide +kernel
theorem dX1_keyOf_92 : decode cX1_keyOf 92 = .ok (.iload 5, 2) := by decide +kernel
theorem dX1_keyOf_94 : decode cX1_keyOf 94 = .ok (.iload 9, 2) := by decide +kernel
theorem dX1_keyOf_96 : decode cX1_keyOf 96 = .ok (.iload 8, 2) := by decide +kernel
theorem dX1_keyOf_98 : decode cX1_keyOf 98 = .ok (.imul, 1) := by decide +kernel
theorem dX1_keyOf_99 : decode cX1_keyOf 99 = .ok (.isub, 1) := by decide +kernel
theorem dX1_keyOf_100 : decode cX1_keyOf 100 = .ok (.istore 12, 2) := by decide +kernel
theorem dX1_keyOf_102 : decode cX1_keyOf 102 = .ok (.iload 6, 2) := by decide +kernel
theorem dX1_keyOf_104 : decode cX1_keyOf 104 = .ok (.iload 10, 2) := by decide +kernel
theorem dX1_keyOf_106 : decode cX1_keyOf 106 = .ok (.iload 8, 2) := by decide +kernel
theorem dX1_keyOf_108 : decode cX1_keyOf 108 = .ok (.imul, 1) := by decide +kernel
theorem dX1_keyOf_109 : decode cX1_keyOf 109 = .ok (.isub, 1) := by decide +kernel
theorem dX1_keyOf_110 : decode cX1_keyOf 110 = .ok (.istore 13, 2) := by decide +kernel
theorem dX1_keyOf_112 : decode cX1_keyOf 112 = .ok (.iload_n 1, 1) := by decide +kernel
theorem dX1_keyOf_113 : decode cX1_keyOf 113 = .ok (.iload 11, 2) := by decide +kernel
theorem dX1_keyOf_115 : decode cX1_keyOf 115 = .ok (.iload 8, 2) := by decide +kernel
theorem dX1_keyOf_117 : decode cX1_keyOf 117 = .ok (.iload 12, 2) := by decide +kernel
theorem dX1_keyOf_119 : decode cX1_keyOf 119 = .ok (.iload 13, 2) := by decide +kernel
theorem dX1_keyOf_121 : decode cX1_keyOf 121 = .ok (.invokestatic 9, 3) := by decide +kernel
theorem dX1_keyOf_124 : decode cX1_keyOf 124 = .ok (.istore 5, 2) := by decide +kernel
theorem dX1_keyOf_126 : decode cX1_keyOf 126 = .ok (.iload_n 1, 1) := by decide +kernel
theorem dX1_keyOf_127 : decode cX1_keyOf 127 = .ok (.iload 11, 2) := by decide +kernel
theorem dX1_keyOf_129 : decode cX1_keyOf 129 = .ok (.iload 8, 2) := by decide +kernel
theorem dX1_keyOf_131 : decode cX1_keyOf 131 = .ok (.iload 13, 2) := by decide +kernel
theorem dX1_keyOf_133 : decode cX1_keyOf 133 = .ok (.iload 12, 2) := by decide +kernel
theorem dX1_keyOf_135 : decode cX1_keyOf 135 = .ok (.invokestatic 9, 3) := by decide +kernel
theorem dX1_keyOf_138 : decode cX1_keyOf 138 = .ok (.istore 6, 2) := by decide +kernel
theorem dX1_keyOf_140 : decode cX1_keyOf 140 = .ok (.iinc 7 (-1), 3) := by decide +kernel
theorem dX1_keyOf_143 : decode cX1_keyOf 143 = .ok (.goto (-129), 3) := by decide +kernel
theorem dX1_keyOf_146 : decode cX1_keyOf 146 = .ok (.iload 4, 2) := by decide +kernel
theorem dX1_keyOf_148 : decode cX1_keyOf 148 = .ok (.ireturn, 1) := by decide +kernel
theorem dX1_placeOf_0 : decode cX1_placeOf 0 = .ok (.iconst 0, 1) := by decide +kernel
theorem dX1_placeOf_1 : decode cX1_placeOf 1 = .ok (.istore_n 3, 1) := by decide +kernel
theorem dX1_placeOf_2 : decode cX1_placeOf 2 = .ok (.iconst 0, 1) := by decide +kernel
theorem dX1_placeOf_3 : decode cX1_placeOf 3 = .ok (.istore 4, 2) := by decide +kernel
theorem dX1_placeOf_5 : decode cX1_placeOf 5 = .ok (.iload_n 2, 1) := by decide +kernel
theorem dX1_placeOf_6 : decode cX1_placeOf 6 = .ok (.istore 5, 2) := by decide +kernel
theorem dX1_placeOf_8 : decode cX1_placeOf 8 = .ok (.iconst 0, 1) := by decide +kernel
theorem dX1_placeOf_9 : decode cX1_placeOf 9 = .ok (.istore 6, 2) := by decide +kernel
theorem dX1_placeOf_11 : decode cX1_placeOf 11 = .ok (.iload 6, 2) := by decide +kernel
theorem dX1_placeOf_13 : decode cX1_placeOf 13 = .ok (.iload_n 0, 1) := by decide +kernel
theorem dX1_placeOf_14 : decode cX1_placeOf 14 = .ok (.if_icmp .ge 119, 3) := by decide +kernel
theorem dX1_placeOf_17 : decode cX1_placeOf 17 = .ok (.iconst 1, 1) := by decide +kernel
theorem dX1_placeOf_18 : decode cX1_placeOf 18 = .ok (.iload 6, 2) := by decide +kernel
theorem dX1_placeOf_20 : decode cX1_placeOf 20 = .ok (.ishl, 1) := by decide +kernel
theorem dX1_placeOf_21 : decode cX1_placeOf 21 = .ok (.istore 7, 2) := by decide +kernel
theorem dX1_placeOf_23 : decode cX1_placeOf 23 = .ok (.iload 5, 2) := by decide +kernel
theorem dX1_placeOf_25 : decode cX1_placeOf 25 = .ok (.iconst 3, 1) := by decide +kernel
theorem dX1_placeOf_26 : decode cX1_placeOf 26 = .ok (.iand, 1) := by decide +kernel
theorem dX1_placeOf_27 : decode cX1_placeOf 27 = .ok (.istore 8, 2) := by decide +kernel
theorem dX1_placeOf_29 : decode cX1_placeOf 29 = .ok (.iload 5, 2) := by decide +kernel
theorem dX1_placeOf_31 : decode cX1_placeOf 31 = .ok (.iconst 2, 1) := by decide +kernel
theorem dX1_placeOf_32 : decode cX1_placeOf 32 = .ok (.ishr, 1) := by decide +kernel
theorem dX1_placeOf_33 : decode cX1_placeOf 33 = .ok (.istore 5, 2) := by decide +kernel
theorem dX1_placeOf_35 : decode cX1_placeOf 35 = .ok (.iload_n 1, 1) := by decide +kernel
theorem dX1_placeOf_36 : decode cX1_placeOf 36 = .ok (.ifCond .ne 10, 3) := by decide +kernel
theorem dX1_placeOf_39 : decode cX1_placeOf 39 = .ok (.iload 8, 2) := by decide +kernel
theorem dX1_placeOf_41 : decode cX1_placeOf 41 = .ok (.iconst 1, 1) := by decide +kernel
theorem dX1_placeOf_42 : decode cX1_placeOf 42 = .ok (.iand, 1) := by decide +kernel
theorem dX1_placeOf_43 : decode cX1_placeOf 43 = .ok (.goto 7, 3) := by decide +kernel
theorem dX1_placeOf_46 : decode cX1_placeOf 46 = .ok (.iload 8, 2) := by decide +kernel
theorem dX1_placeOf_48 : decode cX1_placeOf 48 = .ok (.iconst 1, 1) := by decide +kernel
theorem dX1_placeOf_49 : decode cX1_placeOf 49 = .ok (.ishr, 1) := by decide +kernel
theorem dX1_placeOf_50 : decode cX1_placeOf 50 = .ok (.istore 9, 2) := by decide +kernel
theorem dX1_placeOf_52 : decode cX1_placeOf 52 = .ok (.iload_n 1, 1) := by decide +kernel
theorem dX1_placeOf_53 : decode cX1_placeOf 53 = .ok (.ifCond .ne 10, 3) := by decide +kernel
theorem dX1_placeOf_56 : decode cX1_placeOf 56 = .ok (.iload 8, 2) := by decide +kernel
theorem dX1_placeOf_58 : decode cX1_placeOf 58 = .ok (.iconst 1, 1) := by decide +kernel
theorem dX1_placeOf_59 : decode cX1_placeOf 59 = .ok (.ishr, 1) := by decide +kernel
theorem dX1_placeOf_60 : decode cX1_placeOf 60 = .ok (.goto 20, 3) := by decide +kernel
theorem dX1_placeOf_63 : decode cX1_placeOf 63 = .ok (.iload 8, 2) := by decide +kernel
theorem dX1_placeOf_65 : decode cX1_placeOf 65 = .ok (.iconst 1, 1) := by decide +kernel
theorem dX1_placeOf_66 : decode cX1_placeOf 66 = .ok (.if_icmp .eq 9, 3) := by decide +kernel
theorem dX1_placeOf_69 : decode cX1_placeOf 69 = .ok (.iload 8, 2) := by decide +kernel
theorem dX1_placeOf_71 : decode cX1_placeOf 71 = .ok (.iconst 2, 1) := by decide +kernel
theorem dX1_placeOf_72 : decode cX1_placeOf 72 = .ok (.if_icmp .ne 7, 3) := by decide +kernel
theorem dX1_placeOf_75 : decode cX1_placeOf 75 = .ok (.iconst 1, 1) := by decide +kernel
theorem dX1_placeOf_76 : decode cX1_placeOf 76 = .ok (.goto 4, 3) := by decide +kernel
theorem dX1_placeOf_79 : decode cX1_placeOf 79 = .ok (.iconst 0, 1) := by decide +kernel
theorem dX1_placeOf_80 : decode cX1_placeOf 80 = .ok (.istore 10, 2) := by decide +kernel
theorem dX1_placeOf_82 : decode cX1_placeOf 82 = .ok (.iload_n 1, 1) := by decide +kernel
theorem dX1_placeOf_83 : decode cX1_placeOf 83 = .ok (.iload 8, 2) := by decide +kernel
theorem dX1_placeOf_85 : decode cX1_placeOf 85 = .ok (.iload 7, 2) := by decide +kernel
theorem dX1_placeOf_87 : decode cX1_placeOf 87 = .ok (.iload_n 3, 1) := by decide +kernel
theorem dX1_placeOf_88 : decode cX1_placeOf 88 = .ok (.iload 4, 2) := by decide +kernel
theorem dX1_placeOf_90 : decode cX1_placeOf 90 = .ok (.invokestatic 9, 3) := by decide +kernel
theorem dX1_placeOf_93 : decode cX1_placeOf 93 = .ok (.istore 11, 2) := by decide +kernel
theorem dX1_placeOf_95 : decode cX1_placeOf 95 = .ok (.iload_n 1, 1) := by decide +kernel
theorem dX1_placeOf_96 : decode cX1_placeOf 96 = .ok (.iload 8, 2) := by decide +kernel
theorem dX1_placeOf_98 : decode cX1_placeOf 98 = .ok (.iload 7, 2) := by decide +kernel
theorem dX1_placeOf_100 : decode cX1_placeOf 100 = .ok (.iload 4, 2) := by decide +kernel
theorem dX1_placeOf_102 : decode cX1_placeOf 102 = .ok (.iload_n 3, 1) := by decide +kernel
theorem dX1_placeOf_103 : decode cX1_placeOf 103 = .ok (.invokestatic 9, 3) := by decide +kernel
theorem dX1_placeOf_106 : decode cX1_placeOf 106 = .ok (.istore 12, 2) := by decide +kernel
theorem dX1_placeOf_108 : decode cX1_placeOf 108 = .ok (.iload 11, 2) := by decide +kernel
theorem dX1_placeOf_110 : decode cX1_placeOf 110 = .ok (.iload 9, 2) := by decide +kernel
theorem dX1_placeOf_112 : decode cX1_placeOf 112 = .ok (.iload 7, 2) := by decide +kernel
theorem dX1_placeOf_114 : decode cX1_placeOf 114 = .ok (.imul, 1) := by decide +kernel
theorem dX1_placeOf_115 : decode cX1_placeOf 115 = .ok (.iadd, 1) := by decide +kernel
theorem dX1_placeOf_116 : decode cX1_placeOf 116 = .ok (.istore_n 3, 1) := by decide +kernel
theorem dX1_placeOf_117 : decode cX1_placeOf 117 = .ok (.iload 12, 2) := by decide +kernel
theorem dX1_placeOf_119 : decode cX1_placeOf 119 = .ok (.iload 10, 2) := by decide +kernel
theorem dX1_placeOf_121 : decode cX1_placeOf 121 = .ok (.iload 7, 2) := by decide +kernel
theorem dX1_placeOf_123 : decode cX1_placeOf 123 = .ok (.imul, 1) := by decide +kernel
theorem dX1_placeOf_124 : decode cX1_placeOf 124 = .ok (.iadd, 1) := by decide +kernel
theorem dX1_placeOf_125 : decode cX1_placeOf 125 = .ok (.istore 4, 2) := by decide +kernel
theorem dX1_placeOf_127 : decode cX1_placeOf 127 = .ok (.iinc 6 1, 3) := by decide +kernel
theorem dX1_placeOf_130 : decode cX1_placeOf 130 = .ok (.goto (-119), 3) := by decide +kernel
theorem dX1_placeOf_133 : decode cX1_placeOf 133 = .ok (.iload_n 3, 1) := by decide +kernel
theorem dX1_placeOf_134 : decode cX1_placeOf 134 = .ok (.bipush 64, 2) := by decide +kernel
theorem dX1_placeOf_136 : decode cX1_placeOf 136 = .ok (.iload 4, 2) := by decide +kernel
theorem dX1_placeOf_138 : decode cX1_placeOf 138 = .ok (.imul, 1) := by decide +kernel
theorem dX1_placeOf_139 : decode cX1_placeOf 139 = .ok (.iadd, 1) := by decide +kernel
theorem dX1_placeOf_140 : decode cX1_placeOf 140 = .ok (.ireturn, 1) := by decide +kernel
theorem dX1_half_0 : decode cX1_half 0 = .ok (.iload_n 1, 1) := by decide +kernel
theorem dX1_half_1 : decode cX1_half 1 = .ok (.ifCond .ne 10, 3) := by decide +kernel
theorem dX1_half_4 : decode cX1_half 4 = .ok (.iload_n 0, 1) := by decide +kernel
theorem dX1_half_5 : decode cX1_half 5 = .ok (.bipush 64, 2) := by decide +kernel
theorem dX1_half_7 : decode cX1_half 7 = .ok (.irem, 1) := by decide +kernel
theorem dX1_half_8 : decode cX1_half 8 = .ok (.goto 7, 3) := by decide +kernel
theorem dX1_half_11 : decode cX1_half 11 = .ok (.iload_n 0, 1) := by decide +kernel
theorem dX1_half_12 : decode cX1_half 12 = .ok (.bipush 64, 2) := by decide +kernel
theorem dX1_half_14 : decode cX1_half 14 = .ok (.idiv, 1) := by decide +kernel
theorem dX1_half_15 : decode cX1_half 15 = .ok (.ireturn, 1) := by decide +kernel
theorem dX1_turnedX_0 : decode cX1_turnedX 0 = .ok (.iload_n 0, 1) := by decide +kernel
theorem dX1_turnedX_1 : decode cX1_turnedX 1 = .ok (.iconst 1, 1) := by decide +kernel
theorem dX1_turnedX_2 : decode cX1_turnedX 2 = .ok (.if_icmp .ne 10, 3) := by decide +kernel
theorem dX1_turnedX_5 : decode cX1_turnedX 5 = .ok (.iload_n 1, 1) := by decide +kernel
theorem dX1_turnedX_6 : decode cX1_turnedX 6 = .ok (.ifCond .ne 6, 3) := by decide +kernel
theorem dX1_turnedX_9 : decode cX1_turnedX 9 = .ok (.iload 4, 2) := by decide +kernel
theorem dX1_turnedX_11 : decode cX1_turnedX 11 = .ok (.ireturn, 1) := by decide +kernel
theorem dX1_turnedX_12 : decode cX1_turnedX 12 = .ok (.iload_n 0, 1) := by decide +kernel
theorem dX1_turnedX_13 : decode cX1_turnedX 13 = .ok (.iconst 1, 1) := by decide +kernel
theorem dX1_turnedX_14 : decode cX1_turnedX 14 = .ok (.if_icmp .ne 17, 3) := by decide +kernel
theorem dX1_turnedX_17 : decode cX1_turnedX 17 = .ok (.iload_n 1, 1) := by decide +kernel
theorem dX1_turnedX_18 : decode cX1_turnedX 18 = .ok (.iconst 3, 1) := by decide +kernel
theorem dX1_turnedX_19 : decode cX1_turnedX 19 = .ok (.if_icmp .ne 12, 3) := by decide +kernel
theorem dX1_turnedX_22 : decode cX1_turnedX 22 = .ok (.iload_n 2, 1) := by decide +kernel
theorem dX1_turnedX_23 : decode cX1_turnedX 23 = .ok (.iconst 1, 1) := by decide +kernel
theorem dX1_turnedX_24 : decode cX1_turnedX 24 = .ok (.isub, 1) := by decide +kernel
theorem dX1_turnedX_25 : decode cX1_turnedX 25 = .ok (.iload 4, 2) := by decide +kernel
theorem dX1_turnedX_27 : decode cX1_turnedX 27 = .ok (.isub, 1) := by decide +kernel
theorem dX1_turnedX_28 : decode cX1_turnedX 28 = .ok (.goto 4, 3) := by decide +kernel
theorem dX1_turnedX_31 : decode cX1_turnedX 31 = .ok (.iload_n 3, 1) := by decide +kernel
theorem dX1_turnedX_32 : decode cX1_turnedX 32 = .ok (.ireturn, 1) := by decide +kernel
theorem dX2_init_0 : decode cX2_init 0 = .ok (.aload_n 0, 1) := by decide +kernel
theorem dX2_init_1 : decode cX2_init 1 = .ok (.invokespecial 3, 3) := by decide +kernel
theorem dX2_init_4 : decode cX2_init 4 = .ok (.aload_n 0, 1) := by decide +kernel
theorem dX2_init_5 : decode cX2_init 5 = .ok (.bipush 98, 2) := by decide +kernel
theorem dX2_init_7 : decode cX2_init 7 = .ok (.newarray .int, 2) := by decide +kernel
theorem dX2_init_9 : decode cX2_init 9 = .ok (.putfield 9, 3) := by decide +kernel
theorem dX2_init_12 : decode cX2_init 12 = .ok (.return_, 1) := by decide +kernel
theorem dX2_filledFor_0 : decode cX2_filledFor 0 = .ok (.aload_n 0, 1) := by decide +kernel
theorem dX2_filledFor_1 : decode cX2_filledFor 1 = .ok (.iconst 0, 1) := by decide +kernel
theorem dX2_filledFor_2 : decode cX2_filledFor 2 = .ok (.putfield 15, 3) := by decide +kernel
theorem dX2_filledFor_5 : decode cX2_filledFor 5 = .ok (.iconst 0, 1) := by decide +kernel
theorem dX2_filledFor_6 : decode cX2_filledFor 6 = .ok (.istore_n 3, 1) := by decide +kernel
theorem dX2_filledFor_7 : decode cX2_filledFor 7 = .ok (.bipush (-4), 2) := by decide +kernel
theorem dX2_filledFor_9 : decode cX2_filledFor 9 = .ok (.istore 4, 2) := by decide +kernel
theorem dX2_filledFor_11 : decode cX2_filledFor 11 = .ok (.iconst 0, 1) := by decide +kernel
theorem dX2_filledFor_12 : decode cX2_filledFor 12 = .ok (.istore 5, 2) := by decide +kernel
theorem dX2_filledFor_14 : decode cX2_filledFor 14 = .ok (.iload 5, 2) := by decide +kernel
theorem dX2_filledFor_16 : decode cX2_filledFor 16 = .ok (.sipush 4096, 3) := by decide +kernel
theorem dX2_filledFor_19 : decode cX2_filledFor 19 = .ok (.if_icmp .ge 58, 3) := by decide +kernel
theorem dX2_filledFor_22 : decode cX2_filledFor 22 = .ok (.aload_n 1, 1) := by decide +kernel
theorem dX2_filledFor_23 : decode cX2_filledFor 23 = .ok (.iload 5, 2) := by decide +kernel
theorem dX2_filledFor_25 : decode cX2_filledFor 25 = .ok (.invokevirtual 19, 3) := by decide +kernel
theorem dX2_filledFor_28 : decode cX2_filledFor 28 = .ok (.ifCond .ne 6, 3) := by decide +kernel
theorem dX2_filledFor_31 : decode cX2_filledFor 31 = .ok (.goto 40, 3) := by decide +kernel
theorem dX2_filledFor_34 : decode cX2_filledFor 34 = .ok (.iload 4, 2) := by decide +kernel
theorem dX2_filledFor_36 : decode cX2_filledFor 36 = .ok (.bipush (-4), 2) := by decide +kernel
theorem dX2_filledFor_38 : decode cX2_filledFor 38 = .ok (.if_icmp .eq 29, 3) := by decide +kernel
theorem dX2_filledFor_41 : decode cX2_filledFor 41 = .ok (.iload 5, 2) := by decide +kernel
theorem dX2_filledFor_43 : decode cX2_filledFor 43 = .ok (.iload 4, 2) := by decide +kernel
theorem dX2_filledFor_45 : decode cX2_filledFor 45 = .ok (.isub, 1) := by decide +kernel
theorem dX2_filledFor_46 : decode cX2_filledFor 46 = .ok (.iconst 1, 1) := by decide +kernel
theorem dX2_filledFor_47 : decode cX2_filledFor 47 = .ok (.if_icmp .le 20, 3) := by decide +kernel
theorem dX2_filledFor_50 : decode cX2_filledFor 50 = .ok (.iload_n 3, 1) := by decide +kernel
theorem dX2_filledFor_51 : decode cX2_filledFor 51 = .ok (.aload_n 0, 1) := by decide +kernel
theorem dX2_filledFor_52 : decode cX2_filledFor 52 = .ok (.iload 5, 2) := by decide +kernel
theorem dX2_filledFor_54 : decode cX2_filledFor 54 = .ok (.iload 4, 2) := by decide +kernel
theorem dX2_filledFor_56 : decode cX2_filledFor 56 = .ok (.isub, 1) := by decide +kernel
theorem dX2_filledFor_57 : decode cX2_filledFor 57 = .ok (.iconst 1, 1) := by decide +kernel
theorem dX2_filledFor_58 : decode cX2_filledFor 58 = .ok (.isub, 1) := by decide +kernel
theorem dX2_filledFor_59 : decode cX2_filledFor 59 = .ok (.iload_n 2, 1) := by decide +kernel
theorem dX2_filledFor_60 : decode cX2_filledFor 60 = .ok (.iconst 1, 1) := by decide +kernel
theorem dX2_filledFor_61 : decode cX2_filledFor 61 = .ok (.isub, 1) := by decide +kernel
theorem dX2_filledFor_62 : decode cX2_filledFor 62 = .ok (.invokevirtual 25, 3) := by decide +kernel
theorem dX2_filledFor_65 : decode cX2_filledFor 65 = .ok (.iadd, 1) := by decide +kernel
theorem dX2_filledFor_66 : decode cX2_filledFor 66 = .ok (.istore_n 3, 1) := by decide +kernel
theorem dX2_filledFor_67 : decode cX2_filledFor 67 = .ok (.iload 5, 2) := by decide +kernel
theorem dX2_filledFor_69 : decode cX2_filledFor 69 = .ok (.istore 4, 2) := by decide +kernel
theorem dX2_filledFor_71 : decode cX2_filledFor 71 = .ok (.iinc 5 1, 3) := by decide +kernel
theorem dX2_filledFor_74 : decode cX2_filledFor 74 = .ok (.goto (-60), 3) := by decide +kernel
theorem dX2_filledFor_77 : decode cX2_filledFor 77 = .ok (.iload_n 3, 1) := by decide +kernel
theorem dX2_filledFor_78 : decode cX2_filledFor 78 = .ok (.ireturn, 1) := by decide +kernel
theorem dX2_filledBy_0 : decode cX2_filledBy 0 = .ok (.aload_n 0, 1) := by decide +kernel
theorem dX2_filledBy_1 : decode cX2_filledBy 1 = .ok (.getfield 15, 3) := by decide +kernel
theorem dX2_filledBy_4 : decode cX2_filledBy 4 = .ok (.iload_n 2, 1) := by decide +kernel
theorem dX2_filledBy_5 : decode cX2_filledBy 5 = .ok (.if_icmp .ge 37, 3) := by decide +kernel
theorem dX2_filledBy_8 : decode cX2_filledBy 8 = .ok (.aload_n 0, 1) := by decide +kernel
theorem dX2_filledBy_9 : decode cX2_filledBy 9 = .ok (.getfield 15, 3) := by decide +kernel
theorem dX2_filledBy_12 : decode cX2_filledBy 12 = .ok (.aload_n 0, 1) := by decide +kernel
theorem dX2_filledBy_13 : decode cX2_filledBy 13 = .ok (.getfield 9, 3) := by decide +kernel
theorem dX2_filledBy_16 : decode cX2_filledBy 16 = .ok (.arraylength, 1) := by decide +kernel
theorem dX2_filledBy_17 : decode cX2_filledBy 17 = .ok (.if_icmp .ge 25, 3) := by decide +kernel
theorem dX2_filledBy_20 : decode cX2_filledBy 20 = .ok (.aload_n 0, 1) := by decide +kernel
theorem dX2_filledBy_21 : decode cX2_filledBy 21 = .ok (.getfield 9, 3) := by decide +kernel
theorem dX2_filledBy_24 : decode cX2_filledBy 24 = .ok (.aload_n 0, 1) := by decide +kernel
theorem dX2_filledBy_25 : decode cX2_filledBy 25 = .ok (.getfield 15, 3) := by decide +kernel
theorem dX2_filledBy_28 : decode cX2_filledBy 28 = .ok (.iload_n 1, 1) := by decide +kernel
theorem dX2_filledBy_29 : decode cX2_filledBy 29 = .ok (.iastore, 1) := by decide +kernel
theorem dX2_filledBy_30 : decode cX2_filledBy 30 = .ok (.aload_n 0, 1) := by decide +kernel
theorem dX2_filledBy_31 : decode cX2_filledBy 31 = .ok (.dup, 1) := by decide +kernel
theorem dX2_filledBy_32 : decode cX2_filledBy 32 = .ok (.getfield 15, 3) := by decide +kernel
theorem dX2_filledBy_35 : decode cX2_filledBy 35 = .ok (.iconst 1, 1) := by decide +kernel
theorem dX2_filledBy_36 : decode cX2_filledBy 36 = .ok (.iadd, 1) := by decide +kernel
theorem dX2_filledBy_37 : decode cX2_filledBy 37 = .ok (.putfield 15, 3) := by decide +kernel
theorem dX2_filledBy_40 : decode cX2_filledBy 40 = .ok (.iconst 0, 1) := by decide +kernel
theorem dX2_filledBy_41 : decode cX2_filledBy 41 = .ok (.ireturn, 1) := by decide +kernel
theorem dX2_filledBy_42 : decode cX2_filledBy 42 = .ok (.iload_n 1, 1) := by decide +kernel
theorem dX2_filledBy_43 : decode cX2_filledBy 43 = .ok (.istore_n 3, 1) := by decide +kernel
theorem dX2_filledBy_44 : decode cX2_filledBy 44 = .ok (.bipush (-4), 2) := by decide +kernel
theorem dX2_filledBy_46 : decode cX2_filledBy 46 = .ok (.istore 4, 2) := by decide +kernel
theorem dX2_filledBy_48 : decode cX2_filledBy 48 = .ok (.iconst 0, 1) := by decide +kernel
theorem dX2_filledBy_49 : decode cX2_filledBy 49 = .ok (.istore 5, 2) := by decide +kernel
theorem dX2_filledBy_51 : decode cX2_filledBy 51 = .ok (.iload 5, 2) := by decide +kernel
theorem dX2_filledBy_53 : decode cX2_filledBy 53 = .ok (.aload_n 0, 1) := by decide +kernel
theorem dX2_filledBy_54 : decode cX2_filledBy 54 = .ok (.getfield 15, 3) := by decide +kernel
theorem dX2_filledBy_57 : decode cX2_filledBy 57 = .ok (.if_icmp .ge 32, 3) := by decide +kernel
theorem dX2_filledBy_60 : decode cX2_filledBy 60 = .ok (.aload_n 0, 1) := by decide +kernel
theorem dX2_filledBy_61 : decode cX2_filledBy 61 = .ok (.getfield 9, 3) := by decide +kernel
theorem dX2_filledBy_64 : decode cX2_filledBy 64 = .ok (.iload 5, 2) := by decide +kernel
theorem dX2_filledBy_66 : decode cX2_filledBy 66 = .ok (.iaload, 1) := by decide +kernel
theorem dX2_filledBy_67 : decode cX2_filledBy 67 = .ok (.iload_n 3, 1) := by decide +kernel
theorem dX2_filledBy_68 : decode cX2_filledBy 68 = .ok (.if_icmp .ge 15, 3) := by decide +kernel
theorem dX2_filledBy_71 : decode cX2_filledBy 71 = .ok (.aload_n 0, 1) := by decide +kernel
theorem dX2_filledBy_72 : decode cX2_filledBy 72 = .ok (.getfield 9, 3) := by decide +kernel
theorem dX2_filledBy_75 : decode cX2_filledBy 75 = .ok (.iload 5, 2) := by decide +kernel
theorem dX2_filledBy_77 : decode cX2_filledBy 77 = .ok (.iaload, 1) := by decide +kernel
theorem dX2_filledBy_78 : decode cX2_filledBy 78 = .ok (.istore_n 3, 1) := by decide +kernel
theorem dX2_filledBy_79 : decode cX2_filledBy 79 = .ok (.iload 5, 2) := by decide +kernel
theorem dX2_filledBy_81 : decode cX2_filledBy 81 = .ok (.istore 4, 2) := by decide +kernel
theorem dX2_filledBy_83 : decode cX2_filledBy 83 = .ok (.iinc 5 1, 3) := by decide +kernel
theorem dX2_filledBy_86 : decode cX2_filledBy 86 = .ok (.goto (-35), 3) := by decide +kernel
theorem dX2_filledBy_89 : decode cX2_filledBy 89 = .ok (.iload 4, 2) := by decide +kernel
theorem dX2_filledBy_91 : decode cX2_filledBy 91 = .ok (.bipush (-4), 2) := by decide +kernel
theorem dX2_filledBy_93 : decode cX2_filledBy 93 = .ok (.if_icmp .eq 11, 3) := by decide +kernel
theorem dX2_filledBy_96 : decode cX2_filledBy 96 = .ok (.aload_n 0, 1) := by decide +kernel
theorem dX2_filledBy_97 : decode cX2_filledBy 97 = .ok (.getfield 9, 3) := by decide +kernel
theorem dX2_filledBy_100 : decode cX2_filledBy 100 = .ok (.iload 4, 2) := by decide +kernel
theorem dX2_filledBy_102 : decode cX2_filledBy 102 = .ok (.iload_n 1, 1) := by decide +kernel
theorem dX2_filledBy_103 : decode cX2_filledBy 103 = .ok (.iastore, 1) := by decide +kernel
theorem dX2_filledBy_104 : decode cX2_filledBy 104 = .ok (.iload_n 3, 1) := by decide +kernel
theorem dX2_filledBy_105 : decode cX2_filledBy 105 = .ok (.ireturn, 1) := by decide +kernel
theorem dX3_init_0 : decode cX3_init 0 = .ok (.aload_n 0, 1) := by decide +kernel
theorem dX3_init_1 : decode cX3_init 1 = .ok (.invokespecial 3, 3) := by decide +kernel
theorem dX3_init_4 : decode cX3_init 4 = .ok (.aload_n 0, 1) := by decide +kernel
theorem dX3_init_5 : decode cX3_init 5 = .ok (.bipush 64, 2) := by decide +kernel
theorem dX3_init_7 : decode cX3_init 7 = .ok (.newarray .long, 2) := by decide +kernel
theorem dX3_init_9 : decode cX3_init 9 = .ok (.putfield 9, 3) := by decide +kernel
theorem dX3_init_12 : decode cX3_init 12 = .ok (.return_, 1) := by decide +kernel
theorem dX3_clear_0 : decode cX3_clear 0 = .ok (.aload_n 0, 1) := by decide +kernel
theorem dX3_clear_1 : decode cX3_clear 1 = .ok (.getfield 9, 3) := by decide +kernel
theorem dX3_clear_4 : decode cX3_clear 4 = .ok (.lconst 0, 1) := by decide +kernel
theorem dX3_clear_5 : decode cX3_clear 5 = .ok (.invokestatic 15, 3) := by decide +kernel
theorem dX3_clear_8 : decode cX3_clear 8 = .ok (.return_, 1) := by decide +kernel
theorem dX3_add_0 : decode cX3_add 0 = .ok (.iload_n 1, 1) := by decide +kernel
theorem dX3_add_1 : decode cX3_add 1 = .ok (.ifCond .lt 28, 3) := by decide +kernel
theorem dX3_add_4 : decode cX3_add 4 = .ok (.iload_n 1, 1) := by decide +kernel
theorem dX3_add_5 : decode cX3_add 5 = .ok (.sipush 4096, 3) := by decide +kernel
theorem dX3_add_8 : decode cX3_add 8 = .ok (.if_icmp .ge 21, 3) := by decide +kernel
theorem dX3_add_11 : decode cX3_add 11 = .ok (.aload_n 0, 1) := by decide +kernel
theorem dX3_add_12 : decode cX3_add 12 = .ok (.getfield 9, 3) := by decide +kernel
theorem dX3_add_15 : decode cX3_add 15 = .ok (.iload_n 1, 1) := by decide +kernel
theorem dX3_add_16 : decode cX3_add 16 = .ok (.bipush 64, 2) := by decide +kernel
theorem dX3_add_18 : decode cX3_add 18 = .ok (.idiv, 1) := by decide +kernel
theorem dX3_add_19 : decode cX3_add 19 = .ok (.dup2, 1) := by decide +kernel
theorem dX3_add_20 : decode cX3_add 20 = .ok (.laload, 1) := by decide +kernel
theorem dX3_add_21 : decode cX3_add 21 = .ok (.lconst 1, 1) := by decide +kernel
theorem dX3_add_22 : decode cX3_add 22 = .ok (.iload_n 1, 1) := by decide +kernel
theorem dX3_add_23 : decode cX3_add 23 = .ok (.bipush 64, 2) := by decide +kernel
theorem dX3_add_25 : decode cX3_add 25 = .ok (.irem, 1) := by decide +kernel
theorem dX3_add_26 : decode cX3_add 26 = .ok (.lshl, 1) := by decide +kernel
theorem dX3_add_27 : decode cX3_add 27 = .ok (.lor, 1) := by decide +kernel
theorem dX3_add_28 : decode cX3_add 28 = .ok (.lastore, 1) := by decide +kernel
theorem dX3_add_29 : decode cX3_add 29 = .ok (.return_, 1) := by decide +kernel
theorem dX3_addAll_0 : decode cX3_addAll 0 = .ok (.iload_n 1, 1) := by decide +kernel
theorem dX3_addAll_1 : decode cX3_addAll 1 = .ok (.istore_n 3, 1) := by decide +kernel
theorem dX3_addAll_2 : decode cX3_addAll 2 = .ok (.iload_n 3, 1) := by decide +kernel
theorem dX3_addAll_3 : decode cX3_addAll 3 = .ok (.iload_n 1, 1) := by decide +kernel
theorem dX3_addAll_4 : decode cX3_addAll 4 = .ok (.iload_n 2, 1) := by decide +kernel
theorem dX3_addAll_5 : decode cX3_addAll 5 = .ok (.iadd, 1) := by decide +kernel
theorem dX3_addAll_6 : decode cX3_addAll 6 = .ok (.if_icmp .ge 14, 3) := by decide +kernel
theorem dX3_addAll_9 : decode cX3_addAll 9 = .ok (.aload_n 0, 1) := by decide +kernel
theorem dX3_addAll_10 : decode cX3_addAll 10 = .ok (.iload_n 3, 1) := by decide +kernel
theorem dX3_addAll_11 : decode cX3_addAll 11 = .ok (.invokevirtual 21, 3) := by decide +kernel
theorem dX3_addAll_14 : decode cX3_addAll 14 = .ok (.iinc 3 1, 3) := by decide +kernel
theorem dX3_addAll_17 : decode cX3_addAll 17 = .ok (.goto (-15), 3) := by decide +kernel
theorem dX3_addAll_20 : decode cX3_addAll 20 = .ok (.return_, 1) := by decide +kernel
theorem dX3_has_0 : decode cX3_has 0 = .ok (.iload_n 1, 1) := by decide +kernel
theorem dX3_has_1 : decode cX3_has 1 = .ok (.ifCond .lt 35, 3) := by decide +kernel
theorem dX3_has_4 : decode cX3_has 4 = .ok (.iload_n 1, 1) := by decide +kernel
theorem dX3_has_5 : decode cX3_has 5 = .ok (.sipush 4096, 3) := by decide +kernel
theorem dX3_has_8 : decode cX3_has 8 = .ok (.if_icmp .ge 28, 3) := by decide +kernel
theorem dX3_has_11 : decode cX3_has 11 = .ok (.aload_n 0, 1) := by decide +kernel
theorem dX3_has_12 : decode cX3_has 12 = .ok (.getfield 9, 3) := by decide +kernel
theorem dX3_has_15 : decode cX3_has 15 = .ok (.iload_n 1, 1) := by decide +kernel
theorem dX3_has_16 : decode cX3_has 16 = .ok (.bipush 64, 2) := by decide +kernel
theorem dX3_has_18 : decode cX3_has 18 = .ok (.idiv, 1) := by decide +kernel
theorem dX3_has_19 : decode cX3_has 19 = .ok (.laload, 1) := by decide +kernel
theorem dX3_has_20 : decode cX3_has 20 = .ok (.iload_n 1, 1) := by decide +kernel
theorem dX3_has_21 : decode cX3_has 21 = .ok (.bipush 64, 2) := by decide +kernel
theorem dX3_has_23 : decode cX3_has 23 = .ok (.irem, 1) := by decide +kernel
theorem dX3_has_24 : decode cX3_has 24 = .ok (.lushr, 1) := by decide +kernel
theorem dX3_has_25 : decode cX3_has 25 = .ok (.lconst 1, 1) := by decide +kernel
theorem dX3_has_26 : decode cX3_has 26 = .ok (.land, 1) := by decide +kernel
theorem dX3_has_27 : decode cX3_has 27 = .ok (.lconst 0, 1) := by decide +kernel
theorem dX3_has_28 : decode cX3_has 28 = .ok (.lcmp, 1) := by decide +kernel
theorem dX3_has_29 : decode cX3_has 29 = .ok (.ifCond .eq 7, 3) := by decide +kernel
theorem dX3_has_32 : decode cX3_has 32 = .ok (.iconst 1, 1) := by decide +kernel
theorem dX3_has_33 : decode cX3_has 33 = .ok (.goto 4, 3) := by decide +kernel
theorem dX3_has_36 : decode cX3_has 36 = .ok (.iconst 0, 1) := by decide +kernel
theorem dX3_has_37 : decode cX3_has 37 = .ok (.ireturn, 1) := by decide +kernel
theorem dX3_countIn_0 : decode cX3_countIn 0 = .ok (.iload_n 1, 1) := by decide +kernel
theorem dX3_countIn_1 : decode cX3_countIn 1 = .ok (.ifCond .lt 17, 3) := by decide +kernel
theorem dX3_countIn_4 : decode cX3_countIn 4 = .ok (.iload_n 2, 1) := by decide +kernel
theorem dX3_countIn_5 : decode cX3_countIn 5 = .ok (.iconst 1, 1) := by decide +kernel
theorem dX3_countIn_6 : decode cX3_countIn 6 = .ok (.if_icmp .lt 12, 3) := by decide +kernel
theorem dX3_countIn_9 : decode cX3_countIn 9 = .ok (.iload_n 1, 1) := by decide +kernel
theorem dX3_countIn_10 : decode cX3_countIn 10 = .ok (.sipush 4096, 3) := by decide +kernel
theorem dX3_countIn_13 : decode cX3_countIn 13 = .ok (.iload_n 2, 1) := by decide +kernel
theorem dX3_countIn_14 : decode cX3_countIn 14 = .ok (.isub, 1) := by decide +kernel
theorem dX3_countIn_15 : decode cX3_countIn 15 = .ok (.if_icmp .le 5, 3) := by decide +kernel
theorem dX3_countIn_18 : decode cX3_countIn 18 = .ok (.iconst 0, 1) := by decide +kernel
theorem dX3_countIn_19 : decode cX3_countIn 19 = .ok (.ireturn, 1) := by decide +kernel
theorem dX3_countIn_20 : decode cX3_countIn 20 = .ok (.iload_n 2, 1) := by decide +kernel
theorem dX3_countIn_21 : decode cX3_countIn 21 = .ok (.bipush 64, 2) := by decide +kernel
theorem dX3_countIn_23 : decode cX3_countIn 23 = .ok (.if_icmp .ge 29, 3) := by decide +kernel
theorem dX3_countIn_26 : decode cX3_countIn 26 = .ok (.lconst 1, 1) := by decide +kernel
theorem dX3_countIn_27 : decode cX3_countIn 27 = .ok (.iload_n 2, 1) := by decide +kernel
theorem dX3_countIn_28 : decode cX3_countIn 28 = .ok (.lshl, 1) := by decide +kernel
theorem dX3_countIn_29 : decode cX3_countIn 29 = .ok (.lconst 1, 1) := by decide +kernel
theorem dX3_countIn_30 : decode cX3_countIn 30 = .ok (.lsub, 1) := by decide +kernel
theorem dX3_countIn_31 : decode cX3_countIn 31 = .ok (.lstore_n 3, 1) := by decide +kernel
theorem dX3_countIn_32 : decode cX3_countIn 32 = .ok (.aload_n 0, 1) := by decide +kernel
theorem dX3_countIn_33 : decode cX3_countIn 33 = .ok (.getfield 9, 3) := by decide +kernel
theorem dX3_countIn_36 : decode cX3_countIn 36 = .ok (.iload_n 1, 1) := by decide +kernel
theorem dX3_countIn_37 : decode cX3_countIn 37 = .ok (.bipush 64, 2) := by decide +kernel
theorem dX3_countIn_39 : decode cX3_countIn 39 = .ok (.idiv, 1) := by decide +kernel
theorem dX3_countIn_40 : decode cX3_countIn 40 = .ok (.laload, 1) := by decide +kernel
theorem dX3_countIn_41 : decode cX3_countIn 41 = .ok (.iload_n 1, 1) := by decide +kernel
theorem dX3_countIn_42 : decode cX3_countIn 42 = .ok (.bipush 64, 2) := by decide +kernel
theorem dX3_countIn_44 : decode cX3_countIn 44 = .ok (.irem, 1) := by decide +kernel
theorem dX3_countIn_45 : decode cX3_countIn 45 = .ok (.lushr, 1) := by decide +kernel
theorem dX3_countIn_46 : decode cX3_countIn 46 = .ok (.lload_n 3, 1) := by decide +kernel
theorem dX3_countIn_47 : decode cX3_countIn 47 = .ok (.land, 1) := by decide +kernel
theorem dX3_countIn_48 : decode cX3_countIn 48 = .ok (.invokestatic 25, 3) := by decide +kernel
theorem dX3_countIn_51 : decode cX3_countIn 51 = .ok (.ireturn, 1) := by decide +kernel
theorem dX3_countIn_52 : decode cX3_countIn 52 = .ok (.iconst 0, 1) := by decide +kernel
theorem dX3_countIn_53 : decode cX3_countIn 53 = .ok (.istore_n 3, 1) := by decide +kernel
theorem dX3_countIn_54 : decode cX3_countIn 54 = .ok (.iload_n 1, 1) := by decide +kernel
theorem dX3_countIn_55 : decode cX3_countIn 55 = .ok (.bipush 64, 2) := by decide +kernel
theorem dX3_countIn_57 : decode cX3_countIn 57 = .ok (.idiv, 1) := by decide +kernel
theorem dX3_countIn_58 : decode cX3_countIn 58 = .ok (.istore 4, 2) := by decide +kernel
theorem dX3_countIn_60 : decode cX3_countIn 60 = .ok (.iload 4, 2) := by decide +kernel
theorem dX3_countIn_62 : decode cX3_countIn 62 = .ok (.iload_n 1, 1) := by decide +kernel
theorem dX3_countIn_63 : decode cX3_countIn 63 = .ok (.iload_n 2, 1) := by decide +kernel
theorem dX3_countIn_64 : decode cX3_countIn 64 = .ok (.iadd, 1) := by decide +kernel
theorem dX3_countIn_65 : decode cX3_countIn 65 = .ok (.bipush 64, 2) := by decide +kernel
theorem dX3_countIn_67 : decode cX3_countIn 67 = .ok (.idiv, 1) := by decide +kernel
theorem dX3_countIn_68 : decode cX3_countIn 68 = .ok (.if_icmp .ge 22, 3) := by decide +kernel
theorem dX3_countIn_71 : decode cX3_countIn 71 = .ok (.iload_n 3, 1) := by decide +kernel
theorem dX3_countIn_72 : decode cX3_countIn 72 = .ok (.aload_n 0, 1) := by decide +kernel
theorem dX3_countIn_73 : decode cX3_countIn 73 = .ok (.getfield 9, 3) := by decide +kernel
theorem dX3_countIn_76 : decode cX3_countIn 76 = .ok (.iload 4, 2) := by decide +kernel
theorem dX3_countIn_78 : decode cX3_countIn 78 = .ok (.laload, 1) := by decide +kernel
theorem dX3_countIn_79 : decode cX3_countIn 79 = .ok (.invokestatic 25, 3) := by decide +kernel
theorem dX3_countIn_82 : decode cX3_countIn 82 = .ok (.iadd, 1) := by decide +kernel
theorem dX3_countIn_83 : decode cX3_countIn 83 = .ok (.istore_n 3, 1) := by decide +kernel
theorem dX3_countIn_84 : decode cX3_countIn 84 = .ok (.iinc 4 1, 3) := by decide +kernel
theorem dX3_countIn_87 : decode cX3_countIn 87 = .ok (.goto (-27), 3) := by decide +kernel
theorem dX3_countIn_90 : decode cX3_countIn 90 = .ok (.iload_n 3, 1) := by decide +kernel
theorem dX3_countIn_91 : decode cX3_countIn 91 = .ok (.ireturn, 1) := by decide +kernel
theorem dX3_runEnd_0 : decode cX3_runEnd 0 = .ok (.iconst 0, 1) := by decide +kernel
theorem dX3_runEnd_1 : decode cX3_runEnd 1 = .ok (.istore_n 3, 1) := by decide +kernel
theorem dX3_runEnd_2 : decode cX3_runEnd 2 = .ok (.iconst 0, 1) := by decide +kernel
theorem dX3_runEnd_3 : decode cX3_runEnd 3 = .ok (.istore 4, 2) := by decide +kernel
theorem dX3_runEnd_5 : decode cX3_runEnd 5 = .ok (.iload 4, 2) := by decide +kernel
theorem dX3_runEnd_7 : decode cX3_runEnd 7 = .ok (.sipush 4096, 3) := by decide +kernel
theorem dX3_runEnd_10 : decode cX3_runEnd 10 = .ok (.if_icmp .ge 80, 3) := by decide +kernel
theorem dX3_runEnd_13 : decode cX3_runEnd 13 = .ok (.aload_n 0, 1) := by decide +kernel
theorem dX3_runEnd_14 : decode cX3_runEnd 14 = .ok (.iload 4, 2) := by decide +kernel
theorem dX3_runEnd_16 : decode cX3_runEnd 16 = .ok (.invokevirtual 31, 3) := by decide +kernel
theorem dX3_runEnd_19 : decode cX3_runEnd 19 = .ok (.ifCond .ne 6, 3) := by decide +kernel
theorem dX3_runEnd_22 : decode cX3_runEnd 22 = .ok (.goto 62, 3) := by decide +kernel
theorem dX3_runEnd_25 : decode cX3_runEnd 25 = .ok (.aload_n 0, 1) := by decide +kernel
theorem dX3_runEnd_26 : decode cX3_runEnd 26 = .ok (.iload 4, 2) := by decide +kernel
theorem dX3_runEnd_28 : decode cX3_runEnd 28 = .ok (.iconst 1, 1) := by decide +kernel
theorem dX3_runEnd_29 : decode cX3_runEnd 29 = .ok (.isub, 1) := by decide +kernel
theorem dX3_runEnd_30 : decode cX3_runEnd 30 = .ok (.invokevirtual 31, 3) := by decide +kernel
theorem dX3_runEnd_33 : decode cX3_runEnd 33 = .ok (.ifCond .ne 7, 3) := by decide +kernel
theorem dX3_runEnd_36 : decode cX3_runEnd 36 = .ok (.iconst 1, 1) := by decide +kernel
theorem dX3_runEnd_37 : decode cX3_runEnd 37 = .ok (.goto 4, 3) := by decide +kernel
theorem dX3_runEnd_40 : decode cX3_runEnd 40 = .ok (.iconst 0, 1) := by decide +kernel
theorem dX3_runEnd_41 : decode cX3_runEnd 41 = .ok (.istore 5, 2) := by decide +kernel
theorem dX3_runEnd_43 : decode cX3_runEnd 43 = .ok (.iload 5, 2) := by decide +kernel
theorem dX3_runEnd_45 : decode cX3_runEnd 45 = .ok (.ifCond .eq 6, 3) := by decide +kernel
theorem dX3_runEnd_48 : decode cX3_runEnd 48 = .ok (.iinc 3 1, 3) := by decide +kernel
theorem dX3_runEnd_51 : decode cX3_runEnd 51 = .ok (.iload_n 3, 1) := by decide +kernel
theorem dX3_runEnd_52 : decode cX3_runEnd 52 = .ok (.iconst 1, 1) := by decide +kernel
theorem dX3_runEnd_53 : decode cX3_runEnd 53 = .ok (.isub, 1) := by decide +kernel
theorem dX3_runEnd_54 : decode cX3_runEnd 54 = .ok (.iload_n 1, 1) := by decide +kernel
theorem dX3_runEnd_55 : decode cX3_runEnd 55 = .ok (.if_icmp .ne 29, 3) := by decide +kernel
theorem dX3_runEnd_58 : decode cX3_runEnd 58 = .ok (.iload_n 2, 1) := by decide +kernel
theorem dX3_runEnd_59 : decode cX3_runEnd 59 = .ok (.ifCond .ne 11, 3) := by decide +kernel
theorem dX3_runEnd_62 : decode cX3_runEnd 62 = .ok (.iload 5, 2) := by decide +kernel
theorem dX3_runEnd_64 : decode cX3_runEnd 64 = .ok (.ifCond .eq 20, 3) := by decide +kernel
theorem dX3_runEnd_67 : decode cX3_runEnd 67 = .ok (.goto 14, 3) := by decide +kernel
theorem dX3_runEnd_70 : decode cX3_runEnd 70 = .ok (.aload_n 0, 1) := by decide +kernel
theorem dX3_runEnd_71 : decode cX3_runEnd 71 = .ok (.iload 4, 2) := by decide +kernel
theorem dX3_runEnd_73 : decode cX3_runEnd 73 = .ok (.iconst 1, 1) := by decide +kernel
theorem dX3_runEnd_74 : decode cX3_runEnd 74 = .ok (.iadd, 1) := by decide +kernel
theorem dX3_runEnd_75 : decode cX3_runEnd 75 = .ok (.invokevirtual 31, 3) := by decide +kernel
theorem dX3_runEnd_78 : decode cX3_runEnd 78 = .ok (.ifCond .ne 6, 3) := by decide +kernel
theorem dX3_runEnd_81 : decode cX3_runEnd 81 = .ok (.iload 4, 2) := by decide +kernel
theorem dX3_runEnd_83 : decode cX3_runEnd 83 = .ok (.ireturn, 1) := by decide +kernel
theorem dX3_runEnd_84 : decode cX3_runEnd 84 = .ok (.iinc 4 1, 3) := by decide +kernel
theorem dX3_runEnd_87 : decode cX3_runEnd 87 = .ok (.goto (-82), 3) := by decide +kernel
theorem dX3_runEnd_90 : decode cX3_runEnd 90 = .ok (.iload_n 1, 1) := by decide +kernel
theorem dX3_runEnd_91 : decode cX3_runEnd 91 = .ok (.iconst (-1), 1) := by decide +kernel
theorem dX3_runEnd_92 : decode cX3_runEnd 92 = .ok (.if_icmp .ne 7, 3) := by decide +kernel
theorem dX3_runEnd_95 : decode cX3_runEnd 95 = .ok (.iload_n 3, 1) := by decide +kernel
theorem dX3_runEnd_96 : decode cX3_runEnd 96 = .ok (.goto 5, 3) := by decide +kernel
theorem dX3_runEnd_99 : decode cX3_runEnd 99 = .ok (.bipush (-4), 2) := by decide +kernel
theorem dX3_runEnd_101 : decode cX3_runEnd 101 = .ok (.ireturn, 1) := by decide +kernel
theorem dX4_init_0 : decode cX4_init 0 = .ok (.aload_n 0, 1) := by decide +kernel
theorem dX4_init_1 : decode cX4_init 1 = .ok (.invokespecial 1, 3) := by decide +kernel
theorem dX4_init_4 : decode cX4_init 4 = .ok (.return_, 1) := by decide +kernel
theorem dX4_becomeBox_0 : decode cX4_becomeBox 0 = .ok (.aload_n 0, 1) := by decide +kernel
theorem dX4_becomeBox_1 : decode cX4_becomeBox 1 = .ok (.iload_n 1, 1) := by decide +kernel
theorem dX4_becomeBox_2 : decode cX4_becomeBox 2 = .ok (.putfield 7, 3) := by decide +kernel
theorem dX4_becomeBox_5 : decode cX4_becomeBox 5 = .ok (.aload_n 0, 1) := by decide +kernel
theorem dX4_becomeBox_6 : decode cX4_becomeBox 6 = .ok (.iconst 0, 1) := by decide +kernel
theorem dX4_becomeBox_7 : decode cX4_becomeBox 7 = .ok (.putfield 13, 3) := by decide +kernel
theorem dX4_becomeBox_10 : decode cX4_becomeBox 10 = .ok (.aload_n 0, 1) := by decide +kernel
theorem dX4_becomeBox_11 : decode cX4_becomeBox 11 = .ok (.iload_n 2, 1) := by decide +kernel
theorem dX4_becomeBox_12 : decode cX4_becomeBox 12 = .ok (.putfield 16, 3) := by decide +kernel
theorem dX4_becomeBox_15 : decode cX4_becomeBox 15 = .ok (.aload_n 0, 1) := by decide +kernel
theorem dX4_becomeBox_16 : decode cX4_becomeBox 16 = .ok (.iload_n 3, 1) := by decide +kernel
theorem dX4_becomeBox_17 : decode cX4_becomeBox 17 = .ok (.putfield 20, 3) := by decide +kernel
theorem dX4_becomeBox_20 : decode cX4_becomeBox 20 = .ok (.aload_n 0, 1) := by decide +kernel
theorem dX4_becomeBox_21 : decode cX4_becomeBox 21 = .ok (.iload 4, 2) := by decide +kernel
theorem dX4_becomeBox_23 : decode cX4_becomeBox 23 = .ok (.putfield 23, 3) := by decide +kernel
theorem dX4_becomeBox_26 : decode cX4_becomeBox 26 = .ok (.aload_n 0, 1) := by decide +kernel
theorem dX4_becomeBox_27 : decode cX4_becomeBox 27 = .ok (.iload 5, 2) := by decide +kernel
theorem dX4_becomeBox_29 : decode cX4_becomeBox 29 = .ok (.putfield 26, 3) := by decide +kernel
theorem dX4_becomeBox_32 : decode cX4_becomeBox 32 = .ok (.return_, 1) := by decide +kernel
theorem dX4_becomeDisc_0 : decode cX4_becomeDisc 0 = .ok (.aload_n 0, 1) := by decide +kernel
theorem dX4_becomeDisc_1 : decode cX4_becomeDisc 1 = .ok (.iload_n 1, 1) := by decide +kernel
theorem dX4_becomeDisc_2 : decode cX4_becomeDisc 2 = .ok (.putfield 7, 3) := by decide +kernel
theorem dX4_becomeDisc_5 : decode cX4_becomeDisc 5 = .ok (.aload_n 0, 1) := by decide +kernel
theorem dX4_becomeDisc_6 : decode cX4_becomeDisc 6 = .ok (.iconst 1, 1) := by decide +kernel
theorem dX4_becomeDisc_7 : decode cX4_becomeDisc 7 = .ok (.putfield 13, 3) := by decide +kernel
theorem dX4_becomeDisc_10 : decode cX4_becomeDisc 10 = .ok (.aload_n 0, 1) := by decide +kernel
theorem dX4_becomeDisc_11 : decode cX4_becomeDisc 11 = .ok (.iload_n 2, 1) := by decide +kernel
theorem dX4_becomeDisc_12 : decode cX4_becomeDisc 12 = .ok (.putfield 16, 3) := by decide +kernel
theorem dX4_becomeDisc_15 : decode cX4_becomeDisc 15 = .ok (.aload_n 0, 1) := by decide +kernel
theorem dX4_becomeDisc_16 : decode cX4_becomeDisc 16 = .ok (.iload_n 3, 1) := by decide +kernel
theorem dX4_becomeDisc_17 : decode cX4_becomeDisc 17 = .ok (.putfield 20, 3) := by decide +kernel
theorem dX4_becomeDisc_20 : decode cX4_becomeDisc 20 = .ok (.aload_n 0, 1) := by decide +kernel
theorem dX4_becomeDisc_21 : decode cX4_becomeDisc 21 = .ok (.iload 4, 2) := by decide +kernel
theorem dX4_becomeDisc_23 : decode cX4_becomeDisc 23 = .ok (.putfield 23, 3) := by decide +kernel
theorem dX4_becomeDisc_26 : decode cX4_becomeDisc 26 = .ok (.aload_n 0, 1) := by decide +kernel
theorem dX4_becomeDisc_27 : decode cX4_becomeDisc 27 = .ok (.iconst 0, 1) := by decide +kernel
theorem dX4_becomeDisc_28 : decode cX4_becomeDisc 28 = .ok (.putfield 26, 3) := by decide +kernel
theorem dX4_becomeDisc_31 : decode cX4_becomeDisc 31 = .ok (.return_, 1) := by decide +kernel
theorem dX4_putsOn_0 : decode cX4_putsOn 0 = .ok (.aload_n 0, 1) := by decide +kernel
theorem dX4_putsOn_1 : decode cX4_putsOn 1 = .ok (.getfield 7, 3) := by decide +kernel
theorem dX4_putsOn_4 : decode cX4_putsOn 4 = .ok (.ireturn, 1) := by decide +kernel
theorem dX4_has_0 : decode cX4_has 0 = .ok (.aload_n 0, 1) := by decide +kernel
theorem dX4_has_1 : decode cX4_has 1 = .ok (.getfield 13, 3) := by decide +kernel
theorem dX4_has_4 : decode cX4_has 4 = .ok (.ifCond .eq 45, 3) := by decide +kernel
theorem dX4_has_7 : decode cX4_has 7 = .ok (.iload_n 1, 1) := by decide +kernel
theorem dX4_has_8 : decode cX4_has 8 = .ok (.aload_n 0, 1) := by decide +kernel
theorem dX4_has_9 : decode cX4_has 9 = .ok (.getfield 16, 3) := by decide +kernel
theorem dX4_has_12 : decode cX4_has 12 = .ok (.isub, 1) := by decide +kernel
theorem dX4_has_13 : decode cX4_has 13 = .ok (.istore_n 3, 1) := by decide +kernel
theorem dX4_has_14 : decode cX4_has 14 = .ok (.iload_n 2, 1) := by decide +kernel
theorem dX4_has_15 : decode cX4_has 15 = .ok (.aload_n 0, 1) := by decide +kernel
theorem dX4_has_16 : decode cX4_has 16 = .ok (.getfield 20, 3) := by decide +kernel
theorem dX4_has_19 : decode cX4_has 19 = .ok (.isub, 1) := by decide +kernel
theorem dX4_has_20 : decode cX4_has 20 = .ok (.istore 4, 2) := by decide +kernel
theorem dX4_has_22 : decode cX4_has 22 = .ok (.iload_n 3, 1) := by decide +kernel
theorem dX4_has_23 : decode cX4_has 23 = .ok (.iload_n 3, 1) := by decide +kernel
theorem dX4_has_24 : decode cX4_has 24 = .ok (.imul, 1) := by decide +kernel
theorem dX4_has_25 : decode cX4_has 25 = .ok (.iload 4, 2) := by decide +kernel
theorem dX4_has_27 : decode cX4_has 27 = .ok (.iload 4, 2) := by decide +kernel
theorem dX4_has_29 : decode cX4_has 29 = .ok (.imul, 1) := by decide +kernel
theorem dX4_has_30 : decode cX4_has 30 = .ok (.iadd, 1) := by decide +kernel
theorem dX4_has_31 : decode cX4_has 31 = .ok (.aload_n 0, 1) := by decide +kernel
theorem dX4_has_32 : decode cX4_has 32 = .ok (.getfield 23, 3) := by decide +kernel
theorem dX4_has_35 : decode cX4_has 35 = .ok (.aload_n 0, 1) := by decide +kernel
theorem dX4_has_36 : decode cX4_has 36 = .ok (.getfield 23, 3) := by decide +kernel
theorem dX4_has_39 : decode cX4_has 39 = .ok (.imul, 1) := by decide +kernel
theorem dX4_has_40 : decode cX4_has 40 = .ok (.if_icmp .gt 7, 3) := by decide +kernel
theorem dX4_has_43 : decode cX4_has 43 = .ok (.iconst 1, 1) := by decide +kernel
theorem dX4_has_44 : decode cX4_has 44 = .ok (.goto 4, 3) := by decide +kernel
theorem dX4_has_47 : decode cX4_has 47 = .ok (.iconst 0, 1) := by decide +kernel
theorem dX4_has_48 : decode cX4_has 48 = .ok (.ireturn, 1) := by decide +kernel
theorem dX4_has_49 : decode cX4_has 49 = .ok (.iload_n 1, 1) := by decide +kernel
theorem dX4_has_50 : decode cX4_has 50 = .ok (.aload_n 0, 1) := by decide +kernel
theorem dX4_has_51 : decode cX4_has 51 = .ok (.getfield 16, 3) := by decide +kernel
theorem dX4_has_54 : decode cX4_has 54 = .ok (.if_icmp .lt 31, 3) := by decide +kernel
theorem dX4_has_57 : decode cX4_has 57 = .ok (.iload_n 1, 1) := by decide +kernel
theorem dX4_has_58 : decode cX4_has 58 = .ok (.aload_n 0, 1) := by decide +kernel
theorem dX4_has_59 : decode cX4_has 59 = .ok (.getfield 23, 3) := by decide +kernel
theorem dX4_has_62 : decode cX4_has 62 = .ok (.if_icmp .gt 23, 3) := by decide +kernel
theorem dX4_has_65 : decode cX4_has 65 = .ok (.iload_n 2, 1) := by decide +kernel
theorem dX4_has_66 : decode cX4_has 66 = .ok (.aload_n 0, 1) := by decide +kernel
theorem dX4_has_67 : decode cX4_has 67 = .ok (.getfield 20, 3) := by decide +kernel
theorem dX4_has_70 : decode cX4_has 70 = .ok (.if_icmp .lt 15, 3) := by decide +kernel
theorem dX4_has_73 : decode cX4_has 73 = .ok (.iload_n 2, 1) := by decide +kernel
theorem dX4_has_74 : decode cX4_has 74 = .ok (.aload_n 0, 1) := by decide +kernel
theorem dX4_has_75 : decode cX4_has 75 = .ok (.getfield 26, 3) := by decide +kernel
theorem dX4_has_78 : decode cX4_has 78 = .ok (.if_icmp .gt 7, 3) := by decide +kernel
theorem dX4_has_81 : decode cX4_has 81 = .ok (.iconst 1, 1) := by decide +kernel
theorem dX4_has_82 : decode cX4_has 82 = .ok (.goto 4, 3) := by decide +kernel
theorem dX4_has_85 : decode cX4_has 85 = .ok (.iconst 0, 1) := by decide +kernel
theorem dX4_has_86 : decode cX4_has 86 = .ok (.ireturn, 1) := by decide +kernel
theorem dX5_init_0 : decode cX5_init 0 = .ok (.aload_n 0, 1) := by decide +kernel
theorem dX5_init_1 : decode cX5_init 1 = .ok (.invokespecial 3, 3) := by decide +kernel
theorem dX5_init_4 : decode cX5_init 4 = .ok (.aload_n 0, 1) := by decide +kernel
theorem dX5_init_5 : decode cX5_init 5 = .ok (.new 9, 3) := by decide +kernel
theorem dX5_init_8 : decode cX5_init 8 = .ok (.dup, 1) := by decide +kernel
theorem dX5_init_9 : decode cX5_init 9 = .ok (.invokespecial 11, 3) := by decide +kernel
theorem dX5_init_12 : decode cX5_init 12 = .ok (.putfield 12, 3) := by decide +kernel
theorem dX5_init_15 : decode cX5_init 15 = .ok (.aload_n 0, 1) := by decide +kernel
theorem dX5_init_16 : decode cX5_init 16 = .ok (.bipush 8, 2) := by decide +kernel
theorem dX5_init_18 : decode cX5_init 18 = .ok (.anewarray 18, 3) := by decide +kernel
theorem dX5_init_21 : decode cX5_init 21 = .ok (.putfield 20, 3) := by decide +kernel
theorem dX5_init_24 : decode cX5_init 24 = .ok (.iconst 0, 1) := by decide +kernel
theorem dX5_init_25 : decode cX5_init 25 = .ok (.istore_n 1, 1) := by decide +kernel
theorem dX5_init_26 : decode cX5_init 26 = .ok (.iload_n 1, 1) := by decide +kernel
theorem dX5_init_27 : decode cX5_init 27 = .ok (.bipush 8, 2) := by decide +kernel
theorem dX5_init_29 : decode cX5_init 29 = .ok (.if_icmp .ge 22, 3) := by decide +kernel
theorem dX5_init_32 : decode cX5_init 32 = .ok (.aload_n 0, 1) := by decide +kernel
theorem dX5_init_33 : decode cX5_init 33 = .ok (.getfield 20, 3) := by decide +kernel
theorem dX5_init_36 : decode cX5_init 36 = .ok (.iload_n 1, 1) := by decide +kernel
theorem dX5_init_37 : decode cX5_init 37 = .ok (.new 18, 3) := by decide +kernel
theorem dX5_init_40 : decode cX5_init 40 = .ok (.dup, 1) := by decide +kernel
theorem dX5_init_41 : decode cX5_init 41 = .ok (.invokespecial 24, 3) := by decide +kernel
theorem dX5_init_44 : decode cX5_init 44 = .ok (.aastore, 1) := by decide +kernel
theorem dX5_init_45 : decode cX5_init 45 = .ok (.iinc 1 1, 3) := by decide +kernel
theorem dX5_init_48 : decode cX5_init 48 = .ok (.goto (-22), 3) := by decide +kernel
theorem dX5_init_51 : decode cX5_init 51 = .ok (.aload_n 0, 1) := by decide +kernel
theorem dX5_init_52 : decode cX5_init 52 = .ok (.iconst 1, 1) := by decide +kernel
theorem dX5_init_53 : decode cX5_init 53 = .ok (.iconst 0, 1) := by decide +kernel
theorem dX5_init_54 : decode cX5_init 54 = .ok (.invokevirtual 25, 3) := by decide +kernel
theorem dX5_init_57 : decode cX5_init 57 = .ok (.return_, 1) := by decide +kernel
theorem dX5_begin_0 : decode cX5_begin 0 = .ok (.aload_n 0, 1) := by decide +kernel
theorem dX5_begin_1 : decode cX5_begin 1 = .ok (.iload_n 1, 1) := by decide +kernel
theorem dX5_begin_2 : decode cX5_begin 2 = .ok (.putfield 29, 3) := by decide +kernel
theorem dX5_begin_5 : decode cX5_begin 5 = .ok (.aload_n 0, 1) := by decide +kernel
theorem dX5_begin_6 : decode cX5_begin 6 = .ok (.iload_n 2, 1) := by decide +kernel
theorem dX5_begin_7 : decode cX5_begin 7 = .ok (.putfield 33, 3) := by decide +kernel
theorem dX5_begin_10 : decode cX5_begin 10 = .ok (.aload_n 0, 1) := by decide +kernel
theorem dX5_begin_11 : decode cX5_begin 11 = .ok (.iconst 0, 1) := by decide +kernel
theorem dX5_begin_12 : decode cX5_begin 12 = .ok (.putfield 36, 3) := by decide +kernel
theorem dX5_begin_15 : decode cX5_begin 15 = .ok (.aload_n 0, 1) := by decide +kernel
theorem dX5_begin_16 : decode cX5_begin 16 = .ok (.iload_n 1, 1) := by decide +kernel
theorem dX5_begin_17 : decode cX5_begin 17 = .ok (.putfield 39, 3) := by decide +kernel
theorem dX5_begin_20 : decode cX5_begin 20 = .ok (.aload_n 0, 1) := by decide +kernel
theorem dX5_begin_21 : decode cX5_begin 21 = .ok (.iconst 0, 1) := by decide +kernel
theorem dX5_begin_22 : decode cX5_begin 22 = .ok (.putfield 42, 3) := by decide +kernel
theorem dX5_begin_25 : decode cX5_begin 25 = .ok (.aload_n 0, 1) := by decide +kernel
theorem dX5_begin_26 : decode cX5_begin 26 = .ok (.getfield 12, 3) := by decide +kernel
theorem dX5_begin_29 : decode cX5_begin 29 = .ok (.iconst 0, 1) := by decide +kernel
theorem dX5_begin_30 : decode cX5_begin 30 = .ok (.putfield 45, 3) := by decide +kernel
theorem dX5_begin_33 : decode cX5_begin 33 = .ok (.return_, 1) := by decide +kernel
theorem dX5_side_0 : decode cX5_side 0 = .ok (.iconst 1, 1) := by decide +kernel
theorem dX5_side_1 : decode cX5_side 1 = .ok (.aload_n 0, 1) := by decide +kernel
theorem dX5_side_2 : decode cX5_side 2 = .ok (.getfield 29, 3) := by decide +kernel
theorem dX5_side_5 : decode cX5_side 5 = .ok (.ishl, 1) := by decide +kernel
theorem dX5_side_6 : decode cX5_side 6 = .ok (.ireturn, 1) := by decide +kernel
theorem dX5_tileSize_0 : decode cX5_tileSize 0 = .ok (.iconst 1, 1) := by decide +kernel
theorem dX5_tileSize_1 : decode cX5_tileSize 1 = .ok (.iconst 2, 1) := by decide +kernel
theorem dX5_tileSize_2 : decode cX5_tileSize 2 = .ok (.aload_n 0, 1) := by decide +kernel
theorem dX5_tileSize_3 : decode cX5_tileSize 3 = .ok (.getfield 29, 3) := by decide +kernel
theorem dX5_tileSize_6 : decode cX5_tileSize 6 = .ok (.iload_n 1, 1) := by decide +kernel
theorem dX5_tileSize_7 : decode cX5_tileSize 7 = .ok (.isub, 1) := by decide +kernel
theorem dX5_tileSize_8 : decode cX5_tileSize 8 = .ok (.imul, 1) := by decide +kernel
theorem dX5_tileSize_9 : decode cX5_tileSize 9 = .ok (.ishl, 1) := by decide +kernel
theorem dX5_tileSize_10 : decode cX5_tileSize 10 = .ok (.ireturn, 1) := by decide +kernel
theorem dX5_tileAround_0 : decode cX5_tileAround 0 = .ok (.iload_n 1, 1) := by decide +kernel
theorem dX5_tileAround_1 : decode cX5_tileAround 1 = .ok (.iconst 2, 1) := by decide +kernel
theorem dX5_tileAround_2 : decode cX5_tileAround 2 = .ok (.aload_n 0, 1) := by decide +kernel
theorem dX5_tileAround_3 : decode cX5_tileAround 3 = .ok (.getfield 29, 3) := by decide +kernel
theorem dX5_tileAround_6 : decode cX5_tileAround 6 = .ok (.iload_n 2, 1) := by decide +kernel
theorem dX5_tileAround_7 : decode cX5_tileAround 7 = .ok (.isub, 1) := by decide +kernel
theorem dX5_tileAround_8 : decode cX5_tileAround 8 = .ok (.imul, 1) := by decide +kernel
theorem dX5_tileAround_9 : decode cX5_tileAround 9 = .ok (.ishr, 1) := by decide +kernel
theorem dX5_tileAround_10 : decode cX5_tileAround 10 = .ok (.ireturn, 1) := by decide +kernel
theorem dX5_hasCell_0 : decode cX5_hasCell 0 = .ok (.iload_n 1, 1) := by decide +kernel
theorem dX5_hasCell_1 : decode cX5_hasCell 1 = .ok (.ifCond .lt 27, 3) := by decide +kernel
theorem dX5_hasCell_4 : decode cX5_hasCell 4 = .ok (.iload_n 1, 1) := by decide +kernel
theorem dX5_hasCell_5 : decode cX5_hasCell 5 = .ok (.aload_n 0, 1) := by decide +kernel
theorem dX5_hasCell_6 : decode cX5_hasCell 6 = .ok (.invokevirtual 48, 3) := by decide +kernel
theorem dX5_hasCell_9 : decode cX5_hasCell 9 = .ok (.if_icmp .ge 19, 3) := by decide +kernel
theorem dX5_hasCell_12 : decode cX5_hasCell 12 = .ok (.iload_n 2, 1) := by decide +kernel
theorem dX5_hasCell_13 : decode cX5_hasCell 13 = .ok (.ifCond .lt 15, 3) := by decide +kernel
theorem dX5_hasCell_16 : decode cX5_hasCell 16 = .ok (.iload_n 2, 1) := by decide +kernel
theorem dX5_hasCell_17 : decode cX5_hasCell 17 = .ok (.aload_n 0, 1) := by decide +kernel
theorem dX5_hasCell_18 : decode cX5_hasCell 18 = .ok (.invokevirtual 48, 3) := by decide +kernel
theorem dX5_hasCell_21 : decode cX5_hasCell 21 = .ok (.if_icmp .ge 7, 3) := by decide +kernel
theorem dX5_hasCell_24 : decode cX5_hasCell 24 = .ok (.iconst 1, 1) := by decide +kernel
theorem dX5_hasCell_25 : decode cX5_hasCell 25 = .ok (.goto 4, 3) := by decide +kernel
theorem dX5_hasCell_28 : decode cX5_hasCell 28 = .ok (.iconst 0, 1) := by decide +kernel
theorem dX5_hasCell_29 : decode cX5_hasCell 29 = .ok (.ireturn, 1) := by decide +kernel
theorem dX5_hasTile_0 : decode cX5_hasTile 0 = .ok (.iload_n 1, 1) := by decide +kernel
theorem dX5_hasTile_1 : decode cX5_hasTile 1 = .ok (.ifCond .lt 28, 3) := by decide +kernel
theorem dX5_hasTile_4 : decode cX5_hasTile 4 = .ok (.iload_n 1, 1) := by decide +kernel
theorem dX5_hasTile_5 : decode cX5_hasTile 5 = .ok (.aload_n 0, 1) := by decide +kernel
theorem dX5_hasTile_6 : decode cX5_hasTile 6 = .ok (.getfield 29, 3) := by decide +kernel
theorem dX5_hasTile_9 : decode cX5_hasTile 9 = .ok (.if_icmp .gt 20, 3) := by decide +kernel
theorem dX5_hasTile_12 : decode cX5_hasTile 12 = .ok (.iload_n 2, 1) := by decide +kernel
theorem dX5_hasTile_13 : decode cX5_hasTile 13 = .ok (.ifCond .lt 16, 3) := by decide +kernel
theorem dX5_hasTile_16 : decode cX5_hasTile 16 = .ok (.iload_n 2, 1) := by decide +kernel
theorem dX5_hasTile_17 : decode cX5_hasTile 17 = .ok (.iconst 1, 1) := by decide +kernel
theorem dX5_hasTile_18 : decode cX5_hasTile 18 = .ok (.iconst 2, 1) := by decide +kernel
theorem dX5_hasTile_19 : decode cX5_hasTile 19 = .ok (.iload_n 1, 1) := by decide +kernel
theorem dX5_hasTile_20 : decode cX5_hasTile 20 = .ok (.imul, 1) := by decide +kernel
theorem dX5_hasTile_21 : decode cX5_hasTile 21 = .ok (.ishl, 1) := by decide +kernel
theorem dX5_hasTile_22 : decode cX5_hasTile 22 = .ok (.if_icmp .ge 7, 3) := by decide +kernel
theorem dX5_hasTile_25 : decode cX5_hasTile 25 = .ok (.iconst 1, 1) := by decide +kernel
theorem dX5_hasTile_26 : decode cX5_hasTile 26 = .ok (.goto 4, 3) := by decide +kernel
theorem dX5_hasTile_29 : decode cX5_hasTile 29 = .ok (.iconst 0, 1) := by decide +kernel
theorem dX5_hasTile_30 : decode cX5_hasTile 30 = .ok (.ireturn, 1) := by decide +kernel
theorem dX5_addBox_0 : decode cX5_addBox 0 = .ok (.aload_n 0, 1) := by decide +kernel
theorem dX5_addBox_1 : decode cX5_addBox 1 = .ok (.getfield 42, 3) := by decide +kernel
theorem dX5_addBox_4 : decode cX5_addBox 4 = .ok (.bipush 8, 2) := by decide +kernel
theorem dX5_addBox_6 : decode cX5_addBox 6 = .ok (.if_icmp .lt 5, 3) := by decide +kernel
theorem dX5_addBox_9 : decode cX5_addBox 9 = .ok (.iconst 0, 1) := by decide +kernel
theorem dX5_addBox_10 : decode cX5_addBox 10 = .ok (.ireturn, 1) := by decide +kernel
theorem dX5_addBox_11 : decode cX5_addBox 11 = .ok (.aload_n 0, 1) := by decide +kernel
theorem dX5_addBox_12 : decode cX5_addBox 12 = .ok (.getfield 20, 3) := by decide +kernel
theorem dX5_addBox_15 : decode cX5_addBox 15 = .ok (.aload_n 0, 1) := by decide +kernel
theorem dX5_addBox_16 : decode cX5_addBox 16 = .ok (.getfield 42, 3) := by decide +kernel
theorem dX5_addBox_19 : decode cX5_addBox 19 = .ok (.aaload, 1) := by decide +kernel
theorem dX5_addBox_20 : decode cX5_addBox 20 = .ok (.iload_n 1, 1) := by decide +kernel
theorem dX5_addBox_21 : decode cX5_addBox 21 = .ok (.iload_n 2, 1) := by decide +kernel
theorem dX5_addBox_22 : decode cX5_addBox 22 = .ok (.iload_n 3, 1) := by decide +kernel
theorem dX5_addBox_23 : decode cX5_addBox 23 = .ok (.iload 4, 2) := by decide +kernel
theorem dX5_addBox_25 : decode cX5_addBox 25 = .ok (.iload 5, 2) := by decide +kernel
theorem dX5_addBox_27 : decode cX5_addBox 27 = .ok (.invokevirtual 52, 3) := by decide +kernel
theorem dX5_addBox_30 : decode cX5_addBox 30 = .ok (.aload_n 0, 1) := by decide +kernel
theorem dX5_addBox_31 : decode cX5_addBox 31 = .ok (.dup, 1) := by decide +kernel
theorem dX5_addBox_32 : decode cX5_addBox 32 = .ok (.getfield 42, 3) := by decide +kernel
theorem dX5_addBox_35 : decode cX5_addBox 35 = .ok (.iconst 1, 1) := by decide +kernel
theorem dX5_addBox_36 : decode cX5_addBox 36 = .ok (.iadd, 1) := by decide +kernel
theorem dX5_addBox_37 : decode cX5_addBox 37 = .ok (.putfield 42, 3) := by decide +kernel
theorem dX5_addBox_40 : decode cX5_addBox 40 = .ok (.iconst 1, 1) := by decide +kernel
theorem dX5_addBox_41 : decode cX5_addBox 41 = .ok (.ireturn, 1) := by decide +kernel
theorem dX5_addDisc_0 : decode cX5_addDisc 0 = .ok (.aload_n 0, 1) := by decide +kernel
theorem dX5_addDisc_1 : decode cX5_addDisc 1 = .ok (.getfield 42, 3) := by decide +kernel
theorem dX5_addDisc_4 : decode cX5_addDisc 4 = .ok (.bipush 8, 2) := by decide +kernel
theorem dX5_addDisc_6 : decode cX5_addDisc 6 = .ok (.if_icmp .lt 5, 3) := by decide +kernel
theorem dX5_addDisc_9 : decode cX5_addDisc 9 = .ok (.iconst 0, 1) := by decide +kernel
theorem dX5_addDisc_10 : decode cX5_addDisc 10 = .ok (.ireturn, 1) := by decide +kernel
theorem dX5_addDisc_11 : decode cX5_addDisc 11 = .ok (.aload_n 0, 1) := by decide +kernel
theorem dX5_addDisc_12 : decode cX5_addDisc 12 = .ok (.getfield 20, 3) := by decide +kernel
theorem dX5_addDisc_15 : decode cX5_addDisc 15 = .ok (.aload_n 0, 1) := by decide +kernel
theorem dX5_addDisc_16 : decode cX5_addDisc 16 = .ok (.getfield 42, 3) := by decide +kernel
theorem dX5_addDisc_19 : decode cX5_addDisc 19 = .ok (.aaload, 1) := by decide +kernel
theorem dX5_addDisc_20 : decode cX5_addDisc 20 = .ok (.iload_n 1, 1) := by decide +kernel
theorem dX5_addDisc_21 : decode cX5_addDisc 21 = .ok (.iload_n 2, 1) := by decide +kernel
theorem dX5_addDisc_22 : decode cX5_addDisc 22 = .ok (.iload_n 3, 1) := by decide +kernel
theorem dX5_addDisc_23 : decode cX5_addDisc 23 = .ok (.iload 4, 2) := by decide +kernel
theorem dX5_addDisc_25 : decode cX5_addDisc 25 = .ok (.invokevirtual 56, 3) := by decide +kernel
theorem dX5_addDisc_28 : decode cX5_addDisc 28 = .ok (.aload_n 0, 1) := by decide +kernel
theorem dX5_addDisc_29 : decode cX5_addDisc 29 = .ok (.dup, 1) := by decide +kernel
theorem dX5_addDisc_30 : decode cX5_addDisc 30 = .ok (.getfield 42, 3) := by decide +kernel
theorem dX5_addDisc_33 : decode cX5_addDisc 33 = .ok (.iconst 1, 1) := by decide +kernel
theorem dX5_addDisc_34 : decode cX5_addDisc 34 = .ok (.iadd, 1) := by decide +kernel
theorem dX5_addDisc_35 : decode cX5_addDisc 35 = .ok (.putfield 42, 3) := by decide +kernel
theorem dX5_addDisc_38 : decode cX5_addDisc 38 = .ok (.iconst 1, 1) := by decide +kernel
theorem dX5_addDisc_39 : decode cX5_addDisc 39 = .ok (.ireturn, 1) := by decide +kernel
theorem dX5_removePart_0 : decode cX5_removePart 0 = .ok (.iload_n 1, 1) := by decide +kernel
theorem dX5_removePart_1 : decode cX5_removePart 1 = .ok (.ifCond .lt 11, 3) := by decide +kernel
theorem dX5_removePart_4 : decode cX5_removePart 4 = .ok (.iload_n 1, 1) := by decide +kernel
theorem dX5_removePart_5 : decode cX5_removePart 5 = .ok (.aload_n 0, 1) := by decide +kernel
theorem dX5_removePart_6 : decode cX5_removePart 6 = .ok (.getfield 42, 3) := by decide +kernel
theorem dX5_removePart_9 : decode cX5_removePart 9 = .ok (.if_icmp .lt 5, 3) := by decide +kernel
theorem dX5_removePart_12 : decode cX5_removePart 12 = .ok (.iconst 0, 1) := by decide +kernel
theorem dX5_removePart_13 : decode cX5_removePart 13 = .ok (.ireturn, 1) := by decide +kernel
theorem dX5_removePart_14 : decode cX5_removePart 14 = .ok (.aload_n 0, 1) := by decide +kernel
theorem dX5_removePart_15 : decode cX5_removePart 15 = .ok (.getfield 20, 3) := by decide +kernel
theorem dX5_removePart_18 : decode cX5_removePart 18 = .ok (.iload_n 1, 1) := by decide +kernel
theorem dX5_removePart_19 : decode cX5_removePart 19 = .ok (.aaload, 1) := by decide +kernel
theorem dX5_removePart_20 : decode cX5_removePart 20 = .ok (.astore_n 2, 1) := by decide +kernel
theorem dX5_removePart_21 : decode cX5_removePart 21 = .ok (.aload_n 0, 1) := by decide +kernel
theorem dX5_removePart_22 : decode cX5_removePart 22 = .ok (.dup, 1) := by decide +kernel
theorem dX5_removePart_23 : decode cX5_removePart 23 = .ok (.getfield 42, 3) := by decide +kernel
theorem dX5_removePart_26 : decode cX5_removePart 26 = .ok (.iconst 1, 1) := by decide +kernel
theorem dX5_removePart_27 : decode cX5_removePart 27 = .ok (.isub, 1) := by decide +kernel
theorem dX5_removePart_28 : decode cX5_removePart 28 = .ok (.putfield 42, 3) := by decide +kernel
theorem dX5_removePart_31 : decode cX5_removePart 31 = .ok (.iload_n 1, 1) := by decide +kernel
theorem dX5_removePart_32 : decode cX5_removePart 32 = .ok (.istore_n 3, 1) := by decide +kernel
theorem dX5_removePart_33 : decode cX5_removePart 33 = .ok (.iload_n 3, 1) := by decide +kernel
theorem dX5_removePart_34 : decode cX5_removePart 34 = .ok (.aload_n 0, 1) := by decide +kernel
theorem dX5_removePart_35 : decode cX5_removePart 35 = .ok (.getfield 42, 3) := by decide +kernel
theorem dX5_removePart_38 : decode cX5_removePart 38 = .ok (.if_icmp .ge 23, 3) := by decide +kernel
theorem dX5_removePart_41 : decode cX5_removePart 41 = .ok (.aload_n 0, 1) := by decide +kernel
theorem dX5_removePart_42 : decode cX5_removePart 42 = .ok (.getfield 20, 3) := by decide +kernel
theorem dX5_removePart_45 : decode cX5_removePart 45 = .ok (.iload_n 3, 1) := by decide +kernel
theorem dX5_removePart_46 : decode cX5_removePart 46 = .ok (.aload_n 0, 1) := by decide +kernel
theorem dX5_removePart_47 : decode cX5_removePart 47 = .ok (.getfield 20, 3) := by decide +kernel
theorem dX5_removePart_50 : decode cX5_removePart 50 = .ok (.iload_n 3, 1) := by decide +kernel
theorem dX5_removePart_51 : decode cX5_removePart 51 = .ok (.iconst 1, 1) := by decide +kernel
theorem dX5_removePart_52 : decode cX5_removePart 52 = .ok (.iadd, 1) := by decide +kernel
theorem dX5_removePart_53 : decode cX5_removePart 53 = .ok (.aaload, 1) := by decide +kernel
theorem dX5_removePart_54 : decode cX5_removePart 54 = .ok (.aastore, 1) := by decide +kernel
theorem dX5_removePart_55 : decode cX5_removePart 55 = .ok (.iinc 3 1, 3) := by decide +kernel
theorem dX5_removePart_58 : decode cX5_removePart 58 = .ok (.goto (-25), 3) := by decide +kernel
theorem dX5_removePart_61 : decode cX5_removePart 61 = .ok (.aload_n 0, 1) := by decide +kernel
theorem dX5_removePart_62 : decode cX5_removePart 62 = .ok (.getfield 20, 3) := by decide +kernel
theorem dX5_removePart_65 : decode cX5_removePart 65 = .ok (.aload_n 0, 1) := by decide +kernel
theorem dX5_removePart_66 : decode cX5_removePart 66 = .ok (.getfield 42, 3) := by decide +kernel
theorem dX5_removePart_69 : decode cX5_removePart 69 = .ok (.aload_n 2, 1) := by decide +kernel
theorem dX5_removePart_70 : decode cX5_removePart 70 = .ok (.aastore, 1) := by decide +kernel
theorem dX5_removePart_71 : decode cX5_removePart 71 = .ok (.iconst 1, 1) := by decide +kernel
theorem dX5_removePart_72 : decode cX5_removePart 72 = .ok (.ireturn, 1) := by decide +kernel
theorem dX5_inShape_0 : decode cX5_inShape 0 = .ok (.aload_n 0, 1) := by decide +kernel
theorem dX5_inShape_1 : decode cX5_inShape 1 = .ok (.getfield 42, 3) := by decide +kernel
theorem dX5_inShape_4 : decode cX5_inShape 4 = .ok (.iconst 1, 1) := by decide +kernel
theorem dX5_inShape_5 : decode cX5_inShape 5 = .ok (.isub, 1) := by decide +kernel
theorem dX5_inShape_6 : decode cX5_inShape 6 = .ok (.istore_n 3, 1) := by decide +kernel
theorem dX5_inShape_7 : decode cX5_inShape 7 = .ok (.iload_n 3, 1) := by decide +kernel
theorem dX5_inShape_8 : decode cX5_inShape 8 = .ok (.ifCond .lt 33, 3) := by decide +kernel
theorem dX5_inShape_11 : decode cX5_inShape 11 = .ok (.aload_n 0, 1) := by decide +kernel
theorem dX5_inShape_12 : decode cX5_inShape 12 = .ok (.getfield 20, 3) := by decide +kernel
theorem dX5_inShape_15 : decode cX5_inShape 15 = .ok (.iload_n 3, 1) := by decide +kernel
theorem dX5_inShape_16 : decode cX5_inShape 16 = .ok (.aaload, 1) := by decide +kernel
theorem dX5_inShape_17 : decode cX5_inShape 17 = .ok (.iload_n 1, 1) := by decide +kernel
theorem dX5_inShape_18 : decode cX5_inShape 18 = .ok (.iload_n 2, 1) := by decide +kernel
theorem dX5_inShape_19 : decode cX5_inShape 19 = .ok (.invokevirtual 60, 3) := by decide +kernel
theorem dX5_inShape_22 : decode cX5_inShape 22 = .ok (.ifCond .eq 13, 3) := by decide +kernel
theorem dX5_inShape_25 : decode cX5_inShape 25 = .ok (.aload_n 0, 1) := by decide +kernel
theorem dX5_inShape_26 : decode cX5_inShape 26 = .ok (.getfield 20, 3) := by decide +kernel
theorem dX5_inShape_29 : decode cX5_inShape 29 = .ok (.iload_n 3, 1) := by decide +kernel
theorem dX5_inShape_30 : decode cX5_inShape 30 = .ok (.aaload, 1) := by decide +kernel
theorem dX5_inShape_31 : decode cX5_inShape 31 = .ok (.invokevirtual 64, 3) := by decide +kernel
theorem dX5_inShape_34 : decode cX5_inShape 34 = .ok (.ireturn, 1) := by decide +kernel
theorem dX5_inShape_35 : decode cX5_inShape 35 = .ok (.iinc 3 (-1), 3) := by decide +kernel
theorem dX5_inShape_38 : decode cX5_inShape 38 = .ok (.goto (-31), 3) := by decide +kernel
theorem dX5_inShape_41 : decode cX5_inShape 41 = .ok (.iconst 0, 1) := by decide +kernel
theorem dX5_inShape_42 : decode cX5_inShape 42 = .ok (.ireturn, 1) := by decide +kernel
theorem dX5_pointsIn_0 : decode cX5_pointsIn 0 = .ok (.iconst 0, 1) := by decide +kernel
theorem dX5_pointsIn_1 : decode cX5_pointsIn 1 = .ok (.istore_n 3, 1) := by decide +kernel
theorem dX5_pointsIn_2 : decode cX5_pointsIn 2 = .ok (.iconst 0, 1) := by decide +kernel
theorem dX5_pointsIn_3 : decode cX5_pointsIn 3 = .ok (.istore 4, 2) := by decide +kernel
theorem dX5_pointsIn_5 : decode cX5_pointsIn 5 = .ok (.iload 4, 2) := by decide +kernel
theorem dX5_pointsIn_7 : decode cX5_pointsIn 7 = .ok (.aload_n 0, 1) := by decide +kernel
theorem dX5_pointsIn_8 : decode cX5_pointsIn 8 = .ok (.getfield 12, 3) := by decide +kernel
theorem dX5_pointsIn_11 : decode cX5_pointsIn 11 = .ok (.getfield 45, 3) := by decide +kernel
theorem dX5_pointsIn_14 : decode cX5_pointsIn 14 = .ok (.if_icmp .ge 27, 3) := by decide +kernel
theorem dX5_pointsIn_17 : decode cX5_pointsIn 17 = .ok (.aload_n 0, 1) := by decide +kernel
theorem dX5_pointsIn_18 : decode cX5_pointsIn 18 = .ok (.aload_n 0, 1) := by decide +kernel
theorem dX5_pointsIn_19 : decode cX5_pointsIn 19 = .ok (.iload 4, 2) := by decide +kernel
theorem dX5_pointsIn_21 : decode cX5_pointsIn 21 = .ok (.invokevirtual 68, 3) := by decide +kernel
theorem dX5_pointsIn_24 : decode cX5_pointsIn 24 = .ok (.iload_n 1, 1) := by decide +kernel
theorem dX5_pointsIn_25 : decode cX5_pointsIn 25 = .ok (.invokevirtual 72, 3) := by decide +kernel
theorem dX5_pointsIn_28 : decode cX5_pointsIn 28 = .ok (.iload_n 2, 1) := by decide +kernel
theorem dX5_pointsIn_29 : decode cX5_pointsIn 29 = .ok (.if_icmp .ne 6, 3) := by decide +kernel
theorem dX5_pointsIn_32 : decode cX5_pointsIn 32 = .ok (.iinc 3 1, 3) := by decide +kernel
theorem dX5_pointsIn_35 : decode cX5_pointsIn 35 = .ok (.iinc 4 1, 3) := by decide +kernel
theorem dX5_pointsIn_38 : decode cX5_pointsIn 38 = .ok (.goto (-33), 3) := by decide +kernel
theorem dX5_pointsIn_41 : decode cX5_pointsIn 41 = .ok (.iload_n 3, 1) := by decide +kernel
theorem dX5_pointsIn_42 : decode cX5_pointsIn 42 = .ok (.ireturn, 1) := by decide +kernel
theorem dX5_pointsAmong_0 : decode cX5_pointsAmong 0 = .ok (.iconst 0, 1) := by decide +kernel
theorem dX5_pointsAmong_1 : decode cX5_pointsAmong 1 = .ok (.istore_n 2, 1) := by decide +kernel
theorem dX5_pointsAmong_2 : decode cX5_pointsAmong 2 = .ok (.iconst 0, 1) := by decide +kernel
theorem dX5_pointsAmong_3 : decode cX5_pointsAmong 3 = .ok (.istore_n 3, 1) := by decide +kernel
theorem dX5_pointsAmong_4 : decode cX5_pointsAmong 4 = .ok (.iload_n 3, 1) := by decide +kernel
theorem dX5_pointsAmong_5 : decode cX5_pointsAmong 5 = .ok (.aload_n 0, 1) := by decide +kernel
theorem dX5_pointsAmong_6 : decode cX5_pointsAmong 6 = .ok (.getfield 12, 3) := by decide +kernel
theorem dX5_pointsAmong_9 : decode cX5_pointsAmong 9 = .ok (.getfield 45, 3) := by decide +kernel
theorem dX5_pointsAmong_12 : decode cX5_pointsAmong 12 = .ok (.if_icmp .ge 24, 3) := by decide +kernel
theorem dX5_pointsAmong_15 : decode cX5_pointsAmong 15 = .ok (.aload_n 1, 1) := by decide +kernel
theorem dX5_pointsAmong_16 : decode cX5_pointsAmong 16 = .ok (.aload_n 0, 1) := by decide +kernel
theorem dX5_pointsAmong_17 : decode cX5_pointsAmong 17 = .ok (.iload_n 3, 1) := by decide +kernel
theorem dX5_pointsAmong_18 : decode cX5_pointsAmong 18 = .ok (.invokevirtual 68, 3) := by decide +kernel
theorem dX5_pointsAmong_21 : decode cX5_pointsAmong 21 = .ok (.invokevirtual 76, 3) := by decide +kernel
theorem dX5_pointsAmong_24 : decode cX5_pointsAmong 24 = .ok (.ifCond .eq 6, 3) := by decide +kernel
theorem dX5_pointsAmong_27 : decode cX5_pointsAmong 27 = .ok (.iinc 2 1, 3) := by decide +kernel
theorem dX5_pointsAmong_30 : decode cX5_pointsAmong 30 = .ok (.iinc 3 1, 3) := by decide +kernel
theorem dX5_pointsAmong_33 : decode cX5_pointsAmong 33 = .ok (.goto (-29), 3) := by decide +kernel
theorem dX5_pointsAmong_36 : decode cX5_pointsAmong 36 = .ok (.iload_n 2, 1) := by decide +kernel
theorem dX5_pointsAmong_37 : decode cX5_pointsAmong 37 = .ok (.ireturn, 1) := by decide +kernel
theorem dX5_pointsInShape_0 : decode cX5_pointsInShape 0 = .ok (.iconst 0, 1) := by decide +kernel
theorem dX5_pointsInShape_1 : decode cX5_pointsInShape 1 = .ok (.istore_n 1, 1) := by decide +kernel
theorem dX5_pointsInShape_2 : decode cX5_pointsInShape 2 = .ok (.iconst 0, 1) := by decide +kernel
theorem dX5_pointsInShape_3 : decode cX5_pointsInShape 3 = .ok (.istore_n 2, 1) := by decide +kernel
theorem dX5_pointsInShape_4 : decode cX5_pointsInShape 4 = .ok (.iload_n 2, 1) := by decide +kernel
theorem dX5_pointsInShape_5 : decode cX5_pointsInShape 5 = .ok (.aload_n 0, 1) := by decide +kernel
theorem dX5_pointsInShape_6 : decode cX5_pointsInShape 6 = .ok (.getfield 12, 3) := by decide +kernel
theorem dX5_pointsInShape_9 : decode cX5_pointsInShape 9 = .ok (.getfield 45, 3) := by decide +kernel
theorem dX5_pointsInShape_12 : decode cX5_pointsInShape 12 = .ok (.if_icmp .ge 37, 3) := by decide +kernel
theorem dX5_pointsInShape_15 : decode cX5_pointsInShape 15 = .ok (.aload_n 0, 1) := by decide +kernel
theorem dX5_pointsInShape_16 : decode cX5_pointsInShape 16 = .ok (.aload_n 0, 1) := by decide +kernel
theorem dX5_pointsInShape_17 : decode cX5_pointsInShape 17 = .ok (.getfield 12, 3) := by decide +kernel
theorem dX5_pointsInShape_20 : decode cX5_pointsInShape 20 = .ok (.getfield 81, 3) := by decide +kernel
theorem dX5_pointsInShape_23 : decode cX5_pointsInShape 23 = .ok (.iload_n 2, 1) := by decide +kernel
theorem dX5_pointsInShape_24 : decode cX5_pointsInShape 24 = .ok (.iaload, 1) := by decide +kernel
theorem dX5_pointsInShape_25 : decode cX5_pointsInShape 25 = .ok (.aload_n 0, 1) := by decide +kernel
theorem dX5_pointsInShape_26 : decode cX5_pointsInShape 26 = .ok (.getfield 12, 3) := by decide +kernel
theorem dX5_pointsInShape_29 : decode cX5_pointsInShape 29 = .ok (.getfield 85, 3) := by decide +kernel
theorem dX5_pointsInShape_32 : decode cX5_pointsInShape 32 = .ok (.iload_n 2, 1) := by decide +kernel
theorem dX5_pointsInShape_33 : decode cX5_pointsInShape 33 = .ok (.iaload, 1) := by decide +kernel
theorem dX5_pointsInShape_34 : decode cX5_pointsInShape 34 = .ok (.invokevirtual 88, 3) := by decide +kernel
theorem dX5_pointsInShape_37 : decode cX5_pointsInShape 37 = .ok (.ifCond .eq 6, 3) := by decide +kernel
theorem dX5_pointsInShape_40 : decode cX5_pointsInShape 40 = .ok (.iinc 1 1, 3) := by decide +kernel
theorem dX5_pointsInShape_43 : decode cX5_pointsInShape 43 = .ok (.iinc 2 1, 3) := by decide +kernel
theorem dX5_pointsInShape_46 : decode cX5_pointsInShape 46 = .ok (.goto (-42), 3) := by decide +kernel
theorem dX5_pointsInShape_49 : decode cX5_pointsInShape 49 = .ok (.iload_n 1, 1) := by decide +kernel
theorem dX5_pointsInShape_50 : decode cX5_pointsInShape 50 = .ok (.ireturn, 1) := by decide +kernel
theorem dX5_pointInShape_0 : decode cX5_pointInShape 0 = .ok (.aload_n 0, 1) := by decide +kernel
theorem dX5_pointInShape_1 : decode cX5_pointInShape 1 = .ok (.getfield 12, 3) := by decide +kernel
theorem dX5_pointInShape_4 : decode cX5_pointInShape 4 = .ok (.aload_n 0, 1) := by decide +kernel
theorem dX5_pointInShape_5 : decode cX5_pointInShape 5 = .ok (.getfield 29, 3) := by decide +kernel
theorem dX5_pointInShape_8 : decode cX5_pointInShape 8 = .ok (.aload_n 0, 1) := by decide +kernel
theorem dX5_pointInShape_9 : decode cX5_pointInShape 9 = .ok (.getfield 33, 3) := by decide +kernel
theorem dX5_pointInShape_12 : decode cX5_pointInShape 12 = .ok (.invokevirtual 91, 3) := by decide +kernel
theorem dX5_pointInShape_15 : decode cX5_pointInShape 15 = .ok (.iconst 0, 1) := by decide +kernel
theorem dX5_pointInShape_16 : decode cX5_pointInShape 16 = .ok (.istore_n 2, 1) := by decide +kernel
theorem dX5_pointInShape_17 : decode cX5_pointInShape 17 = .ok (.iconst 0, 1) := by decide +kernel
theorem dX5_pointInShape_18 : decode cX5_pointInShape 18 = .ok (.istore_n 3, 1) := by decide +kernel
theorem dX5_pointInShape_19 : decode cX5_pointInShape 19 = .ok (.iload_n 3, 1) := by decide +kernel
theorem dX5_pointInShape_20 : decode cX5_pointInShape 20 = .ok (.aload_n 0, 1) := by decide +kernel
theorem dX5_pointInShape_21 : decode cX5_pointInShape 21 = .ok (.getfield 12, 3) := by decide +kernel
theorem dX5_pointInShape_24 : decode cX5_pointInShape 24 = .ok (.getfield 45, 3) := by decide +kernel
theorem dX5_pointInShape_27 : decode cX5_pointInShape 27 = .ok (.if_icmp .ge 58, 3) := by decide +kernel
theorem dX5_pointInShape_30 : decode cX5_pointInShape 30 = .ok (.aload_n 0, 1) := by decide +kernel
theorem dX5_pointInShape_31 : decode cX5_pointInShape 31 = .ok (.getfield 12, 3) := by decide +kernel
theorem dX5_pointInShape_34 : decode cX5_pointInShape 34 = .ok (.getfield 94, 3) := by decide +kernel
theorem dX5_pointInShape_37 : decode cX5_pointInShape 37 = .ok (.iload_n 3, 1) := by decide +kernel
theorem dX5_pointInShape_38 : decode cX5_pointInShape 38 = .ok (.iaload, 1) := by decide +kernel
theorem dX5_pointInShape_39 : decode cX5_pointInShape 39 = .ok (.istore 4, 2) := by decide +kernel
theorem dX5_pointInShape_41 : decode cX5_pointInShape 41 = .ok (.aload_n 0, 1) := by decide +kernel
theorem dX5_pointInShape_42 : decode cX5_pointInShape 42 = .ok (.aload_n 0, 1) := by decide +kernel
theorem dX5_pointInShape_43 : decode cX5_pointInShape 43 = .ok (.getfield 12, 3) := by decide +kernel
theorem dX5_pointInShape_46 : decode cX5_pointInShape 46 = .ok (.getfield 81, 3) := by decide +kernel
theorem dX5_pointInShape_49 : decode cX5_pointInShape 49 = .ok (.iload 4, 2) := by decide +kernel
theorem dX5_pointInShape_51 : decode cX5_pointInShape 51 = .ok (.iaload, 1) := by decide +kernel
theorem dX5_pointInShape_52 : decode cX5_pointInShape 52 = .ok (.aload_n 0, 1) := by decide +kernel
theorem dX5_pointInShape_53 : decode cX5_pointInShape 53 = .ok (.getfield 12, 3) := by decide +kernel
theorem dX5_pointInShape_56 : decode cX5_pointInShape 56 = .ok (.getfield 85, 3) := by decide +kernel
theorem dX5_pointInShape_59 : decode cX5_pointInShape 59 = .ok (.iload 4, 2) := by decide +kernel
theorem dX5_pointInShape_61 : decode cX5_pointInShape 61 = .ok (.iaload, 1) := by decide +kernel
theorem dX5_pointInShape_62 : decode cX5_pointInShape 62 = .ok (.invokevirtual 88, 3) := by decide +kernel
theorem dX5_pointInShape_65 : decode cX5_pointInShape 65 = .ok (.ifCond .eq 14, 3) := by decide +kernel
theorem dX5_pointInShape_68 : decode cX5_pointInShape 68 = .ok (.iload_n 2, 1) := by decide +kernel
theorem dX5_pointInShape_69 : decode cX5_pointInShape 69 = .ok (.iload_n 1, 1) := by decide +kernel
theorem dX5_pointInShape_70 : decode cX5_pointInShape 70 = .ok (.if_icmp .ne 6, 3) := by decide +kernel
theorem dX5_pointInShape_73 : decode cX5_pointInShape 73 = .ok (.iload 4, 2) := by decide +kernel
theorem dX5_pointInShape_75 : decode cX5_pointInShape 75 = .ok (.ireturn, 1) := by decide +kernel
theorem dX5_pointInShape_76 : decode cX5_pointInShape 76 = .ok (.iinc 2 1, 3) := by decide +kernel
theorem dX5_pointInShape_79 : decode cX5_pointInShape 79 = .ok (.iinc 3 1, 3) := by decide +kernel
theorem dX5_pointInShape_82 : decode cX5_pointInShape 82 = .ok (.goto (-63), 3) := by decide +kernel
theorem dX5_pointInShape_85 : decode cX5_pointInShape 85 = .ok (.bipush (-4), 2) := by decide +kernel
theorem dX5_pointInShape_87 : decode cX5_pointInShape 87 = .ok (.ireturn, 1) := by decide +kernel
theorem dX5_pointKey_0 : decode cX5_pointKey 0 = .ok (.aload_n 0, 1) := by decide +kernel
theorem dX5_pointKey_1 : decode cX5_pointKey 1 = .ok (.getfield 29, 3) := by decide +kernel
theorem dX5_pointKey_4 : decode cX5_pointKey 4 = .ok (.aload_n 0, 1) := by decide +kernel
theorem dX5_pointKey_5 : decode cX5_pointKey 5 = .ok (.getfield 33, 3) := by decide +kernel
theorem dX5_pointKey_8 : decode cX5_pointKey 8 = .ok (.aload_n 0, 1) := by decide +kernel
theorem dX5_pointKey_9 : decode cX5_pointKey 9 = .ok (.getfield 12, 3) := by decide +kernel
theorem dX5_pointKey_12 : decode cX5_pointKey 12 = .ok (.getfield 81, 3) := by decide +kernel
theorem dX5_pointKey_15 : decode cX5_pointKey 15 = .ok (.iload_n 1, 1) := by decide +kernel
theorem dX5_pointKey_16 : decode cX5_pointKey 16 = .ok (.iaload, 1) := by decide +kernel
theorem dX5_pointKey_17 : decode cX5_pointKey 17 = .ok (.aload_n 0, 1) := by decide +kernel
theorem dX5_pointKey_18 : decode cX5_pointKey 18 = .ok (.getfield 12, 3) := by decide +kernel
theorem dX5_pointKey_21 : decode cX5_pointKey 21 = .ok (.getfield 85, 3) := by decide +kernel
theorem dX5_pointKey_24 : decode cX5_pointKey 24 = .ok (.iload_n 1, 1) := by decide +kernel
theorem dX5_pointKey_25 : decode cX5_pointKey 25 = .ok (.iaload, 1) := by decide +kernel
theorem dX5_pointKey_26 : decode cX5_pointKey 26 = .ok (.invokestatic 97, 3) := by decide +kernel
theorem dX5_pointKey_29 : decode cX5_pointKey 29 = .ok (.ireturn, 1) := by decide +kernel
theorem dX6_init_0 : decode cX6_init 0 = .ok (.aload_n 0, 1) := by decide +kernel
theorem dX6_init_1 : decode cX6_init 1 = .ok (.invokespecial 3, 3) := by decide +kernel
theorem dX6_init_4 : decode cX6_init 4 = .ok (.aload_n 0, 1) := by decide +kernel
theorem dX6_init_5 : decode cX6_init 5 = .ok (.bipush 40, 2) := by decide +kernel
theorem dX6_init_7 : decode cX6_init 7 = .ok (.newarray .int, 2) := by decide +kernel
theorem dX6_init_9 : decode cX6_init 9 = .ok (.putfield 9, 3) := by decide +kernel
theorem dX6_init_12 : decode cX6_init 12 = .ok (.aload_n 0, 1) := by decide +kernel
theorem dX6_init_13 : decode cX6_init 13 = .ok (.bipush 40, 2) := by decide +kernel
theorem dX6_init_15 : decode cX6_init 15 = .ok (.newarray .int, 2) := by decide +kernel
theorem dX6_init_17 : decode cX6_init 17 = .ok (.putfield 15, 3) := by decide +kernel
theorem dX6_init_20 : decode cX6_init 20 = .ok (.aload_n 0, 1) := by decide +kernel
theorem dX6_init_21 : decode cX6_init 21 = .ok (.bipush 40, 2) := by decide +kernel
theorem dX6_init_23 : decode cX6_init 23 = .ok (.newarray .int, 2) := by decide +kernel
theorem dX6_init_25 : decode cX6_init 25 = .ok (.putfield 18, 3) := by decide +kernel
theorem dX6_init_28 : decode cX6_init 28 = .ok (.aload_n 0, 1) := by decide +kernel
theorem dX6_init_29 : decode cX6_init 29 = .ok (.bipush 40, 2) := by decide +kernel
theorem dX6_init_31 : decode cX6_init 31 = .ok (.newarray .int, 2) := by decide +kernel
theorem dX6_init_33 : decode cX6_init 33 = .ok (.putfield 21, 3) := by decide +kernel
theorem dX6_init_36 : decode cX6_init 36 = .ok (.return_, 1) := by decide +kernel
theorem dX6_has_0 : decode cX6_has 0 = .ok (.iload_n 1, 1) := by decide +kernel
theorem dX6_has_1 : decode cX6_has 1 = .ok (.ifCond .lt 15, 3) := by decide +kernel
theorem dX6_has_4 : decode cX6_has 4 = .ok (.iload_n 1, 1) := by decide +kernel
theorem dX6_has_5 : decode cX6_has 5 = .ok (.aload_n 0, 1) := by decide +kernel
theorem dX6_has_6 : decode cX6_has 6 = .ok (.getfield 24, 3) := by decide +kernel
theorem dX6_has_9 : decode cX6_has 9 = .ok (.if_icmp .ge 7, 3) := by decide +kernel
theorem dX6_has_12 : decode cX6_has 12 = .ok (.iconst 1, 1) := by decide +kernel
theorem dX6_has_13 : decode cX6_has 13 = .ok (.goto 4, 3) := by decide +kernel
theorem dX6_has_16 : decode cX6_has 16 = .ok (.iconst 0, 1) := by decide +kernel
theorem dX6_has_17 : decode cX6_has 17 = .ok (.ireturn, 1) := by decide +kernel
theorem dX6_add_0 : decode cX6_add 0 = .ok (.aload_n 0, 1) := by decide +kernel
theorem dX6_add_1 : decode cX6_add 1 = .ok (.getfield 24, 3) := by decide +kernel
theorem dX6_add_4 : decode cX6_add 4 = .ok (.bipush 40, 2) := by decide +kernel
theorem dX6_add_6 : decode cX6_add 6 = .ok (.if_icmp .lt 5, 3) := by decide +kernel
theorem dX6_add_9 : decode cX6_add 9 = .ok (.iconst 0, 1) := by decide +kernel
theorem dX6_add_10 : decode cX6_add 10 = .ok (.ireturn, 1) := by decide +kernel
theorem dX6_add_11 : decode cX6_add 11 = .ok (.aload_n 0, 1) := by decide +kernel
theorem dX6_add_12 : decode cX6_add 12 = .ok (.getfield 9, 3) := by decide +kernel
theorem dX6_add_15 : decode cX6_add 15 = .ok (.aload_n 0, 1) := by decide +kernel
theorem dX6_add_16 : decode cX6_add 16 = .ok (.getfield 24, 3) := by decide +kernel
theorem dX6_add_19 : decode cX6_add 19 = .ok (.iload_n 1, 1) := by decide +kernel
theorem dX6_add_20 : decode cX6_add 20 = .ok (.iastore, 1) := by decide +kernel
theorem dX6_add_21 : decode cX6_add 21 = .ok (.aload_n 0, 1) := by decide +kernel
theorem dX6_add_22 : decode cX6_add 22 = .ok (.getfield 15, 3) := by decide +kernel
theorem dX6_add_25 : decode cX6_add 25 = .ok (.aload_n 0, 1) := by decide +kernel
theorem dX6_add_26 : decode cX6_add 26 = .ok (.getfield 24, 3) := by decide +kernel
theorem dX6_add_29 : decode cX6_add 29 = .ok (.iload_n 2, 1) := by decide +kernel
theorem dX6_add_30 : decode cX6_add 30 = .ok (.iastore, 1) := by decide +kernel
theorem dX6_add_31 : decode cX6_add 31 = .ok (.aload_n 0, 1) := by decide +kernel
theorem dX6_add_32 : decode cX6_add 32 = .ok (.dup, 1) := by decide +kernel
theorem dX6_add_33 : decode cX6_add 33 = .ok (.getfield 24, 3) := by decide +kernel
theorem dX6_add_36 : decode cX6_add 36 = .ok (.iconst 1, 1) := by decide +kernel
theorem dX6_add_37 : decode cX6_add 37 = .ok (.iadd, 1) := by decide +kernel
theorem dX6_add_38 : decode cX6_add 38 = .ok (.putfield 24, 3) := by decide +kernel
theorem dX6_add_41 : decode cX6_add 41 = .ok (.iconst 1, 1) := by decide +kernel
theorem dX6_add_42 : decode cX6_add 42 = .ok (.ireturn, 1) := by decide +kernel
theorem dX6_remove_0 : decode cX6_remove 0 = .ok (.aload_n 0, 1) := by decide +kernel
theorem dX6_remove_1 : decode cX6_remove 1 = .ok (.iload_n 1, 1) := by decide +kernel
theorem dX6_remove_2 : decode cX6_remove 2 = .ok (.invokevirtual 28, 3) := by decide +kernel
theorem dX6_remove_5 : decode cX6_remove 5 = .ok (.ifCond .ne 5, 3) := by decide +kernel
theorem dX6_remove_8 : decode cX6_remove 8 = .ok (.iconst 0, 1) := by decide +kernel
theorem dX6_remove_9 : decode cX6_remove 9 = .ok (.ireturn, 1) := by decide +kernel
theorem dX6_remove_10 : decode cX6_remove 10 = .ok (.aload_n 0, 1) := by decide +kernel
theorem dX6_remove_11 : decode cX6_remove 11 = .ok (.dup, 1) := by decide +kernel
theorem dX6_remove_12 : decode cX6_remove 12 = .ok (.getfield 24, 3) := by decide +kernel
theorem dX6_remove_15 : decode cX6_remove 15 = .ok (.iconst 1, 1) := by decide +kernel
theorem dX6_remove_16 : decode cX6_remove 16 = .ok (.isub, 1) := by decide +kernel
theorem dX6_remove_17 : decode cX6_remove 17 = .ok (.putfield 24, 3) := by decide +kernel
theorem dX6_remove_20 : decode cX6_remove 20 = .ok (.iload_n 1, 1) := by decide +kernel
theorem dX6_remove_21 : decode cX6_remove 21 = .ok (.istore_n 2, 1) := by decide +kernel
theorem dX6_remove_22 : decode cX6_remove 22 = .ok (.iload_n 2, 1) := by decide +kernel
theorem dX6_remove_23 : decode cX6_remove 23 = .ok (.aload_n 0, 1) := by decide +kernel
theorem dX6_remove_24 : decode cX6_remove 24 = .ok (.getfield 24, 3) := by decide +kernel
theorem dX6_remove_27 : decode cX6_remove 27 = .ok (.if_icmp .ge 37, 3) := by decide +kernel
theorem dX6_remove_30 : decode cX6_remove 30 = .ok (.aload_n 0, 1) := by decide +kernel
theorem dX6_remove_31 : decode cX6_remove 31 = .ok (.getfield 9, 3) := by decide +kernel
theorem dX6_remove_34 : decode cX6_remove 34 = .ok (.iload_n 2, 1) := by decide +kernel
theorem dX6_remove_35 : decode cX6_remove 35 = .ok (.aload_n 0, 1) := by decide +kernel
theorem dX6_remove_36 : decode cX6_remove 36 = .ok (.getfield 9, 3) := by decide +kernel
theorem dX6_remove_39 : decode cX6_remove 39 = .ok (.iload_n 2, 1) := by decide +kernel
theorem dX6_remove_40 : decode cX6_remove 40 = .ok (.iconst 1, 1) := by decide +kernel
theorem dX6_remove_41 : decode cX6_remove 41 = .ok (.iadd, 1) := by decide +kernel
theorem dX6_remove_42 : decode cX6_remove 42 = .ok (.iaload, 1) := by decide +kernel
theorem dX6_remove_43 : decode cX6_remove 43 = .ok (.iastore, 1) := by decide +kernel
theorem dX6_remove_44 : decode cX6_remove 44 = .ok (.aload_n 0, 1) := by decide +kernel
theorem dX6_remove_45 : decode cX6_remove 45 = .ok (.getfield 15, 3) := by decide +kernel
theorem dX6_remove_48 : decode cX6_remove 48 = .ok (.iload_n 2, 1) := by decide +kernel
theorem dX6_remove_49 : decode cX6_remove 49 = .ok (.aload_n 0, 1) := by decide +kernel
theorem dX6_remove_50 : decode cX6_remove 50 = .ok (.getfield 15, 3) := by decide +kernel
theorem dX6_remove_53 : decode cX6_remove 53 = .ok (.iload_n 2, 1) := by decide +kernel
theorem dX6_remove_54 : decode cX6_remove 54 = .ok (.iconst 1, 1) := by decide +kernel
theorem dX6_remove_55 : decode cX6_remove 55 = .ok (.iadd, 1) := by decide +kernel
theorem dX6_remove_56 : decode cX6_remove 56 = .ok (.iaload, 1) := by decide +kernel
theorem dX6_remove_57 : decode cX6_remove 57 = .ok (.iastore, 1) := by decide +kernel
theorem dX6_remove_58 : decode cX6_remove 58 = .ok (.iinc 2 1, 3) := by decide +kernel
theorem dX6_remove_61 : decode cX6_remove 61 = .ok (.goto (-39), 3) := by decide +kernel
theorem dX6_remove_64 : decode cX6_remove 64 = .ok (.iconst 1, 1) := by decide +kernel
theorem dX6_remove_65 : decode cX6_remove 65 = .ok (.ireturn, 1) := by decide +kernel
theorem dX6_arrange_0 : decode cX6_arrange 0 = .ok (.iconst 0, 1) := by decide +kernel
theorem dX6_arrange_1 : decode cX6_arrange 1 = .ok (.istore_n 3, 1) := by decide +kernel
theorem dX6_arrange_2 : decode cX6_arrange 2 = .ok (.iload_n 3, 1) := by decide +kernel
theorem dX6_arrange_3 : decode cX6_arrange 3 = .ok (.aload_n 0, 1) := by decide +kernel
theorem dX6_arrange_4 : decode cX6_arrange 4 = .ok (.getfield 24, 3) := by decide +kernel
theorem dX6_arrange_7 : decode cX6_arrange 7 = .ok (.if_icmp .ge 93, 3) := by decide +kernel
theorem dX6_arrange_10 : decode cX6_arrange 10 = .ok (.aload_n 0, 1) := by decide +kernel
theorem dX6_arrange_11 : decode cX6_arrange 11 = .ok (.getfield 21, 3) := by decide +kernel
theorem dX6_arrange_14 : decode cX6_arrange 14 = .ok (.iload_n 3, 1) := by decide +kernel
theorem dX6_arrange_15 : decode cX6_arrange 15 = .ok (.iload_n 1, 1) := by decide +kernel
theorem dX6_arrange_16 : decode cX6_arrange 16 = .ok (.iload_n 2, 1) := by decide +kernel
theorem dX6_arrange_17 : decode cX6_arrange 17 = .ok (.aload_n 0, 1) := by decide +kernel
theorem dX6_arrange_18 : decode cX6_arrange 18 = .ok (.getfield 9, 3) := by decide +kernel
theorem dX6_arrange_21 : decode cX6_arrange 21 = .ok (.iload_n 3, 1) := by decide +kernel
theorem dX6_arrange_22 : decode cX6_arrange 22 = .ok (.iaload, 1) := by decide +kernel
theorem dX6_arrange_23 : decode cX6_arrange 23 = .ok (.aload_n 0, 1) := by decide +kernel
theorem dX6_arrange_24 : decode cX6_arrange 24 = .ok (.getfield 15, 3) := by decide +kernel
theorem dX6_arrange_27 : decode cX6_arrange 27 = .ok (.iload_n 3, 1) := by decide +kernel
theorem dX6_arrange_28 : decode cX6_arrange 28 = .ok (.iaload, 1) := by decide +kernel
theorem dX6_arrange_29 : decode cX6_arrange 29 = .ok (.invokestatic 32, 3) := by decide +kernel
theorem dX6_arrange_32 : decode cX6_arrange 32 = .ok (.iastore, 1) := by decide +kernel
theorem dX6_arrange_33 : decode cX6_arrange 33 = .ok (.iload_n 3, 1) := by decide +kernel
theorem dX6_arrange_34 : decode cX6_arrange 34 = .ok (.istore 4, 2) := by decide +kernel
theorem dX6_arrange_36 : decode cX6_arrange 36 = .ok (.iload 4, 2) := by decide +kernel
theorem dX6_arrange_38 : decode cX6_arrange 38 = .ok (.ifCond .le 48, 3) := by decide +kernel
theorem dX6_arrange_41 : decode cX6_arrange 41 = .ok (.aload_n 0, 1) := by decide +kernel
theorem dX6_arrange_42 : decode cX6_arrange 42 = .ok (.getfield 21, 3) := by decide +kernel
theorem dX6_arrange_45 : decode cX6_arrange 45 = .ok (.aload_n 0, 1) := by decide +kernel
theorem dX6_arrange_46 : decode cX6_arrange 46 = .ok (.getfield 18, 3) := by decide +kernel
theorem dX6_arrange_49 : decode cX6_arrange 49 = .ok (.iload 4, 2) := by decide +kernel
theorem dX6_arrange_51 : decode cX6_arrange 51 = .ok (.iconst 1, 1) := by decide +kernel
theorem dX6_arrange_52 : decode cX6_arrange 52 = .ok (.isub, 1) := by decide +kernel
theorem dX6_arrange_53 : decode cX6_arrange 53 = .ok (.iaload, 1) := by decide +kernel
theorem dX6_arrange_54 : decode cX6_arrange 54 = .ok (.iaload, 1) := by decide +kernel
theorem dX6_arrange_55 : decode cX6_arrange 55 = .ok (.aload_n 0, 1) := by decide +kernel
theorem dX6_arrange_56 : decode cX6_arrange 56 = .ok (.getfield 21, 3) := by decide +kernel
theorem dX6_arrange_59 : decode cX6_arrange 59 = .ok (.iload_n 3, 1) := by decide +kernel
theorem dX6_arrange_60 : decode cX6_arrange 60 = .ok (.iaload, 1) := by decide +kernel
theorem dX6_arrange_61 : decode cX6_arrange 61 = .ok (.if_icmp .le 25, 3) := by decide +kernel
theorem dX6_arrange_64 : decode cX6_arrange 64 = .ok (.aload_n 0, 1) := by decide +kernel
theorem dX6_arrange_65 : decode cX6_arrange 65 = .ok (.getfield 18, 3) := by decide +kernel
theorem dX6_arrange_68 : decode cX6_arrange 68 = .ok (.iload 4, 2) := by decide +kernel
theorem dX6_arrange_70 : decode cX6_arrange 70 = .ok (.aload_n 0, 1) := by decide +kernel
theorem dX6_arrange_71 : decode cX6_arrange 71 = .ok (.getfield 18, 3) := by decide +kernel
theorem dX6_arrange_74 : decode cX6_arrange 74 = .ok (.iload 4, 2) := by decide +kernel
theorem dX6_arrange_76 : decode cX6_arrange 76 = .ok (.iconst 1, 1) := by decide +kernel
theorem dX6_arrange_77 : decode cX6_arrange 77 = .ok (.isub, 1) := by decide +kernel
theorem dX6_arrange_78 : decode cX6_arrange 78 = .ok (.iaload, 1) := by decide +kernel
theorem dX6_arrange_79 : decode cX6_arrange 79 = .ok (.iastore, 1) := by decide +kernel
theorem dX6_arrange_80 : decode cX6_arrange 80 = .ok (.iinc 4 (-1), 3) := by decide +kernel
theorem dX6_arrange_83 : decode cX6_arrange 83 = .ok (.goto (-47), 3) := by decide +kernel
theorem dX6_arrange_86 : decode cX6_arrange 86 = .ok (.aload_n 0, 1) := by decide +kernel
theorem dX6_arrange_87 : decode cX6_arrange 87 = .ok (.getfield 18, 3) := by decide +kernel
theorem dX6_arrange_90 : decode cX6_arrange 90 = .ok (.iload 4, 2) := by decide +kernel
theorem dX6_arrange_92 : decode cX6_arrange 92 = .ok (.iload_n 3, 1) := by decide +kernel
theorem dX6_arrange_93 : decode cX6_arrange 93 = .ok (.iastore, 1) := by decide +kernel
theorem dX6_arrange_94 : decode cX6_arrange 94 = .ok (.iinc 3 1, 3) := by decide +kernel
theorem dX6_arrange_97 : decode cX6_arrange 97 = .ok (.goto (-95), 3) := by decide +kernel
theorem dX6_arrange_100 : decode cX6_arrange 100 = .ok (.return_, 1) := by decide +kernel
theorem dX6_rankOf_0 : decode cX6_rankOf 0 = .ok (.iconst 0, 1) := by decide +kernel
theorem dX6_rankOf_1 : decode cX6_rankOf 1 = .ok (.istore_n 2, 1) := by decide +kernel
theorem dX6_rankOf_2 : decode cX6_rankOf 2 = .ok (.iload_n 2, 1) := by decide +kernel
theorem dX6_rankOf_3 : decode cX6_rankOf 3 = .ok (.aload_n 0, 1) := by decide +kernel
theorem dX6_rankOf_4 : decode cX6_rankOf 4 = .ok (.getfield 24, 3) := by decide +kernel
theorem dX6_rankOf_7 : decode cX6_rankOf 7 = .ok (.if_icmp .ge 21, 3) := by decide +kernel
theorem dX6_rankOf_10 : decode cX6_rankOf 10 = .ok (.aload_n 0, 1) := by decide +kernel
theorem dX6_rankOf_11 : decode cX6_rankOf 11 = .ok (.getfield 18, 3) := by decide +kernel
theorem dX6_rankOf_14 : decode cX6_rankOf 14 = .ok (.iload_n 2, 1) := by decide +kernel
theorem dX6_rankOf_15 : decode cX6_rankOf 15 = .ok (.iaload, 1) := by decide +kernel
theorem dX6_rankOf_16 : decode cX6_rankOf 16 = .ok (.iload_n 1, 1) := by decide +kernel
theorem dX6_rankOf_17 : decode cX6_rankOf 17 = .ok (.if_icmp .ne 5, 3) := by decide +kernel
theorem dX6_rankOf_20 : decode cX6_rankOf 20 = .ok (.iload_n 2, 1) := by decide +kernel
theorem dX6_rankOf_21 : decode cX6_rankOf 21 = .ok (.ireturn, 1) := by decide +kernel
theorem dX6_rankOf_22 : decode cX6_rankOf 22 = .ok (.iinc 2 1, 3) := by decide +kernel
theorem dX6_rankOf_25 : decode cX6_rankOf 25 = .ok (.goto (-23), 3) := by decide +kernel
theorem dX6_rankOf_28 : decode cX6_rankOf 28 = .ok (.bipush (-4), 2) := by decide +kernel
theorem dX6_rankOf_30 : decode cX6_rankOf 30 = .ok (.ireturn, 1) := by decide +kernel
theorem dX6_nearestTo_0 : decode cX6_nearestTo 0 = .ok (.bipush (-4), 2) := by decide +kernel
theorem dX6_nearestTo_2 : decode cX6_nearestTo 2 = .ok (.istore_n 3, 1) := by decide +kernel
theorem dX6_nearestTo_3 : decode cX6_nearestTo 3 = .ok (.iconst 0, 1) := by decide +kernel
theorem dX6_nearestTo_4 : decode cX6_nearestTo 4 = .ok (.istore 4, 2) := by decide +kernel
theorem dX6_nearestTo_6 : decode cX6_nearestTo 6 = .ok (.iconst 0, 1) := by decide +kernel
theorem dX6_nearestTo_7 : decode cX6_nearestTo 7 = .ok (.istore 5, 2) := by decide +kernel
theorem dX6_nearestTo_9 : decode cX6_nearestTo 9 = .ok (.iload 5, 2) := by decide +kernel
theorem dX6_nearestTo_11 : decode cX6_nearestTo 11 = .ok (.aload_n 0, 1) := by decide +kernel
theorem dX6_nearestTo_12 : decode cX6_nearestTo 12 = .ok (.getfield 24, 3) := by decide +kernel
theorem dX6_nearestTo_15 : decode cX6_nearestTo 15 = .ok (.if_icmp .ge 64, 3) := by decide +kernel
theorem dX6_nearestTo_18 : decode cX6_nearestTo 18 = .ok (.aload_n 0, 1) := by decide +kernel
theorem dX6_nearestTo_19 : decode cX6_nearestTo 19 = .ok (.getfield 9, 3) := by decide +kernel
theorem dX6_nearestTo_22 : decode cX6_nearestTo 22 = .ok (.iload 5, 2) := by decide +kernel
theorem dX6_nearestTo_24 : decode cX6_nearestTo 24 = .ok (.iaload, 1) := by decide +kernel
theorem dX6_nearestTo_25 : decode cX6_nearestTo 25 = .ok (.iload_n 1, 1) := by decide +kernel
theorem dX6_nearestTo_26 : decode cX6_nearestTo 26 = .ok (.isub, 1) := by decide +kernel
theorem dX6_nearestTo_27 : decode cX6_nearestTo 27 = .ok (.istore 6, 2) := by decide +kernel
theorem dX6_nearestTo_29 : decode cX6_nearestTo 29 = .ok (.aload_n 0, 1) := by decide +kernel
theorem dX6_nearestTo_30 : decode cX6_nearestTo 30 = .ok (.getfield 15, 3) := by decide +kernel
theorem dX6_nearestTo_33 : decode cX6_nearestTo 33 = .ok (.iload 5, 2) := by decide +kernel
theorem dX6_nearestTo_35 : decode cX6_nearestTo 35 = .ok (.iaload, 1) := by decide +kernel
theorem dX6_nearestTo_36 : decode cX6_nearestTo 36 = .ok (.iload_n 2, 1) := by decide +kernel
theorem dX6_nearestTo_37 : decode cX6_nearestTo 37 = .ok (.isub, 1) := by decide +kernel
theorem dX6_nearestTo_38 : decode cX6_nearestTo 38 = .ok (.istore 7, 2) := by decide +kernel
theorem dX6_nearestTo_40 : decode cX6_nearestTo 40 = .ok (.iload 6, 2) := by decide +kernel
theorem dX6_nearestTo_42 : decode cX6_nearestTo 42 = .ok (.iload 6, 2) := by decide +kernel
theorem dX6_nearestTo_44 : decode cX6_nearestTo 44 = .ok (.imul, 1) := by decide +kernel
theorem dX6_nearestTo_45 : decode cX6_nearestTo 45 = .ok (.iload 7, 2) := by decide +kernel
theorem dX6_nearestTo_47 : decode cX6_nearestTo 47 = .ok (.iload 7, 2) := by decide +kernel
theorem dX6_nearestTo_49 : decode cX6_nearestTo 49 = .ok (.imul, 1) := by decide +kernel
theorem dX6_nearestTo_50 : decode cX6_nearestTo 50 = .ok (.iadd, 1) := by decide +kernel
theorem dX6_nearestTo_51 : decode cX6_nearestTo 51 = .ok (.istore 8, 2) := by decide +kernel
theorem dX6_nearestTo_53 : decode cX6_nearestTo 53 = .ok (.iload_n 3, 1) := by decide +kernel
theorem dX6_nearestTo_54 : decode cX6_nearestTo 54 = .ok (.bipush (-4), 2) := by decide +kernel
theorem dX6_nearestTo_56 : decode cX6_nearestTo 56 = .ok (.if_icmp .eq 10, 3) := by decide +kernel
theorem dX6_nearestTo_59 : decode cX6_nearestTo 59 = .ok (.iload 8, 2) := by decide +kernel
theorem dX6_nearestTo_61 : decode cX6_nearestTo 61 = .ok (.iload 4, 2) := by decide +kernel
theorem dX6_nearestTo_63 : decode cX6_nearestTo 63 = .ok (.if_icmp .ge 10, 3) := by decide +kernel
theorem dX6_nearestTo_66 : decode cX6_nearestTo 66 = .ok (.iload 5, 2) := by decide +kernel
theorem dX6_nearestTo_68 : decode cX6_nearestTo 68 = .ok (.istore_n 3, 1) := by decide +kernel
theorem dX6_nearestTo_69 : decode cX6_nearestTo 69 = .ok (.iload 8, 2) := by decide +kernel
theorem dX6_nearestTo_71 : decode cX6_nearestTo 71 = .ok (.istore 4, 2) := by decide +kernel
theorem dX6_nearestTo_73 : decode cX6_nearestTo 73 = .ok (.iinc 5 1, 3) := by decide +kernel
theorem dX6_nearestTo_76 : decode cX6_nearestTo 76 = .ok (.goto (-67), 3) := by decide +kernel
theorem dX6_nearestTo_79 : decode cX6_nearestTo 79 = .ok (.iload_n 3, 1) := by decide +kernel
theorem dX6_nearestTo_80 : decode cX6_nearestTo 80 = .ok (.ireturn, 1) := by decide +kernel
theorem dX7_init_0 : decode cX7_init 0 = .ok (.aload_n 0, 1) := by decide +kernel
theorem dX7_init_1 : decode cX7_init 1 = .ok (.invokespecial 3, 3) := by decide +kernel
theorem dX7_init_4 : decode cX7_init 4 = .ok (.aload_n 0, 1) := by decide +kernel
theorem dX7_init_5 : decode cX7_init 5 = .ok (.sipush 200, 3) := by decide +kernel
theorem dX7_init_8 : decode cX7_init 8 = .ok (.newarray .char, 2) := by decide +kernel
theorem dX7_init_10 : decode cX7_init 10 = .ok (.putfield 9, 3) := by decide +kernel
theorem dX7_init_13 : decode cX7_init 13 = .ok (.aload_n 0, 1) := by decide +kernel
theorem dX7_init_14 : decode cX7_init 14 = .ok (.iconst 4, 1) := by decide +kernel
theorem dX7_init_15 : decode cX7_init 15 = .ok (.newarray .int, 2) := by decide +kernel
theorem dX7_init_17 : decode cX7_init 17 = .ok (.putfield 15, 3) := by decide +kernel
theorem dX7_init_20 : decode cX7_init 20 = .ok (.aload_n 0, 1) := by decide +kernel
theorem dX7_init_21 : decode cX7_init 21 = .ok (.iconst 3, 1) := by decide +kernel
theorem dX7_init_22 : decode cX7_init 22 = .ok (.newarray .int, 2) := by decide +kernel
theorem dX7_init_24 : decode cX7_init 24 = .ok (.putfield 19, 3) := by decide +kernel
theorem dX7_init_27 : decode cX7_init 27 = .ok (.return_, 1) := by decide +kernel
theorem dX7_append_0 : decode cX7_append 0 = .ok (.aload_n 0, 1) := by decide +kernel
theorem dX7_append_1 : decode cX7_append 1 = .ok (.getfield 22, 3) := by decide +kernel
theorem dX7_append_4 : decode cX7_append 4 = .ok (.sipush 200, 3) := by decide +kernel
theorem dX7_append_7 : decode cX7_append 7 = .ok (.if_icmp .lt 5, 3) := by decide +kernel
theorem dX7_append_10 : decode cX7_append 10 = .ok (.iconst 0, 1) := by decide +kernel
theorem dX7_append_11 : decode cX7_append 11 = .ok (.ireturn, 1) := by decide +kernel
theorem dX7_append_12 : decode cX7_append 12 = .ok (.aload_n 0, 1) := by decide +kernel
theorem dX7_append_13 : decode cX7_append 13 = .ok (.getfield 9, 3) := by decide +kernel
theorem dX7_append_16 : decode cX7_append 16 = .ok (.aload_n 0, 1) := by decide +kernel
theorem dX7_append_17 : decode cX7_append 17 = .ok (.getfield 22, 3) := by decide +kernel
theorem dX7_append_20 : decode cX7_append 20 = .ok (.iload_n 1, 1) := by decide +kernel
theorem dX7_append_21 : decode cX7_append 21 = .ok (.castore, 1) := by decide +kernel
theorem dX7_append_22 : decode cX7_append 22 = .ok (.aload_n 0, 1) := by decide +kernel
theorem dX7_append_23 : decode cX7_append 23 = .ok (.dup, 1) := by decide +kernel
theorem dX7_append_24 : decode cX7_append 24 = .ok (.getfield 22, 3) := by decide +kernel
theorem dX7_append_27 : decode cX7_append 27 = .ok (.iconst 1, 1) := by decide +kernel
theorem dX7_append_28 : decode cX7_append 28 = .ok (.iadd, 1) := by decide +kernel
theorem dX7_append_29 : decode cX7_append 29 = .ok (.putfield 22, 3) := by decide +kernel
theorem dX7_append_32 : decode cX7_append 32 = .ok (.iconst 1, 1) := by decide +kernel
theorem dX7_append_33 : decode cX7_append 33 = .ok (.ireturn, 1) := by decide +kernel
theorem dX7_clear_0 : decode cX7_clear 0 = .ok (.aload_n 0, 1) := by decide +kernel
theorem dX7_clear_1 : decode cX7_clear 1 = .ok (.iconst 0, 1) := by decide +kernel
theorem dX7_clear_2 : decode cX7_clear 2 = .ok (.putfield 22, 3) := by decide +kernel
theorem dX7_clear_5 : decode cX7_clear 5 = .ok (.return_, 1) := by decide +kernel
theorem dX7_blameEmptiness_0 : decode cX7_blameEmptiness 0 = .ok (.aload_n 0, 1) := by decide +kernel
theorem dX7_blameEmptiness_1 : decode cX7_blameEmptiness 1 = .ok (.getfield 19, 3) := by decide +kernel
theorem dX7_blameEmptiness_4 : decode cX7_blameEmptiness 4 = .ok (.iconst 0, 1) := by decide +kernel
theorem dX7_blameEmptiness_5 : decode cX7_blameEmptiness 5 = .ok (.iconst 5, 1) := by decide +kernel
theorem dX7_blameEmptiness_6 : decode cX7_blameEmptiness 6 = .ok (.iastore, 1) := by decide +kernel
theorem dX7_blameEmptiness_7 : decode cX7_blameEmptiness 7 = .ok (.aload_n 0, 1) := by decide +kernel
theorem dX7_blameEmptiness_8 : decode cX7_blameEmptiness 8 = .ok (.iconst 1, 1) := by decide +kernel
theorem dX7_blameEmptiness_9 : decode cX7_blameEmptiness 9 = .ok (.putfield 26, 3) := by decide +kernel
theorem dX7_blameEmptiness_12 : decode cX7_blameEmptiness 12 = .ok (.return_, 1) := by decide +kernel
theorem dX7_readInto_0 : decode cX7_readInto 0 = .ok (.aload_n 1, 1) := by decide +kernel
theorem dX7_readInto_1 : decode cX7_readInto 1 = .ok (.iconst 1, 1) := by decide +kernel
theorem dX7_readInto_2 : decode cX7_readInto 2 = .ok (.iconst 0, 1) := by decide +kernel
theorem dX7_readInto_3 : decode cX7_readInto 3 = .ok (.invokevirtual 29, 3) := by decide +kernel
theorem dX7_readInto_6 : decode cX7_readInto 6 = .ok (.aload_n 0, 1) := by decide +kernel
theorem dX7_readInto_7 : decode cX7_readInto 7 = .ok (.iconst 0, 1) := by decide +kernel
theorem dX7_readInto_8 : decode cX7_readInto 8 = .ok (.putfield 26, 3) := by decide +kernel
theorem dX7_readInto_11 : decode cX7_readInto 11 = .ok (.aload_n 0, 1) := by decide +kernel
theorem dX7_readInto_12 : decode cX7_readInto 12 = .ok (.iconst 0, 1) := by decide +kernel
theorem dX7_readInto_13 : decode cX7_readInto 13 = .ok (.putfield 35, 3) := by decide +kernel
theorem dX7_readInto_16 : decode cX7_readInto 16 = .ok (.iconst 0, 1) := by decide +kernel
theorem dX7_readInto_17 : decode cX7_readInto 17 = .ok (.istore_n 2, 1) := by decide +kernel
theorem dX7_readInto_18 : decode cX7_readInto 18 = .ok (.iload_n 2, 1) := by decide +kernel
theorem dX7_readInto_19 : decode cX7_readInto 19 = .ok (.sipush 200, 3) := by decide +kernel
theorem dX7_readInto_22 : decode cX7_readInto 22 = .ok (.if_icmp .ge 47, 3) := by decide +kernel
theorem dX7_readInto_25 : decode cX7_readInto 25 = .ok (.aload_n 0, 1) := by decide +kernel
theorem dX7_readInto_26 : decode cX7_readInto 26 = .ok (.getfield 35, 3) := by decide +kernel
theorem dX7_readInto_29 : decode cX7_readInto 29 = .ok (.aload_n 0, 1) := by decide +kernel
theorem dX7_readInto_30 : decode cX7_readInto 30 = .ok (.getfield 22, 3) := by decide +kernel
theorem dX7_readInto_33 : decode cX7_readInto 33 = .ok (.if_icmp .ge 36, 3) := by decide +kernel
theorem dX7_readInto_36 : decode cX7_readInto 36 = .ok (.aload_n 0, 1) := by decide +kernel
theorem dX7_readInto_37 : decode cX7_readInto 37 = .ok (.getfield 35, 3) := by decide +kernel
theorem dX7_readInto_40 : decode cX7_readInto 40 = .ok (.istore_n 3, 1) := by decide +kernel
theorem dX7_readInto_41 : decode cX7_readInto 41 = .ok (.aload_n 0, 1) := by decide +kernel
theorem dX7_readInto_42 : decode cX7_readInto 42 = .ok (.aload_n 1, 1) := by decide +kernel
theorem dX7_readInto_43 : decode cX7_readInto 43 = .ok (.iload_n 2, 1) := by decide +kernel
theorem dX7_readInto_44 : decode cX7_readInto 44 = .ok (.invokevirtual 38, 3) := by decide +kernel
theorem dX7_readInto_47 : decode cX7_readInto 47 = .ok (.istore 4, 2) := by decide +kernel
theorem dX7_readInto_49 : decode cX7_readInto 49 = .ok (.iload 4, 2) := by decide +kernel
theorem dX7_readInto_51 : decode cX7_readInto 51 = .ok (.ifCond .eq 12, 3) := by decide +kernel
theorem dX7_readInto_54 : decode cX7_readInto 54 = .ok (.aload_n 0, 1) := by decide +kernel
theorem dX7_readInto_55 : decode cX7_readInto 55 = .ok (.iload_n 2, 1) := by decide +kernel
theorem dX7_readInto_56 : decode cX7_readInto 56 = .ok (.iload 4, 2) := by decide +kernel
theorem dX7_readInto_58 : decode cX7_readInto 58 = .ok (.invokevirtual 42, 3) := by decide +kernel
theorem dX7_readInto_61 : decode cX7_readInto 61 = .ok (.iload_n 3, 1) := by decide +kernel
theorem dX7_readInto_62 : decode cX7_readInto 62 = .ok (.ireturn, 1) := by decide +kernel
theorem dX7_readInto_63 : decode cX7_readInto 63 = .ok (.iinc 2 1, 3) := by decide +kernel
theorem dX7_readInto_66 : decode cX7_readInto 66 = .ok (.goto (-48), 3) := by decide +kernel
theorem dX7_readInto_69 : decode cX7_readInto 69 = .ok (.bipush (-4), 2) := by decide +kernel
theorem dX7_readInto_71 : decode cX7_readInto 71 = .ok (.ireturn, 1) := by decide +kernel
theorem dX7_blame_0 : decode cX7_blame 0 = .ok (.iload_n 2, 1) := by decide +kernel
theorem dX7_blame_1 : decode cX7_blame 1 = .ok (.bipush 20, 2) := by decide +kernel
theorem dX7_blame_3 : decode cX7_blame 3 = .ok (.if_icmp .lt 7, 3) := by decide +kernel
theorem dX7_blame_6 : decode cX7_blame 6 = .ok (.iconst 1, 1) := by decide +kernel
theorem dX7_blame_7 : decode cX7_blame 7 = .ok (.goto 4, 3) := by decide +kernel
theorem dX7_blame_10 : decode cX7_blame 10 = .ok (.iconst 0, 1) := by decide +kernel
theorem dX7_blame_11 : decode cX7_blame 11 = .ok (.istore_n 3, 1) := by decide +kernel
theorem dX7_blame_12 : decode cX7_blame 12 = .ok (.aload_n 0, 1) := by decide +kernel
theorem dX7_blame_13 : decode cX7_blame 13 = .ok (.getfield 19, 3) := by decide +kernel
theorem dX7_blame_16 : decode cX7_blame 16 = .ok (.iconst 0, 1) := by decide +kernel
theorem dX7_blame_17 : decode cX7_blame 17 = .ok (.bipush 100, 2) := by decide +kernel
theorem dX7_blame_19 : decode cX7_blame 19 = .ok (.iload_n 1, 1) := by decide +kernel
theorem dX7_blame_20 : decode cX7_blame 20 = .ok (.iadd, 1) := by decide +kernel
theorem dX7_blame_21 : decode cX7_blame 21 = .ok (.iastore, 1) := by decide +kernel
theorem dX7_blame_22 : decode cX7_blame 22 = .ok (.aload_n 0, 1) := by decide +kernel
theorem dX7_blame_23 : decode cX7_blame 23 = .ok (.getfield 19, 3) := by decide +kernel
theorem dX7_blame_26 : decode cX7_blame 26 = .ok (.iconst 1, 1) := by decide +kernel
theorem dX7_blame_27 : decode cX7_blame 27 = .ok (.iload_n 3, 1) := by decide +kernel
theorem dX7_blame_28 : decode cX7_blame 28 = .ok (.ifCond .eq 7, 3) := by decide +kernel
theorem dX7_blame_31 : decode cX7_blame 31 = .ok (.iconst 4, 1) := by decide +kernel
theorem dX7_blame_32 : decode cX7_blame 32 = .ok (.goto 4, 3) := by decide +kernel
theorem dX7_blame_35 : decode cX7_blame 35 = .ok (.iload_n 2, 1) := by decide +kernel
theorem dX7_blame_36 : decode cX7_blame 36 = .ok (.iastore, 1) := by decide +kernel
theorem dX7_blame_37 : decode cX7_blame 37 = .ok (.aload_n 0, 1) := by decide +kernel
theorem dX7_blame_38 : decode cX7_blame 38 = .ok (.getfield 19, 3) := by decide +kernel
theorem dX7_blame_41 : decode cX7_blame 41 = .ok (.iconst 2, 1) := by decide +kernel
theorem dX7_blame_42 : decode cX7_blame 42 = .ok (.iload_n 2, 1) := by decide +kernel
theorem dX7_blame_43 : decode cX7_blame 43 = .ok (.iastore, 1) := by decide +kernel
theorem dX7_blame_44 : decode cX7_blame 44 = .ok (.aload_n 0, 1) := by decide +kernel
theorem dX7_blame_45 : decode cX7_blame 45 = .ok (.iload_n 3, 1) := by decide +kernel
theorem dX7_blame_46 : decode cX7_blame 46 = .ok (.ifCond .eq 7, 3) := by decide +kernel
theorem dX7_blame_49 : decode cX7_blame 49 = .ok (.iconst 3, 1) := by decide +kernel
theorem dX7_blame_50 : decode cX7_blame 50 = .ok (.goto 4, 3) := by decide +kernel
theorem dX7_blame_53 : decode cX7_blame 53 = .ok (.iconst 2, 1) := by decide +kernel
theorem dX7_blame_54 : decode cX7_blame 54 = .ok (.putfield 26, 3) := by decide +kernel
theorem dX7_blame_57 : decode cX7_blame 57 = .ok (.return_, 1) := by decide +kernel
theorem dX7_readItem_0 : decode cX7_readItem 0 = .ok (.aload_n 0, 1) := by decide +kernel
theorem dX7_readItem_1 : decode cX7_readItem 1 = .ok (.invokevirtual 45, 3) := by decide +kernel
theorem dX7_readItem_4 : decode cX7_readItem 4 = .ok (.istore_n 3, 1) := by decide +kernel
theorem dX7_readItem_5 : decode cX7_readItem 5 = .ok (.aload_n 0, 1) := by decide +kernel
theorem dX7_readItem_6 : decode cX7_readItem 6 = .ok (.invokevirtual 49, 3) := by decide +kernel
theorem dX7_readItem_9 : decode cX7_readItem 9 = .ok (.istore 4, 2) := by decide +kernel
theorem dX7_readItem_11 : decode cX7_readItem 11 = .ok (.aload_n 0, 1) := by decide +kernel
theorem dX7_readItem_12 : decode cX7_readItem 12 = .ok (.aload_n 1, 1) := by decide +kernel
theorem dX7_readItem_13 : decode cX7_readItem 13 = .ok (.iload 4, 2) := by decide +kernel
theorem dX7_readItem_15 : decode cX7_readItem 15 = .ok (.iload_n 2, 1) := by decide +kernel
theorem dX7_readItem_16 : decode cX7_readItem 16 = .ok (.invokevirtual 52, 3) := by decide +kernel
theorem dX7_readItem_19 : decode cX7_readItem 19 = .ok (.ifCond .ne 5, 3) := by decide +kernel
theorem dX7_readItem_22 : decode cX7_readItem 22 = .ok (.iconst 1, 1) := by decide +kernel
theorem dX7_readItem_23 : decode cX7_readItem 23 = .ok (.ireturn, 1) := by decide +kernel
theorem dX7_readItem_24 : decode cX7_readItem 24 = .ok (.iload 4, 2) := by decide +kernel
theorem dX7_readItem_26 : decode cX7_readItem 26 = .ok (.bipush 98, 2) := by decide +kernel
theorem dX7_readItem_28 : decode cX7_readItem 28 = .ok (.if_icmp .ne 7, 3) := by decide +kernel
theorem dX7_readItem_31 : decode cX7_readItem 31 = .ok (.iconst 4, 1) := by decide +kernel
theorem dX7_readItem_32 : decode cX7_readItem 32 = .ok (.goto 15, 3) := by decide +kernel
theorem dX7_readItem_35 : decode cX7_readItem 35 = .ok (.iload 4, 2) := by decide +kernel
theorem dX7_readItem_37 : decode cX7_readItem 37 = .ok (.bipush 100, 2) := by decide +kernel
theorem dX7_readItem_39 : decode cX7_readItem 39 = .ok (.if_icmp .ne 7, 3) := by decide +kernel
theorem dX7_readItem_42 : decode cX7_readItem 42 = .ok (.iconst 3, 1) := by decide +kernel
theorem dX7_readItem_43 : decode cX7_readItem 43 = .ok (.goto 4, 3) := by decide +kernel
theorem dX7_readItem_46 : decode cX7_readItem 46 = .ok (.iconst 2, 1) := by decide +kernel
theorem dX7_readItem_47 : decode cX7_readItem 47 = .ok (.istore 5, 2) := by decide +kernel
theorem dX7_readItem_49 : decode cX7_readItem 49 = .ok (.iconst 0, 1) := by decide +kernel
theorem dX7_readItem_50 : decode cX7_readItem 50 = .ok (.istore 6, 2) := by decide +kernel
theorem dX7_readItem_52 : decode cX7_readItem 52 = .ok (.iload 6, 2) := by decide +kernel
theorem dX7_readItem_54 : decode cX7_readItem 54 = .ok (.iload 5, 2) := by decide +kernel
theorem dX7_readItem_56 : decode cX7_readItem 56 = .ok (.if_icmp .ge 59, 3) := by decide +kernel
theorem dX7_readItem_59 : decode cX7_readItem 59 = .ok (.aload_n 0, 1) := by decide +kernel
theorem dX7_readItem_60 : decode cX7_readItem 60 = .ok (.iload 6, 2) := by decide +kernel
theorem dX7_readItem_62 : decode cX7_readItem 62 = .ok (.iload 6, 2) := by decide +kernel
theorem dX7_readItem_64 : decode cX7_readItem 64 = .ok (.iload 5, 2) := by decide +kernel
theorem dX7_readItem_66 : decode cX7_readItem 66 = .ok (.iconst 1, 1) := by decide +kernel
theorem dX7_readItem_67 : decode cX7_readItem 67 = .ok (.isub, 1) := by decide +kernel
theorem dX7_readItem_68 : decode cX7_readItem 68 = .ok (.if_icmp .ge 8, 3) := by decide +kernel
theorem dX7_readItem_71 : decode cX7_readItem 71 = .ok (.bipush 44, 2) := by decide +kernel
theorem dX7_readItem_73 : decode cX7_readItem 73 = .ok (.goto 5, 3) := by decide +kernel
theorem dX7_readItem_76 : decode cX7_readItem 76 = .ok (.bipush 59, 2) := by decide +kernel
theorem dX7_readItem_78 : decode cX7_readItem 78 = .ok (.invokevirtual 56, 3) := by decide +kernel
theorem dX7_readItem_81 : decode cX7_readItem 81 = .ok (.istore 7, 2) := by decide +kernel
theorem dX7_readItem_83 : decode cX7_readItem 83 = .ok (.iload 7, 2) := by decide +kernel
theorem dX7_readItem_85 : decode cX7_readItem 85 = .ok (.ifCond .eq 6, 3) := by decide +kernel
theorem dX7_readItem_88 : decode cX7_readItem 88 = .ok (.iload 7, 2) := by decide +kernel
theorem dX7_readItem_90 : decode cX7_readItem 90 = .ok (.ireturn, 1) := by decide +kernel
theorem dX7_readItem_91 : decode cX7_readItem 91 = .ok (.aload_n 0, 1) := by decide +kernel
theorem dX7_readItem_92 : decode cX7_readItem 92 = .ok (.aload_n 1, 1) := by decide +kernel
theorem dX7_readItem_93 : decode cX7_readItem 93 = .ok (.iload 4, 2) := by decide +kernel
theorem dX7_readItem_95 : decode cX7_readItem 95 = .ok (.iload 6, 2) := by decide +kernel
theorem dX7_readItem_97 : decode cX7_readItem 97 = .ok (.invokevirtual 60, 3) := by decide +kernel
theorem dX7_readItem_100 : decode cX7_readItem 100 = .ok (.ifCond .ne 9, 3) := by decide +kernel
theorem dX7_readItem_103 : decode cX7_readItem 103 = .ok (.bipush 20, 2) := by decide +kernel
theorem dX7_readItem_105 : decode cX7_readItem 105 = .ok (.iload 6, 2) := by decide +kernel
theorem dX7_readItem_107 : decode cX7_readItem 107 = .ok (.iadd, 1) := by decide +kernel
theorem dX7_readItem_108 : decode cX7_readItem 108 = .ok (.ireturn, 1) := by decide +kernel
theorem dX7_readItem_109 : decode cX7_readItem 109 = .ok (.iinc 6 1, 3) := by decide +kernel
theorem dX7_readItem_112 : decode cX7_readItem 112 = .ok (.goto (-60), 3) := by decide +kernel
theorem dX7_readItem_115 : decode cX7_readItem 115 = .ok (.aload_n 0, 1) := by decide +kernel
theorem dX7_readItem_116 : decode cX7_readItem 116 = .ok (.aload_n 1, 1) := by decide +kernel
theorem dX7_readItem_117 : decode cX7_readItem 117 = .ok (.iload_n 3, 1) := by decide +kernel
theorem dX7_readItem_118 : decode cX7_readItem 118 = .ok (.iload 4, 2) := by decide +kernel
theorem dX7_readItem_120 : decode cX7_readItem 120 = .ok (.invokevirtual 63, 3) := by decide +kernel
theorem dX7_readItem_123 : decode cX7_readItem 123 = .ok (.iconst 0, 1) := by decide +kernel
theorem dX7_readItem_124 : decode cX7_readItem 124 = .ok (.ireturn, 1) := by decide +kernel
theorem dX7_readKind_0 : decode cX7_readKind 0 = .ok (.aload_n 0, 1) := by decide +kernel
theorem dX7_readKind_1 : decode cX7_readKind 1 = .ok (.invokevirtual 45, 3) := by decide +kernel
theorem dX7_readKind_4 : decode cX7_readKind 4 = .ok (.istore_n 1, 1) := by decide +kernel
theorem dX7_readKind_5 : decode cX7_readKind 5 = .ok (.aload_n 0, 1) := by decide +kernel
theorem dX7_readKind_6 : decode cX7_readKind 6 = .ok (.dup, 1) := by decide +kernel
theorem dX7_readKind_7 : decode cX7_readKind 7 = .ok (.getfield 35, 3) := by decide +kernel
theorem dX7_readKind_10 : decode cX7_readKind 10 = .ok (.iconst 1, 1) := by decide +kernel
theorem dX7_readKind_11 : decode cX7_readKind 11 = .ok (.iadd, 1) := by decide +kernel
theorem dX7_readKind_12 : decode cX7_readKind 12 = .ok (.putfield 35, 3) := by decide +kernel
theorem dX7_readKind_15 : decode cX7_readKind 15 = .ok (.iload_n 1, 1) := by decide +kernel
theorem dX7_readKind_16 : decode cX7_readKind 16 = .ok (.bipush 119, 2) := by decide +kernel
theorem dX7_readKind_18 : decode cX7_readKind 18 = .ok (.if_icmp .eq 9, 3) := by decide +kernel
theorem dX7_readKind_21 : decode cX7_readKind 21 = .ok (.iload_n 1, 1) := by decide +kernel
theorem dX7_readKind_22 : decode cX7_readKind 22 = .ok (.bipush 112, 2) := by decide +kernel
theorem dX7_readKind_24 : decode cX7_readKind 24 = .ok (.if_icmp .ne 5, 3) := by decide +kernel
theorem dX7_readKind_27 : decode cX7_readKind 27 = .ok (.iload_n 1, 1) := by decide +kernel
theorem dX7_readKind_28 : decode cX7_readKind 28 = .ok (.ireturn, 1) := by decide +kernel
theorem dX7_readKind_29 : decode cX7_readKind 29 = .ok (.iload_n 1, 1) := by decide +kernel
theorem dX7_readKind_30 : decode cX7_readKind 30 = .ok (.bipush 43, 2) := by decide +kernel
theorem dX7_readKind_32 : decode cX7_readKind 32 = .ok (.if_icmp .eq 11, 3) := by decide +kernel
theorem dX7_readKind_35 : decode cX7_readKind 35 = .ok (.iload_n 1, 1) := by decide +kernel
theorem dX7_readKind_36 : decode cX7_readKind 36 = .ok (.bipush 45, 2) := by decide +kernel
theorem dX7_readKind_38 : decode cX7_readKind 38 = .ok (.if_icmp .eq 5, 3) := by decide +kernel
theorem dX7_readKind_41 : decode cX7_readKind 41 = .ok (.iconst 0, 1) := by decide +kernel
theorem dX7_readKind_42 : decode cX7_readKind 42 = .ok (.ireturn, 1) := by decide +kernel
theorem dX7_readKind_43 : decode cX7_readKind 43 = .ok (.aload_n 0, 1) := by decide +kernel
theorem dX7_readKind_44 : decode cX7_readKind 44 = .ok (.invokevirtual 45, 3) := by decide +kernel
theorem dX7_readKind_47 : decode cX7_readKind 47 = .ok (.istore_n 2, 1) := by decide +kernel
theorem dX7_readKind_48 : decode cX7_readKind 48 = .ok (.aload_n 0, 1) := by decide +kernel
theorem dX7_readKind_49 : decode cX7_readKind 49 = .ok (.dup, 1) := by decide +kernel
theorem dX7_readKind_50 : decode cX7_readKind 50 = .ok (.getfield 35, 3) := by decide +kernel
theorem dX7_readKind_53 : decode cX7_readKind 53 = .ok (.iconst 1, 1) := by decide +kernel
theorem dX7_readKind_54 : decode cX7_readKind 54 = .ok (.iadd, 1) := by decide +kernel
theorem dX7_readKind_55 : decode cX7_readKind 55 = .ok (.putfield 35, 3) := by decide +kernel
theorem dX7_readKind_58 : decode cX7_readKind 58 = .ok (.iload_n 2, 1) := by decide +kernel
theorem dX7_readKind_59 : decode cX7_readKind 59 = .ok (.bipush 98, 2) := by decide +kernel
theorem dX7_readKind_61 : decode cX7_readKind 61 = .ok (.if_icmp .eq 9, 3) := by decide +kernel
theorem dX7_readKind_64 : decode cX7_readKind 64 = .ok (.iload_n 2, 1) := by decide +kernel
theorem dX7_readKind_65 : decode cX7_readKind 65 = .ok (.bipush 100, 2) := by decide +kernel
theorem dX7_readKind_67 : decode cX7_readKind 67 = .ok (.if_icmp .ne 7, 3) := by decide +kernel
theorem dX7_readKind_70 : decode cX7_readKind 70 = .ok (.iload_n 2, 1) := by decide +kernel
theorem dX7_readKind_71 : decode cX7_readKind 71 = .ok (.goto 4, 3) := by decide +kernel
theorem dX7_readKind_74 : decode cX7_readKind 74 = .ok (.iconst 0, 1) := by decide +kernel
theorem dX7_readKind_75 : decode cX7_readKind 75 = .ok (.ireturn, 1) := by decide +kernel
theorem dX7_mayStand_0 : decode cX7_mayStand 0 = .ok (.iload_n 2, 1) := by decide +kernel
theorem dX7_mayStand_1 : decode cX7_mayStand 1 = .ok (.ifCond .eq 26, 3) := by decide +kernel
theorem dX7_mayStand_4 : decode cX7_mayStand 4 = .ok (.iload_n 2, 1) := by decide +kernel
theorem dX7_mayStand_5 : decode cX7_mayStand 5 = .ok (.bipush 119, 2) := by decide +kernel
theorem dX7_mayStand_7 : decode cX7_mayStand 7 = .ok (.if_icmp .ne 7, 3) := by decide +kernel
theorem dX7_mayStand_10 : decode cX7_mayStand 10 = .ok (.iconst 1, 1) := by decide +kernel
theorem dX7_mayStand_11 : decode cX7_mayStand 11 = .ok (.goto 4, 3) := by decide +kernel
theorem dX7_mayStand_14 : decode cX7_mayStand 14 = .ok (.iconst 0, 1) := by decide +kernel
theorem dX7_mayStand_15 : decode cX7_mayStand 15 = .ok (.iload_n 3, 1) := by decide +kernel
theorem dX7_mayStand_16 : decode cX7_mayStand 16 = .ok (.ifCond .ne 7, 3) := by decide +kernel
theorem dX7_mayStand_19 : decode cX7_mayStand 19 = .ok (.iconst 1, 1) := by decide +kernel
theorem dX7_mayStand_20 : decode cX7_mayStand 20 = .ok (.goto 4, 3) := by decide +kernel
theorem dX7_mayStand_23 : decode cX7_mayStand 23 = .ok (.iconst 0, 1) := by decide +kernel
theorem dX7_mayStand_24 : decode cX7_mayStand 24 = .ok (.if_icmp .eq 5, 3) := by decide +kernel
theorem dX7_mayStand_27 : decode cX7_mayStand 27 = .ok (.iconst 0, 1) := by decide +kernel
theorem dX7_mayStand_28 : decode cX7_mayStand 28 = .ok (.ireturn, 1) := by decide +kernel
theorem dX7_mayStand_29 : decode cX7_mayStand 29 = .ok (.iload_n 2, 1) := by decide +kernel
theorem dX7_mayStand_30 : decode cX7_mayStand 30 = .ok (.bipush 112, 2) := by decide +kernel
theorem dX7_mayStand_32 : decode cX7_mayStand 32 = .ok (.if_icmp .ne 21, 3) := by decide +kernel
theorem dX7_mayStand_35 : decode cX7_mayStand 35 = .ok (.aload_n 1, 1) := by decide +kernel
theorem dX7_mayStand_36 : decode cX7_mayStand 36 = .ok (.getfield 67, 3) := by decide +kernel
theorem dX7_mayStand_39 : decode cX7_mayStand 39 = .ok (.getfield 71, 3) := by decide +kernel
theorem dX7_mayStand_42 : decode cX7_mayStand 42 = .ok (.bipush 40, 2) := by decide +kernel
theorem dX7_mayStand_44 : decode cX7_mayStand 44 = .ok (.if_icmp .ge 7, 3) := by decide +kernel
theorem dX7_mayStand_47 : decode cX7_mayStand 47 = .ok (.iconst 1, 1) := by decide +kernel
theorem dX7_mayStand_48 : decode cX7_mayStand 48 = .ok (.goto 4, 3) := by decide +kernel
theorem dX7_mayStand_51 : decode cX7_mayStand 51 = .ok (.iconst 0, 1) := by decide +kernel
theorem dX7_mayStand_52 : decode cX7_mayStand 52 = .ok (.ireturn, 1) := by decide +kernel
theorem dX7_mayStand_53 : decode cX7_mayStand 53 = .ok (.aload_n 1, 1) := by decide +kernel
theorem dX7_mayStand_54 : decode cX7_mayStand 54 = .ok (.getfield 76, 3) := by decide +kernel
theorem dX7_mayStand_57 : decode cX7_mayStand 57 = .ok (.bipush 8, 2) := by decide +kernel
theorem dX7_mayStand_59 : decode cX7_mayStand 59 = .ok (.if_icmp .ge 7, 3) := by decide +kernel
theorem dX7_mayStand_62 : decode cX7_mayStand 62 = .ok (.iconst 1, 1) := by decide +kernel
theorem dX7_mayStand_63 : decode cX7_mayStand 63 = .ok (.goto 4, 3) := by decide +kernel
theorem dX7_mayStand_66 : decode cX7_mayStand 66 = .ok (.iconst 0, 1) := by decide +kernel
theorem dX7_mayStand_67 : decode cX7_mayStand 67 = .ok (.ireturn, 1) := by decide +kernel
theorem dX7_readNumber_0 : decode cX7_readNumber 0 = .ok (.iconst 0, 1) := by decide +kernel
theorem dX7_readNumber_1 : decode cX7_readNumber 1 = .ok (.istore_n 3, 1) := by decide +kernel
theorem dX7_readNumber_2 : decode cX7_readNumber 2 = .ok (.iconst 0, 1) := by decide +kernel
theorem dX7_readNumber_3 : decode cX7_readNumber 3 = .ok (.istore 4, 2) := by decide +kernel
theorem dX7_readNumber_5 : decode cX7_readNumber 5 = .ok (.iload 4, 2) := by decide +kernel
theorem dX7_readNumber_7 : decode cX7_readNumber 7 = .ok (.iconst 3, 1) := by decide +kernel
theorem dX7_readNumber_8 : decode cX7_readNumber 8 = .ok (.if_icmp .ge 42, 3) := by decide +kernel
theorem dX7_readNumber_11 : decode cX7_readNumber 11 = .ok (.aload_n 0, 1) := by decide +kernel
theorem dX7_readNumber_12 : decode cX7_readNumber 12 = .ok (.invokevirtual 45, 3) := by decide +kernel
theorem dX7_readNumber_15 : decode cX7_readNumber 15 = .ok (.invokestatic 79, 3) := by decide +kernel
theorem dX7_readNumber_18 : decode cX7_readNumber 18 = .ok (.ifCond .eq 32, 3) := by decide +kernel
theorem dX7_readNumber_21 : decode cX7_readNumber 21 = .ok (.bipush 10, 2) := by decide +kernel
theorem dX7_readNumber_23 : decode cX7_readNumber 23 = .ok (.iload_n 3, 1) := by decide +kernel
theorem dX7_readNumber_24 : decode cX7_readNumber 24 = .ok (.imul, 1) := by decide +kernel
theorem dX7_readNumber_25 : decode cX7_readNumber 25 = .ok (.aload_n 0, 1) := by decide +kernel
theorem dX7_readNumber_26 : decode cX7_readNumber 26 = .ok (.invokevirtual 45, 3) := by decide +kernel
theorem dX7_readNumber_29 : decode cX7_readNumber 29 = .ok (.iadd, 1) := by decide +kernel
theorem dX7_readNumber_30 : decode cX7_readNumber 30 = .ok (.bipush 48, 2) := by decide +kernel
theorem dX7_readNumber_32 : decode cX7_readNumber 32 = .ok (.isub, 1) := by decide +kernel
theorem dX7_readNumber_33 : decode cX7_readNumber 33 = .ok (.istore_n 3, 1) := by decide +kernel
theorem dX7_readNumber_34 : decode cX7_readNumber 34 = .ok (.iinc 4 1, 3) := by decide +kernel
theorem dX7_readNumber_37 : decode cX7_readNumber 37 = .ok (.aload_n 0, 1) := by decide +kernel
theorem dX7_readNumber_38 : decode cX7_readNumber 38 = .ok (.dup, 1) := by decide +kernel
theorem dX7_readNumber_39 : decode cX7_readNumber 39 = .ok (.getfield 35, 3) := by decide +kernel
theorem dX7_readNumber_42 : decode cX7_readNumber 42 = .ok (.iconst 1, 1) := by decide +kernel
theorem dX7_readNumber_43 : decode cX7_readNumber 43 = .ok (.iadd, 1) := by decide +kernel
theorem dX7_readNumber_44 : decode cX7_readNumber 44 = .ok (.putfield 35, 3) := by decide +kernel
theorem dX7_readNumber_47 : decode cX7_readNumber 47 = .ok (.goto (-42), 3) := by decide +kernel
theorem dX7_readNumber_50 : decode cX7_readNumber 50 = .ok (.iload 4, 2) := by decide +kernel
theorem dX7_readNumber_52 : decode cX7_readNumber 52 = .ok (.ifCond .eq 13, 3) := by decide +kernel
theorem dX7_readNumber_55 : decode cX7_readNumber 55 = .ok (.aload_n 0, 1) := by decide +kernel
theorem dX7_readNumber_56 : decode cX7_readNumber 56 = .ok (.invokevirtual 45, 3) := by decide +kernel
theorem dX7_readNumber_59 : decode cX7_readNumber 59 = .ok (.invokestatic 79, 3) := by decide +kernel
theorem dX7_readNumber_62 : decode cX7_readNumber 62 = .ok (.ifCond .eq 5, 3) := by decide +kernel
theorem dX7_readNumber_65 : decode cX7_readNumber 65 = .ok (.iconst 2, 1) := by decide +kernel
theorem dX7_readNumber_66 : decode cX7_readNumber 66 = .ok (.ireturn, 1) := by decide +kernel
theorem dX7_readNumber_67 : decode cX7_readNumber 67 = .ok (.aload_n 0, 1) := by decide +kernel
theorem dX7_readNumber_68 : decode cX7_readNumber 68 = .ok (.invokevirtual 45, 3) := by decide +kernel
theorem dX7_readNumber_71 : decode cX7_readNumber 71 = .ok (.iload_n 2, 1) := by decide +kernel
theorem dX7_readNumber_72 : decode cX7_readNumber 72 = .ok (.if_icmp .eq 5, 3) := by decide +kernel
theorem dX7_readNumber_75 : decode cX7_readNumber 75 = .ok (.iconst 3, 1) := by decide +kernel
theorem dX7_readNumber_76 : decode cX7_readNumber 76 = .ok (.ireturn, 1) := by decide +kernel
theorem dX7_readNumber_77 : decode cX7_readNumber 77 = .ok (.aload_n 0, 1) := by decide +kernel
theorem dX7_readNumber_78 : decode cX7_readNumber 78 = .ok (.dup, 1) := by decide +kernel
theorem dX7_readNumber_79 : decode cX7_readNumber 79 = .ok (.getfield 35, 3) := by decide +kernel
theorem dX7_readNumber_82 : decode cX7_readNumber 82 = .ok (.iconst 1, 1) := by decide +kernel
theorem dX7_readNumber_83 : decode cX7_readNumber 83 = .ok (.iadd, 1) := by decide +kernel
theorem dX7_readNumber_84 : decode cX7_readNumber 84 = .ok (.putfield 35, 3) := by decide +kernel
theorem dX7_readNumber_87 : decode cX7_readNumber 87 = .ok (.aload_n 0, 1) := by decide +kernel
theorem dX7_readNumber_88 : decode cX7_readNumber 88 = .ok (.getfield 15, 3) := by decide +kernel
theorem dX7_readNumber_91 : decode cX7_readNumber 91 = .ok (.iload_n 1, 1) := by decide +kernel
theorem dX7_readNumber_92 : decode cX7_readNumber 92 = .ok (.iload_n 3, 1) := by decide +kernel
theorem dX7_readNumber_93 : decode cX7_readNumber 93 = .ok (.iastore, 1) := by decide +kernel
theorem dX7_readNumber_94 : decode cX7_readNumber 94 = .ok (.iconst 0, 1) := by decide +kernel
theorem dX7_readNumber_95 : decode cX7_readNumber 95 = .ok (.ireturn, 1) := by decide +kernel
theorem dX7_isTold_0 : decode cX7_isTold 0 = .ok (.aload_n 0, 1) := by decide +kernel
theorem dX7_isTold_1 : decode cX7_isTold 1 = .ok (.getfield 15, 3) := by decide +kernel
theorem dX7_isTold_4 : decode cX7_isTold 4 = .ok (.iload_n 3, 1) := by decide +kernel
theorem dX7_isTold_5 : decode cX7_isTold 5 = .ok (.iaload, 1) := by decide +kernel
theorem dX7_isTold_6 : decode cX7_isTold 6 = .ok (.istore 4, 2) := by decide +kernel
theorem dX7_isTold_8 : decode cX7_isTold 8 = .ok (.iload_n 2, 1) := by decide +kernel
theorem dX7_isTold_9 : decode cX7_isTold 9 = .ok (.bipush 119, 2) := by decide +kernel
theorem dX7_isTold_11 : decode cX7_isTold 11 = .ok (.if_icmp .ne 34, 3) := by decide +kernel
theorem dX7_isTold_14 : decode cX7_isTold 14 = .ok (.iload_n 3, 1) := by decide +kernel
theorem dX7_isTold_15 : decode cX7_isTold 15 = .ok (.ifCond .ne 24, 3) := by decide +kernel
theorem dX7_isTold_18 : decode cX7_isTold 18 = .ok (.iload 4, 2) := by decide +kernel
theorem dX7_isTold_20 : decode cX7_isTold 20 = .ok (.iconst 1, 1) := by decide +kernel
theorem dX7_isTold_21 : decode cX7_isTold 21 = .ok (.if_icmp .lt 14, 3) := by decide +kernel
theorem dX7_isTold_24 : decode cX7_isTold 24 = .ok (.iload 4, 2) := by decide +kernel
theorem dX7_isTold_26 : decode cX7_isTold 26 = .ok (.bipush 6, 2) := by decide +kernel
theorem dX7_isTold_28 : decode cX7_isTold 28 = .ok (.if_icmp .gt 7, 3) := by decide +kernel
theorem dX7_isTold_31 : decode cX7_isTold 31 = .ok (.iconst 1, 1) := by decide +kernel
theorem dX7_isTold_32 : decode cX7_isTold 32 = .ok (.goto 12, 3) := by decide +kernel
theorem dX7_isTold_35 : decode cX7_isTold 35 = .ok (.iconst 0, 1) := by decide +kernel
theorem dX7_isTold_36 : decode cX7_isTold 36 = .ok (.goto 8, 3) := by decide +kernel
theorem dX7_isTold_39 : decode cX7_isTold 39 = .ok (.iload 4, 2) := by decide +kernel
theorem dX7_isTold_41 : decode cX7_isTold 41 = .ok (.invokestatic 83, 3) := by decide +kernel
theorem dX7_isTold_44 : decode cX7_isTold 44 = .ok (.ireturn, 1) := by decide +kernel
theorem dX7_isTold_45 : decode cX7_isTold 45 = .ok (.iload_n 2, 1) := by decide +kernel
theorem dX7_isTold_46 : decode cX7_isTold 46 = .ok (.bipush 100, 2) := by decide +kernel
theorem dX7_isTold_48 : decode cX7_isTold 48 = .ok (.if_icmp .ne 21, 3) := by decide +kernel
theorem dX7_isTold_51 : decode cX7_isTold 51 = .ok (.iload_n 3, 1) := by decide +kernel
theorem dX7_isTold_52 : decode cX7_isTold 52 = .ok (.iconst 2, 1) := by decide +kernel
theorem dX7_isTold_53 : decode cX7_isTold 53 = .ok (.if_icmp .ne 16, 3) := by decide +kernel
theorem dX7_isTold_56 : decode cX7_isTold 56 = .ok (.iload 4, 2) := by decide +kernel
theorem dX7_isTold_58 : decode cX7_isTold 58 = .ok (.bipush 63, 2) := by decide +kernel
theorem dX7_isTold_60 : decode cX7_isTold 60 = .ok (.if_icmp .gt 7, 3) := by decide +kernel
theorem dX7_isTold_63 : decode cX7_isTold 63 = .ok (.iconst 1, 1) := by decide +kernel
theorem dX7_isTold_64 : decode cX7_isTold 64 = .ok (.goto 4, 3) := by decide +kernel
theorem dX7_isTold_67 : decode cX7_isTold 67 = .ok (.iconst 0, 1) := by decide +kernel
theorem dX7_isTold_68 : decode cX7_isTold 68 = .ok (.ireturn, 1) := by decide +kernel
theorem dX7_isTold_69 : decode cX7_isTold 69 = .ok (.iload 4, 2) := by decide +kernel
theorem dX7_isTold_71 : decode cX7_isTold 71 = .ok (.aload_n 1, 1) := by decide +kernel
theorem dX7_isTold_72 : decode cX7_isTold 72 = .ok (.invokevirtual 87, 3) := by decide +kernel
theorem dX7_isTold_75 : decode cX7_isTold 75 = .ok (.if_icmp .ge 25, 3) := by decide +kernel
theorem dX7_isTold_78 : decode cX7_isTold 78 = .ok (.iload_n 3, 1) := by decide +kernel
theorem dX7_isTold_79 : decode cX7_isTold 79 = .ok (.iconst 2, 1) := by decide +kernel
theorem dX7_isTold_80 : decode cX7_isTold 80 = .ok (.if_icmp .lt 16, 3) := by decide +kernel
theorem dX7_isTold_83 : decode cX7_isTold 83 = .ok (.iload 4, 2) := by decide +kernel
theorem dX7_isTold_85 : decode cX7_isTold 85 = .ok (.aload_n 0, 1) := by decide +kernel
theorem dX7_isTold_86 : decode cX7_isTold 86 = .ok (.getfield 15, 3) := by decide +kernel
theorem dX7_isTold_89 : decode cX7_isTold 89 = .ok (.iload_n 3, 1) := by decide +kernel
theorem dX7_isTold_90 : decode cX7_isTold 90 = .ok (.iconst 2, 1) := by decide +kernel
theorem dX7_isTold_91 : decode cX7_isTold 91 = .ok (.isub, 1) := by decide +kernel
theorem dX7_isTold_92 : decode cX7_isTold 92 = .ok (.iaload, 1) := by decide +kernel
theorem dX7_isTold_93 : decode cX7_isTold 93 = .ok (.if_icmp .lt 7, 3) := by decide +kernel
theorem dX7_isTold_96 : decode cX7_isTold 96 = .ok (.iconst 1, 1) := by decide +kernel
theorem dX7_isTold_97 : decode cX7_isTold 97 = .ok (.goto 4, 3) := by decide +kernel
theorem dX7_isTold_100 : decode cX7_isTold 100 = .ok (.iconst 0, 1) := by decide +kernel
theorem dX7_isTold_101 : decode cX7_isTold 101 = .ok (.ireturn, 1) := by decide +kernel
theorem dX7_put_0 : decode cX7_put 0 = .ok (.iload_n 3, 1) := by decide +kernel
theorem dX7_put_1 : decode cX7_put 1 = .ok (.bipush 119, 2) := by decide +kernel
theorem dX7_put_3 : decode cX7_put 3 = .ok (.if_icmp .ne 22, 3) := by decide +kernel
theorem dX7_put_6 : decode cX7_put 6 = .ok (.aload_n 1, 1) := by decide +kernel
theorem dX7_put_7 : decode cX7_put 7 = .ok (.aload_n 0, 1) := by decide +kernel
theorem dX7_put_8 : decode cX7_put 8 = .ok (.getfield 15, 3) := by decide +kernel
theorem dX7_put_11 : decode cX7_put 11 = .ok (.iconst 0, 1) := by decide +kernel
theorem dX7_put_12 : decode cX7_put 12 = .ok (.iaload, 1) := by decide +kernel
theorem dX7_put_13 : decode cX7_put 13 = .ok (.aload_n 0, 1) := by decide +kernel
theorem dX7_put_14 : decode cX7_put 14 = .ok (.getfield 15, 3) := by decide +kernel
theorem dX7_put_17 : decode cX7_put 17 = .ok (.iconst 1, 1) := by decide +kernel
theorem dX7_put_18 : decode cX7_put 18 = .ok (.iaload, 1) := by decide +kernel
theorem dX7_put_19 : decode cX7_put 19 = .ok (.invokevirtual 29, 3) := by decide +kernel
theorem dX7_put_22 : decode cX7_put 22 = .ok (.goto 115, 3) := by decide +kernel
theorem dX7_put_25 : decode cX7_put 25 = .ok (.iload_n 3, 1) := by decide +kernel
theorem dX7_put_26 : decode cX7_put 26 = .ok (.bipush 112, 2) := by decide +kernel
theorem dX7_put_28 : decode cX7_put 28 = .ok (.if_icmp .ne 26, 3) := by decide +kernel
theorem dX7_put_31 : decode cX7_put 31 = .ok (.aload_n 1, 1) := by decide +kernel
theorem dX7_put_32 : decode cX7_put 32 = .ok (.getfield 67, 3) := by decide +kernel
theorem dX7_put_35 : decode cX7_put 35 = .ok (.aload_n 0, 1) := by decide +kernel
theorem dX7_put_36 : decode cX7_put 36 = .ok (.getfield 15, 3) := by decide +kernel
theorem dX7_put_39 : decode cX7_put 39 = .ok (.iconst 0, 1) := by decide +kernel
theorem dX7_put_40 : decode cX7_put 40 = .ok (.iaload, 1) := by decide +kernel
theorem dX7_put_41 : decode cX7_put 41 = .ok (.aload_n 0, 1) := by decide +kernel
theorem dX7_put_42 : decode cX7_put 42 = .ok (.getfield 15, 3) := by decide +kernel
theorem dX7_put_45 : decode cX7_put 45 = .ok (.iconst 1, 1) := by decide +kernel
theorem dX7_put_46 : decode cX7_put 46 = .ok (.iaload, 1) := by decide +kernel
theorem dX7_put_47 : decode cX7_put 47 = .ok (.invokevirtual 91, 3) := by decide +kernel
theorem dX7_put_50 : decode cX7_put 50 = .ok (.pop, 1) := by decide +kernel
theorem dX7_put_51 : decode cX7_put 51 = .ok (.goto 86, 3) := by decide +kernel
theorem dX7_put_54 : decode cX7_put 54 = .ok (.iload_n 3, 1) := by decide +kernel
theorem dX7_put_55 : decode cX7_put 55 = .ok (.bipush 98, 2) := by decide +kernel
theorem dX7_put_57 : decode cX7_put 57 = .ok (.if_icmp .ne 46, 3) := by decide +kernel
theorem dX7_put_60 : decode cX7_put 60 = .ok (.aload_n 1, 1) := by decide +kernel
theorem dX7_put_61 : decode cX7_put 61 = .ok (.iload_n 2, 1) := by decide +kernel
theorem dX7_put_62 : decode cX7_put 62 = .ok (.bipush 43, 2) := by decide +kernel
theorem dX7_put_64 : decode cX7_put 64 = .ok (.if_icmp .ne 7, 3) := by decide +kernel
theorem dX7_put_67 : decode cX7_put 67 = .ok (.iconst 1, 1) := by decide +kernel
theorem dX7_put_68 : decode cX7_put 68 = .ok (.goto 4, 3) := by decide +kernel
theorem dX7_put_71 : decode cX7_put 71 = .ok (.iconst 0, 1) := by decide +kernel
theorem dX7_put_72 : decode cX7_put 72 = .ok (.aload_n 0, 1) := by decide +kernel
theorem dX7_put_73 : decode cX7_put 73 = .ok (.getfield 15, 3) := by decide +kernel
theorem dX7_put_76 : decode cX7_put 76 = .ok (.iconst 0, 1) := by decide +kernel
theorem dX7_put_77 : decode cX7_put 77 = .ok (.iaload, 1) := by decide +kernel
theorem dX7_put_78 : decode cX7_put 78 = .ok (.aload_n 0, 1) := by decide +kernel
theorem dX7_put_79 : decode cX7_put 79 = .ok (.getfield 15, 3) := by decide +kernel
theorem dX7_put_82 : decode cX7_put 82 = .ok (.iconst 1, 1) := by decide +kernel
theorem dX7_put_83 : decode cX7_put 83 = .ok (.iaload, 1) := by decide +kernel
theorem dX7_put_84 : decode cX7_put 84 = .ok (.aload_n 0, 1) := by decide +kernel
theorem dX7_put_85 : decode cX7_put 85 = .ok (.getfield 15, 3) := by decide +kernel
theorem dX7_put_88 : decode cX7_put 88 = .ok (.iconst 2, 1) := by decide +kernel
theorem dX7_put_89 : decode cX7_put 89 = .ok (.iaload, 1) := by decide +kernel
theorem dX7_put_90 : decode cX7_put 90 = .ok (.aload_n 0, 1) := by decide +kernel
theorem dX7_put_91 : decode cX7_put 91 = .ok (.getfield 15, 3) := by decide +kernel
theorem dX7_put_94 : decode cX7_put 94 = .ok (.iconst 3, 1) := by decide +kernel
theorem dX7_put_95 : decode cX7_put 95 = .ok (.iaload, 1) := by decide +kernel
theorem dX7_put_96 : decode cX7_put 96 = .ok (.invokevirtual 95, 3) := by decide +kernel
theorem dX7_put_99 : decode cX7_put 99 = .ok (.pop, 1) := by decide +kernel
theorem dX7_put_100 : decode cX7_put 100 = .ok (.goto 37, 3) := by decide +kernel
theorem dX7_put_103 : decode cX7_put 103 = .ok (.aload_n 1, 1) := by decide +kernel
theorem dX7_put_104 : decode cX7_put 104 = .ok (.iload_n 2, 1) := by decide +kernel
theorem dX7_put_105 : decode cX7_put 105 = .ok (.bipush 43, 2) := by decide +kernel
theorem dX7_put_107 : decode cX7_put 107 = .ok (.if_icmp .ne 7, 3) := by decide +kernel
theorem dX7_put_110 : decode cX7_put 110 = .ok (.iconst 1, 1) := by decide +kernel
theorem dX7_put_111 : decode cX7_put 111 = .ok (.goto 4, 3) := by decide +kernel
theorem dX7_put_114 : decode cX7_put 114 = .ok (.iconst 0, 1) := by decide +kernel
theorem dX7_put_115 : decode cX7_put 115 = .ok (.aload_n 0, 1) := by decide +kernel
theorem dX7_put_116 : decode cX7_put 116 = .ok (.getfield 15, 3) := by decide +kernel
theorem dX7_put_119 : decode cX7_put 119 = .ok (.iconst 0, 1) := by decide +kernel
theorem dX7_put_120 : decode cX7_put 120 = .ok (.iaload, 1) := by decide +kernel
theorem dX7_put_121 : decode cX7_put 121 = .ok (.aload_n 0, 1) := by decide +kernel
theorem dX7_put_122 : decode cX7_put 122 = .ok (.getfield 15, 3) := by decide +kernel
theorem dX7_put_125 : decode cX7_put 125 = .ok (.iconst 1, 1) := by decide +kernel
theorem dX7_put_126 : decode cX7_put 126 = .ok (.iaload, 1) := by decide +kernel
theorem dX7_put_127 : decode cX7_put 127 = .ok (.aload_n 0, 1) := by decide +kernel
theorem dX7_put_128 : decode cX7_put 128 = .ok (.getfield 15, 3) := by decide +kernel
theorem dX7_put_131 : decode cX7_put 131 = .ok (.iconst 2, 1) := by decide +kernel
theorem dX7_put_132 : decode cX7_put 132 = .ok (.iaload, 1) := by decide +kernel
theorem dX7_put_133 : decode cX7_put 133 = .ok (.invokevirtual 99, 3) := by decide +kernel
theorem dX7_put_136 : decode cX7_put 136 = .ok (.pop, 1) := by decide +kernel
theorem dX7_put_137 : decode cX7_put 137 = .ok (.return_, 1) := by decide +kernel
theorem dX7_letterHere_0 : decode cX7_letterHere 0 = .ok (.aload_n 0, 1) := by decide +kernel
theorem dX7_letterHere_1 : decode cX7_letterHere 1 = .ok (.getfield 35, 3) := by decide +kernel
theorem dX7_letterHere_4 : decode cX7_letterHere 4 = .ok (.aload_n 0, 1) := by decide +kernel
theorem dX7_letterHere_5 : decode cX7_letterHere 5 = .ok (.getfield 22, 3) := by decide +kernel
theorem dX7_letterHere_8 : decode cX7_letterHere 8 = .ok (.if_icmp .ge 15, 3) := by decide +kernel
theorem dX7_letterHere_11 : decode cX7_letterHere 11 = .ok (.aload_n 0, 1) := by decide +kernel
theorem dX7_letterHere_12 : decode cX7_letterHere 12 = .ok (.getfield 9, 3) := by decide +kernel
theorem dX7_letterHere_15 : decode cX7_letterHere 15 = .ok (.aload_n 0, 1) := by decide +kernel
theorem dX7_letterHere_16 : decode cX7_letterHere 16 = .ok (.getfield 35, 3) := by decide +kernel
theorem dX7_letterHere_19 : decode cX7_letterHere 19 = .ok (.caload, 1) := by decide +kernel
theorem dX7_letterHere_20 : decode cX7_letterHere 20 = .ok (.goto 4, 3) := by decide +kernel
theorem dX7_letterHere_23 : decode cX7_letterHere 23 = .ok (.iconst 0, 1) := by decide +kernel
theorem dX7_letterHere_24 : decode cX7_letterHere 24 = .ok (.ireturn, 1) := by decide +kernel
theorem dX7_isFigure_0 : decode cX7_isFigure 0 = .ok (.iload_n 0, 1) := by decide +kernel
theorem dX7_isFigure_1 : decode cX7_isFigure 1 = .ok (.bipush 48, 2) := by decide +kernel
theorem dX7_isFigure_3 : decode cX7_isFigure 3 = .ok (.if_icmp .lt 13, 3) := by decide +kernel
theorem dX7_isFigure_6 : decode cX7_isFigure 6 = .ok (.iload_n 0, 1) := by decide +kernel
theorem dX7_isFigure_7 : decode cX7_isFigure 7 = .ok (.bipush 57, 2) := by decide +kernel
theorem dX7_isFigure_9 : decode cX7_isFigure 9 = .ok (.if_icmp .gt 7, 3) := by decide +kernel
theorem dX7_isFigure_12 : decode cX7_isFigure 12 = .ok (.iconst 1, 1) := by decide +kernel
theorem dX7_isFigure_13 : decode cX7_isFigure 13 = .ok (.goto 4, 3) := by decide +kernel
theorem dX7_isFigure_16 : decode cX7_isFigure 16 = .ok (.iconst 0, 1) := by decide +kernel
theorem dX7_isFigure_17 : decode cX7_isFigure 17 = .ok (.ireturn, 1) := by decide +kernel
theorem dX8_init_0 : decode cX8_init 0 = .ok (.aload_n 0, 1) := by decide +kernel
theorem dX8_init_1 : decode cX8_init 1 = .ok (.invokespecial 3, 3) := by decide +kernel
theorem dX8_init_4 : decode cX8_init 4 = .ok (.aload_n 0, 1) := by decide +kernel
theorem dX8_init_5 : decode cX8_init 5 = .ok (.bipush 7, 2) := by decide +kernel
theorem dX8_init_7 : decode cX8_init 7 = .ok (.bipush 13, 2) := by decide +kernel
theorem dX8_init_9 : decode cX8_init 9 = .ok (.multianewarray 9 2, 4) := by decide +kernel
theorem dX8_init_13 : decode cX8_init 13 = .ok (.putfield 11, 3) := by decide +kernel
theorem dX8_init_16 : decode cX8_init 16 = .ok (.return_, 1) := by decide +kernel
theorem dX8_weighWorld_0 : decode cX8_weighWorld 0 = .ok (.aload_n 0, 1) := by decide +kernel
theorem dX8_weighWorld_1 : decode cX8_weighWorld 1 = .ok (.getfield 11, 3) := by decide +kernel
theorem dX8_weighWorld_4 : decode cX8_weighWorld 4 = .ok (.aload_n 1, 1) := by decide +kernel
theorem dX8_weighWorld_5 : decode cX8_weighWorld 5 = .ok (.aload_n 2, 1) := by decide +kernel
theorem dX8_weighWorld_6 : decode cX8_weighWorld 6 = .ok (.iconst 0, 1) := by decide +kernel
theorem dX8_weighWorld_7 : decode cX8_weighWorld 7 = .ok (.iconst 0, 1) := by decide +kernel
theorem dX8_weighWorld_8 : decode cX8_weighWorld 8 = .ok (.invokestatic 16, 3) := by decide +kernel
theorem dX8_weighWorld_11 : decode cX8_weighWorld 11 = .ok (.return_, 1) := by decide +kernel
theorem dX8_leastOf_0 : decode cX8_leastOf 0 = .ok (.iload_n 1, 1) := by decide +kernel
theorem dX8_leastOf_1 : decode cX8_leastOf 1 = .ok (.ifCond .lt 20, 3) := by decide +kernel
theorem dX8_leastOf_4 : decode cX8_leastOf 4 = .ok (.iload_n 1, 1) := by decide +kernel
theorem dX8_leastOf_5 : decode cX8_leastOf 5 = .ok (.bipush 12, 2) := by decide +kernel
theorem dX8_leastOf_7 : decode cX8_leastOf 7 = .ok (.if_icmp .gt 14, 3) := by decide +kernel
theorem dX8_leastOf_10 : decode cX8_leastOf 10 = .ok (.aload_n 0, 1) := by decide +kernel
theorem dX8_leastOf_11 : decode cX8_leastOf 11 = .ok (.getfield 11, 3) := by decide +kernel
theorem dX8_leastOf_14 : decode cX8_leastOf 14 = .ok (.iconst 0, 1) := by decide +kernel
theorem dX8_leastOf_15 : decode cX8_leastOf 15 = .ok (.aaload, 1) := by decide +kernel
theorem dX8_leastOf_16 : decode cX8_leastOf 16 = .ok (.iload_n 1, 1) := by decide +kernel
theorem dX8_leastOf_17 : decode cX8_leastOf 17 = .ok (.iaload, 1) := by decide +kernel
theorem dX8_leastOf_18 : decode cX8_leastOf 18 = .ok (.goto 5, 3) := by decide +kernel
theorem dX8_leastOf_21 : decode cX8_leastOf 21 = .ok (.ldc 20, 2) := by decide +kernel
theorem dX8_leastOf_23 : decode cX8_leastOf 23 = .ok (.ireturn, 1) := by decide +kernel
theorem dX8_weighTile_0 : decode cX8_weighTile 0 = .ok (.iload_n 3, 1) := by decide +kernel
theorem dX8_weighTile_1 : decode cX8_weighTile 1 = .ok (.aload_n 1, 1) := by decide +kernel
theorem dX8_weighTile_2 : decode cX8_weighTile 2 = .ok (.getfield 21, 3) := by decide +kernel
theorem dX8_weighTile_5 : decode cX8_weighTile 5 = .ok (.if_icmp .gt 9, 3) := by decide +kernel
theorem dX8_weighTile_8 : decode cX8_weighTile 8 = .ok (.iload_n 3, 1) := by decide +kernel
theorem dX8_weighTile_9 : decode cX8_weighTile 9 = .ok (.bipush 6, 2) := by decide +kernel
theorem dX8_weighTile_11 : decode cX8_weighTile 11 = .ok (.if_icmp .le 4, 3) := by decide +kernel
theorem dX8_weighTile_14 : decode cX8_weighTile 14 = .ok (.return_, 1) := by decide +kernel
theorem dX8_weighTile_15 : decode cX8_weighTile 15 = .ok (.aload_n 1, 1) := by decide +kernel
theorem dX8_weighTile_16 : decode cX8_weighTile 16 = .ok (.iload_n 3, 1) := by decide +kernel
theorem dX8_weighTile_17 : decode cX8_weighTile 17 = .ok (.invokevirtual 27, 3) := by decide +kernel
theorem dX8_weighTile_20 : decode cX8_weighTile 20 = .ok (.istore 5, 2) := by decide +kernel
theorem dX8_weighTile_22 : decode cX8_weighTile 22 = .ok (.aload_n 2, 1) := by decide +kernel
theorem dX8_weighTile_23 : decode cX8_weighTile 23 = .ok (.iload 4, 2) := by decide +kernel
theorem dX8_weighTile_25 : decode cX8_weighTile 25 = .ok (.iload 5, 2) := by decide +kernel
theorem dX8_weighTile_27 : decode cX8_weighTile 27 = .ok (.imul, 1) := by decide +kernel
theorem dX8_weighTile_28 : decode cX8_weighTile 28 = .ok (.iload 5, 2) := by decide +kernel
theorem dX8_weighTile_30 : decode cX8_weighTile 30 = .ok (.invokevirtual 31, 3) := by decide +kernel
theorem dX8_weighTile_33 : decode cX8_weighTile 33 = .ok (.istore 6, 2) := by decide +kernel
theorem dX8_weighTile_35 : decode cX8_weighTile 35 = .ok (.aload_n 0, 1) := by decide +kernel
theorem dX8_weighTile_36 : decode cX8_weighTile 36 = .ok (.iload_n 3, 1) := by decide +kernel
theorem dX8_weighTile_37 : decode cX8_weighTile 37 = .ok (.aaload, 1) := by decide +kernel
theorem dX8_weighTile_38 : decode cX8_weighTile 38 = .ok (.astore 7, 2) := by decide +kernel
theorem dX8_weighTile_40 : decode cX8_weighTile 40 = .ok (.aload 7, 2) := by decide +kernel
theorem dX8_weighTile_42 : decode cX8_weighTile 42 = .ok (.iconst 0, 1) := by decide +kernel
theorem dX8_weighTile_43 : decode cX8_weighTile 43 = .ok (.invokestatic 37, 3) := by decide +kernel
theorem dX8_weighTile_46 : decode cX8_weighTile 46 = .ok (.iload 6, 2) := by decide +kernel
theorem dX8_weighTile_48 : decode cX8_weighTile 48 = .ok (.ifCond .ne 4, 3) := by decide +kernel
theorem dX8_weighTile_51 : decode cX8_weighTile 51 = .ok (.return_, 1) := by decide +kernel
theorem dX8_weighTile_52 : decode cX8_weighTile 52 = .ok (.iload_n 3, 1) := by decide +kernel
theorem dX8_weighTile_53 : decode cX8_weighTile 53 = .ok (.aload_n 1, 1) := by decide +kernel
theorem dX8_weighTile_54 : decode cX8_weighTile 54 = .ok (.getfield 21, 3) := by decide +kernel
theorem dX8_weighTile_57 : decode cX8_weighTile 57 = .ok (.if_icmp .eq 18, 3) := by decide +kernel
theorem dX8_weighTile_60 : decode cX8_weighTile 60 = .ok (.iload 6, 2) := by decide +kernel
theorem dX8_weighTile_62 : decode cX8_weighTile 62 = .ok (.iload 5, 2) := by decide +kernel
theorem dX8_weighTile_64 : decode cX8_weighTile 64 = .ok (.if_icmp .ne 15, 3) := by decide +kernel
theorem dX8_weighTile_67 : decode cX8_weighTile 67 = .ok (.iload_n 3, 1) := by decide +kernel
theorem dX8_weighTile_68 : decode cX8_weighTile 68 = .ok (.aload_n 1, 1) := by decide +kernel
theorem dX8_weighTile_69 : decode cX8_weighTile 69 = .ok (.getfield 43, 3) := by decide +kernel
theorem dX8_weighTile_72 : decode cX8_weighTile 72 = .ok (.if_icmp .lt 7, 3) := by decide +kernel
theorem dX8_weighTile_75 : decode cX8_weighTile 75 = .ok (.iconst 1, 1) := by decide +kernel
theorem dX8_weighTile_76 : decode cX8_weighTile 76 = .ok (.goto 4, 3) := by decide +kernel
theorem dX8_weighTile_79 : decode cX8_weighTile 79 = .ok (.iconst 0, 1) := by decide +kernel
theorem dX8_weighTile_80 : decode cX8_weighTile 80 = .ok (.istore 8, 2) := by decide +kernel
theorem dX8_weighTile_82 : decode cX8_weighTile 82 = .ok (.iload 8, 2) := by decide +kernel
theorem dX8_weighTile_84 : decode cX8_weighTile 84 = .ok (.ifCond .eq 10, 3) := by decide +kernel
theorem dX8_weighTile_87 : decode cX8_weighTile 87 = .ok (.aload 7, 2) := by decide +kernel
theorem dX8_weighTile_89 : decode cX8_weighTile 89 = .ok (.ldc 20, 2) := by decide +kernel
theorem dX8_weighTile_91 : decode cX8_weighTile 91 = .ok (.invokestatic 37, 3) := by decide +kernel
theorem dX8_weighTile_94 : decode cX8_weighTile 94 = .ok (.iconst 0, 1) := by decide +kernel
theorem dX8_weighTile_95 : decode cX8_weighTile 95 = .ok (.istore 9, 2) := by decide +kernel
theorem dX8_weighTile_97 : decode cX8_weighTile 97 = .ok (.iload 9, 2) := by decide +kernel
theorem dX8_weighTile_99 : decode cX8_weighTile 99 = .ok (.iconst 4, 1) := by decide +kernel
theorem dX8_weighTile_100 : decode cX8_weighTile 100 = .ok (.if_icmp .ge 50, 3) := by decide +kernel
theorem dX8_weighTile_103 : decode cX8_weighTile 103 = .ok (.iload 8, 2) := by decide +kernel
theorem dX8_weighTile_105 : decode cX8_weighTile 105 = .ok (.ifCond .ne 45, 3) := by decide +kernel
theorem dX8_weighTile_108 : decode cX8_weighTile 108 = .ok (.aload 7, 2) := by decide +kernel
theorem dX8_weighTile_110 : decode cX8_weighTile 110 = .ok (.bipush 12, 2) := by decide +kernel
theorem dX8_weighTile_112 : decode cX8_weighTile 112 = .ok (.iaload, 1) := by decide +kernel
theorem dX8_weighTile_113 : decode cX8_weighTile 113 = .ok (.ldc 20, 2) := by decide +kernel
theorem dX8_weighTile_115 : decode cX8_weighTile 115 = .ok (.if_icmp .ge 35, 3) := by decide +kernel
theorem dX8_weighTile_118 : decode cX8_weighTile 118 = .ok (.aload_n 0, 1) := by decide +kernel
theorem dX8_weighTile_119 : decode cX8_weighTile 119 = .ok (.aload_n 1, 1) := by decide +kernel
theorem dX8_weighTile_120 : decode cX8_weighTile 120 = .ok (.aload_n 2, 1) := by decide +kernel
theorem dX8_weighTile_121 : decode cX8_weighTile 121 = .ok (.iload_n 3, 1) := by decide +kernel
theorem dX8_weighTile_122 : decode cX8_weighTile 122 = .ok (.iconst 1, 1) := by decide +kernel
theorem dX8_weighTile_123 : decode cX8_weighTile 123 = .ok (.iadd, 1) := by decide +kernel
theorem dX8_weighTile_124 : decode cX8_weighTile 124 = .ok (.iconst 4, 1) := by decide +kernel
theorem dX8_weighTile_125 : decode cX8_weighTile 125 = .ok (.iload 4, 2) := by decide +kernel
theorem dX8_weighTile_127 : decode cX8_weighTile 127 = .ok (.imul, 1) := by decide +kernel
