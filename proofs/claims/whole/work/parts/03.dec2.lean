theorem dX10_mayBegin_50 : decode cX10_mayBegin 50 = .ok (.goto 12, 3) := by decide +kernel
theorem dX10_mayBegin_53 : decode cX10_mayBegin 53 = .ok (.aload_n 0, 1) := by decide +kernel
theorem dX10_mayBegin_54 : decode cX10_mayBegin 54 = .ok (.getfield 102, 3) := by decide +kernel
theorem dX10_mayBegin_57 : decode cX10_mayBegin 57 = .ok (.bipush 8, 2) := by decide +kernel
theorem dX10_mayBegin_59 : decode cX10_mayBegin 59 = .ok (.if_icmp .ge 7, 3) := by decide +kernel
theorem dX10_mayBegin_62 : decode cX10_mayBegin 62 = .ok (.iconst 1, 1) := by decide +kernel
theorem dX10_mayBegin_63 : decode cX10_mayBegin 63 = .ok (.goto 4, 3) := by decide +kernel
theorem dX10_mayBegin_66 : decode cX10_mayBegin 66 = .ok (.iconst 0, 1) := by decide +kernel
theorem dX10_mayBegin_67 : decode cX10_mayBegin 67 = .ok (.ireturn, 1) := by decide +kernel
theorem dX10_lays_0 : decode cX10_lays 0 = .ok (.iload_n 1, 1) := by decide +kernel
theorem dX10_lays_1 : decode cX10_lays 1 = .ok (.ifCond .ne 39, 3) := by decide +kernel
theorem dX10_lays_4 : decode cX10_lays 4 = .ok (.aload_n 0, 1) := by decide +kernel
theorem dX10_lays_5 : decode cX10_lays 5 = .ok (.aload_n 0, 1) := by decide +kernel
theorem dX10_lays_6 : decode cX10_lays 6 = .ok (.getfield 41, 3) := by decide +kernel
theorem dX10_lays_9 : decode cX10_lays 9 = .ok (.iconst 0, 1) := by decide +kernel
theorem dX10_lays_10 : decode cX10_lays 10 = .ok (.iaload, 1) := by decide +kernel
theorem dX10_lays_11 : decode cX10_lays 11 = .ok (.putfield 7, 3) := by decide +kernel
theorem dX10_lays_14 : decode cX10_lays 14 = .ok (.aload_n 0, 1) := by decide +kernel
theorem dX10_lays_15 : decode cX10_lays 15 = .ok (.aload_n 0, 1) := by decide +kernel
theorem dX10_lays_16 : decode cX10_lays 16 = .ok (.getfield 41, 3) := by decide +kernel
theorem dX10_lays_19 : decode cX10_lays 19 = .ok (.iconst 1, 1) := by decide +kernel
theorem dX10_lays_20 : decode cX10_lays 20 = .ok (.iaload, 1) := by decide +kernel
theorem dX10_lays_21 : decode cX10_lays 21 = .ok (.putfield 13, 3) := by decide +kernel
theorem dX10_lays_24 : decode cX10_lays 24 = .ok (.aload_n 0, 1) := by decide +kernel
theorem dX10_lays_25 : decode cX10_lays 25 = .ok (.iconst 0, 1) := by decide +kernel
theorem dX10_lays_26 : decode cX10_lays 26 = .ok (.putfield 105, 3) := by decide +kernel
theorem dX10_lays_29 : decode cX10_lays 29 = .ok (.aload_n 0, 1) := by decide +kernel
theorem dX10_lays_30 : decode cX10_lays 30 = .ok (.aload_n 0, 1) := by decide +kernel
theorem dX10_lays_31 : decode cX10_lays 31 = .ok (.getfield 7, 3) := by decide +kernel
theorem dX10_lays_34 : decode cX10_lays 34 = .ok (.putfield 16, 3) := by decide +kernel
theorem dX10_lays_37 : decode cX10_lays 37 = .ok (.goto 86, 3) := by decide +kernel
theorem dX10_lays_40 : decode cX10_lays 40 = .ok (.iload_n 1, 1) := by decide +kernel
theorem dX10_lays_41 : decode cX10_lays 41 = .ok (.iconst 3, 1) := by decide +kernel
theorem dX10_lays_42 : decode cX10_lays 42 = .ok (.if_icmp .ne 36, 3) := by decide +kernel
theorem dX10_lays_45 : decode cX10_lays 45 = .ok (.aload_n 0, 1) := by decide +kernel
theorem dX10_lays_46 : decode cX10_lays 46 = .ok (.getfield 29, 3) := by decide +kernel
theorem dX10_lays_49 : decode cX10_lays 49 = .ok (.aload_n 0, 1) := by decide +kernel
theorem dX10_lays_50 : decode cX10_lays 50 = .ok (.getfield 99, 3) := by decide +kernel
theorem dX10_lays_53 : decode cX10_lays 53 = .ok (.aload_n 0, 1) := by decide +kernel
theorem dX10_lays_54 : decode cX10_lays 54 = .ok (.getfield 41, 3) := by decide +kernel
theorem dX10_lays_57 : decode cX10_lays 57 = .ok (.iconst 0, 1) := by decide +kernel
theorem dX10_lays_58 : decode cX10_lays 58 = .ok (.iaload, 1) := by decide +kernel
theorem dX10_lays_59 : decode cX10_lays 59 = .ok (.iastore, 1) := by decide +kernel
theorem dX10_lays_60 : decode cX10_lays 60 = .ok (.aload_n 0, 1) := by decide +kernel
theorem dX10_lays_61 : decode cX10_lays 61 = .ok (.getfield 32, 3) := by decide +kernel
theorem dX10_lays_64 : decode cX10_lays 64 = .ok (.aload_n 0, 1) := by decide +kernel
theorem dX10_lays_65 : decode cX10_lays 65 = .ok (.getfield 99, 3) := by decide +kernel
theorem dX10_lays_68 : decode cX10_lays 68 = .ok (.aload_n 0, 1) := by decide +kernel
theorem dX10_lays_69 : decode cX10_lays 69 = .ok (.getfield 41, 3) := by decide +kernel
theorem dX10_lays_72 : decode cX10_lays 72 = .ok (.iconst 1, 1) := by decide +kernel
theorem dX10_lays_73 : decode cX10_lays 73 = .ok (.iaload, 1) := by decide +kernel
theorem dX10_lays_74 : decode cX10_lays 74 = .ok (.iastore, 1) := by decide +kernel
theorem dX10_lays_75 : decode cX10_lays 75 = .ok (.goto 48, 3) := by decide +kernel
theorem dX10_lays_78 : decode cX10_lays 78 = .ok (.aload_n 0, 1) := by decide +kernel
theorem dX10_lays_79 : decode cX10_lays 79 = .ok (.aload_n 0, 1) := by decide +kernel
theorem dX10_lays_80 : decode cX10_lays 80 = .ok (.getfield 102, 3) := by decide +kernel
theorem dX10_lays_83 : decode cX10_lays 83 = .ok (.iload_n 2, 1) := by decide +kernel
theorem dX10_lays_84 : decode cX10_lays 84 = .ok (.iload_n 1, 1) := by decide +kernel
theorem dX10_lays_85 : decode cX10_lays 85 = .ok (.iconst 1, 1) := by decide +kernel
theorem dX10_lays_86 : decode cX10_lays 86 = .ok (.isub, 1) := by decide +kernel
theorem dX10_lays_87 : decode cX10_lays 87 = .ok (.aload_n 0, 1) := by decide +kernel
theorem dX10_lays_88 : decode cX10_lays 88 = .ok (.getfield 41, 3) := by decide +kernel
theorem dX10_lays_91 : decode cX10_lays 91 = .ok (.iconst 0, 1) := by decide +kernel
theorem dX10_lays_92 : decode cX10_lays 92 = .ok (.iaload, 1) := by decide +kernel
theorem dX10_lays_93 : decode cX10_lays 93 = .ok (.aload_n 0, 1) := by decide +kernel
theorem dX10_lays_94 : decode cX10_lays 94 = .ok (.getfield 41, 3) := by decide +kernel
theorem dX10_lays_97 : decode cX10_lays 97 = .ok (.iconst 1, 1) := by decide +kernel
theorem dX10_lays_98 : decode cX10_lays 98 = .ok (.iaload, 1) := by decide +kernel
theorem dX10_lays_99 : decode cX10_lays 99 = .ok (.aload_n 0, 1) := by decide +kernel
theorem dX10_lays_100 : decode cX10_lays 100 = .ok (.getfield 41, 3) := by decide +kernel
theorem dX10_lays_103 : decode cX10_lays 103 = .ok (.iconst 2, 1) := by decide +kernel
theorem dX10_lays_104 : decode cX10_lays 104 = .ok (.iaload, 1) := by decide +kernel
theorem dX10_lays_105 : decode cX10_lays 105 = .ok (.iload_n 1, 1) := by decide +kernel
theorem dX10_lays_106 : decode cX10_lays 106 = .ok (.iconst 1, 1) := by decide +kernel
theorem dX10_lays_107 : decode cX10_lays 107 = .ok (.if_icmp .ne 12, 3) := by decide +kernel
theorem dX10_lays_110 : decode cX10_lays 110 = .ok (.aload_n 0, 1) := by decide +kernel
theorem dX10_lays_111 : decode cX10_lays 111 = .ok (.getfield 41, 3) := by decide +kernel
theorem dX10_lays_114 : decode cX10_lays 114 = .ok (.iconst 3, 1) := by decide +kernel
theorem dX10_lays_115 : decode cX10_lays 115 = .ok (.iaload, 1) := by decide +kernel
theorem dX10_lays_116 : decode cX10_lays 116 = .ok (.goto 4, 3) := by decide +kernel
theorem dX10_lays_119 : decode cX10_lays 119 = .ok (.iconst 0, 1) := by decide +kernel
theorem dX10_lays_120 : decode cX10_lays 120 = .ok (.invokevirtual 108, 3) := by decide +kernel
theorem dX10_lays_123 : decode cX10_lays 123 = .ok (.return_, 1) := by decide +kernel
theorem dX10_puts_0 : decode cX10_puts 0 = .ok (.aload_n 0, 1) := by decide +kernel
theorem dX10_puts_1 : decode cX10_puts 1 = .ok (.getfield 22, 3) := by decide +kernel
theorem dX10_puts_4 : decode cX10_puts 4 = .ok (.bipush 6, 2) := by decide +kernel
theorem dX10_puts_6 : decode cX10_puts 6 = .ok (.iload_n 1, 1) := by decide +kernel
theorem dX10_puts_7 : decode cX10_puts 7 = .ok (.imul, 1) := by decide +kernel
theorem dX10_puts_8 : decode cX10_puts 8 = .ok (.iload_n 2, 1) := by decide +kernel
theorem dX10_puts_9 : decode cX10_puts 9 = .ok (.iastore, 1) := by decide +kernel
theorem dX10_puts_10 : decode cX10_puts 10 = .ok (.aload_n 0, 1) := by decide +kernel
theorem dX10_puts_11 : decode cX10_puts 11 = .ok (.getfield 22, 3) := by decide +kernel
theorem dX10_puts_14 : decode cX10_puts 14 = .ok (.bipush 6, 2) := by decide +kernel
theorem dX10_puts_16 : decode cX10_puts 16 = .ok (.iload_n 1, 1) := by decide +kernel
theorem dX10_puts_17 : decode cX10_puts 17 = .ok (.imul, 1) := by decide +kernel
theorem dX10_puts_18 : decode cX10_puts 18 = .ok (.iconst 1, 1) := by decide +kernel
theorem dX10_puts_19 : decode cX10_puts 19 = .ok (.iadd, 1) := by decide +kernel
theorem dX10_puts_20 : decode cX10_puts 20 = .ok (.iload_n 3, 1) := by decide +kernel
theorem dX10_puts_21 : decode cX10_puts 21 = .ok (.iastore, 1) := by decide +kernel
theorem dX10_puts_22 : decode cX10_puts 22 = .ok (.aload_n 0, 1) := by decide +kernel
theorem dX10_puts_23 : decode cX10_puts 23 = .ok (.getfield 22, 3) := by decide +kernel
theorem dX10_puts_26 : decode cX10_puts 26 = .ok (.bipush 6, 2) := by decide +kernel
theorem dX10_puts_28 : decode cX10_puts 28 = .ok (.iload_n 1, 1) := by decide +kernel
theorem dX10_puts_29 : decode cX10_puts 29 = .ok (.imul, 1) := by decide +kernel
theorem dX10_puts_30 : decode cX10_puts 30 = .ok (.iconst 2, 1) := by decide +kernel
theorem dX10_puts_31 : decode cX10_puts 31 = .ok (.iadd, 1) := by decide +kernel
theorem dX10_puts_32 : decode cX10_puts 32 = .ok (.iload 4, 2) := by decide +kernel
theorem dX10_puts_34 : decode cX10_puts 34 = .ok (.iastore, 1) := by decide +kernel
theorem dX10_puts_35 : decode cX10_puts 35 = .ok (.aload_n 0, 1) := by decide +kernel
theorem dX10_puts_36 : decode cX10_puts 36 = .ok (.getfield 22, 3) := by decide +kernel
theorem dX10_puts_39 : decode cX10_puts 39 = .ok (.bipush 6, 2) := by decide +kernel
theorem dX10_puts_41 : decode cX10_puts 41 = .ok (.iload_n 1, 1) := by decide +kernel
theorem dX10_puts_42 : decode cX10_puts 42 = .ok (.imul, 1) := by decide +kernel
theorem dX10_puts_43 : decode cX10_puts 43 = .ok (.iconst 3, 1) := by decide +kernel
theorem dX10_puts_44 : decode cX10_puts 44 = .ok (.iadd, 1) := by decide +kernel
theorem dX10_puts_45 : decode cX10_puts 45 = .ok (.iload 5, 2) := by decide +kernel
theorem dX10_puts_47 : decode cX10_puts 47 = .ok (.iastore, 1) := by decide +kernel
theorem dX10_puts_48 : decode cX10_puts 48 = .ok (.aload_n 0, 1) := by decide +kernel
theorem dX10_puts_49 : decode cX10_puts 49 = .ok (.getfield 22, 3) := by decide +kernel
theorem dX10_puts_52 : decode cX10_puts 52 = .ok (.bipush 6, 2) := by decide +kernel
theorem dX10_puts_54 : decode cX10_puts 54 = .ok (.iload_n 1, 1) := by decide +kernel
theorem dX10_puts_55 : decode cX10_puts 55 = .ok (.imul, 1) := by decide +kernel
theorem dX10_puts_56 : decode cX10_puts 56 = .ok (.iconst 4, 1) := by decide +kernel
theorem dX10_puts_57 : decode cX10_puts 57 = .ok (.iadd, 1) := by decide +kernel
theorem dX10_puts_58 : decode cX10_puts 58 = .ok (.iload 6, 2) := by decide +kernel
theorem dX10_puts_60 : decode cX10_puts 60 = .ok (.iastore, 1) := by decide +kernel
theorem dX10_puts_61 : decode cX10_puts 61 = .ok (.aload_n 0, 1) := by decide +kernel
theorem dX10_puts_62 : decode cX10_puts 62 = .ok (.getfield 22, 3) := by decide +kernel
theorem dX10_puts_65 : decode cX10_puts 65 = .ok (.bipush 6, 2) := by decide +kernel
theorem dX10_puts_67 : decode cX10_puts 67 = .ok (.iload_n 1, 1) := by decide +kernel
theorem dX10_puts_68 : decode cX10_puts 68 = .ok (.imul, 1) := by decide +kernel
theorem dX10_puts_69 : decode cX10_puts 69 = .ok (.iconst 5, 1) := by decide +kernel
theorem dX10_puts_70 : decode cX10_puts 70 = .ok (.iadd, 1) := by decide +kernel
theorem dX10_puts_71 : decode cX10_puts 71 = .ok (.iload 7, 2) := by decide +kernel
theorem dX10_puts_73 : decode cX10_puts 73 = .ok (.iastore, 1) := by decide +kernel
theorem dX10_puts_74 : decode cX10_puts 74 = .ok (.return_, 1) := by decide +kernel
theorem dX10_readsItem_0 : decode cX10_readsItem 0 = .ok (.aload_n 0, 1) := by decide +kernel
theorem dX10_readsItem_1 : decode cX10_readsItem 1 = .ok (.invokevirtual 76, 3) := by decide +kernel
theorem dX10_readsItem_4 : decode cX10_readsItem 4 = .ok (.bipush 43, 2) := by decide +kernel
theorem dX10_readsItem_6 : decode cX10_readsItem 6 = .ok (.if_icmp .ne 7, 3) := by decide +kernel
theorem dX10_readsItem_9 : decode cX10_readsItem 9 = .ok (.iconst 1, 1) := by decide +kernel
theorem dX10_readsItem_10 : decode cX10_readsItem 10 = .ok (.goto 4, 3) := by decide +kernel
theorem dX10_readsItem_13 : decode cX10_readsItem 13 = .ok (.iconst 0, 1) := by decide +kernel
theorem dX10_readsItem_14 : decode cX10_readsItem 14 = .ok (.istore_n 2, 1) := by decide +kernel
theorem dX10_readsItem_15 : decode cX10_readsItem 15 = .ok (.aload_n 0, 1) := by decide +kernel
theorem dX10_readsItem_16 : decode cX10_readsItem 16 = .ok (.invokevirtual 112, 3) := by decide +kernel
theorem dX10_readsItem_19 : decode cX10_readsItem 19 = .ok (.istore_n 3, 1) := by decide +kernel
theorem dX10_readsItem_20 : decode cX10_readsItem 20 = .ok (.aload_n 0, 1) := by decide +kernel
theorem dX10_readsItem_21 : decode cX10_readsItem 21 = .ok (.iload_n 3, 1) := by decide +kernel
theorem dX10_readsItem_22 : decode cX10_readsItem 22 = .ok (.invokevirtual 115, 3) := by decide +kernel
theorem dX10_readsItem_25 : decode cX10_readsItem 25 = .ok (.ifCond .ne 10, 3) := by decide +kernel
theorem dX10_readsItem_28 : decode cX10_readsItem 28 = .ok (.aload_n 0, 1) := by decide +kernel
theorem dX10_readsItem_29 : decode cX10_readsItem 29 = .ok (.iconst 1, 1) := by decide +kernel
theorem dX10_readsItem_30 : decode cX10_readsItem 30 = .ok (.iconst 0, 1) := by decide +kernel
theorem dX10_readsItem_31 : decode cX10_readsItem 31 = .ok (.invokevirtual 86, 3) := by decide +kernel
theorem dX10_readsItem_34 : decode cX10_readsItem 34 = .ok (.ireturn, 1) := by decide +kernel
theorem dX10_readsItem_35 : decode cX10_readsItem 35 = .ok (.iload_n 3, 1) := by decide +kernel
theorem dX10_readsItem_36 : decode cX10_readsItem 36 = .ok (.ifCond .ne 10, 3) := by decide +kernel
theorem dX10_readsItem_39 : decode cX10_readsItem 39 = .ok (.aload_n 0, 1) := by decide +kernel
theorem dX10_readsItem_40 : decode cX10_readsItem 40 = .ok (.invokevirtual 119, 3) := by decide +kernel
theorem dX10_readsItem_43 : decode cX10_readsItem 43 = .ok (.goto 66, 3) := by decide +kernel
theorem dX10_readsItem_46 : decode cX10_readsItem 46 = .ok (.iload_n 3, 1) := by decide +kernel
theorem dX10_readsItem_47 : decode cX10_readsItem 47 = .ok (.iconst 1, 1) := by decide +kernel
theorem dX10_readsItem_48 : decode cX10_readsItem 48 = .ok (.if_icmp .ne 10, 3) := by decide +kernel
theorem dX10_readsItem_51 : decode cX10_readsItem 51 = .ok (.aload_n 0, 1) := by decide +kernel
theorem dX10_readsItem_52 : decode cX10_readsItem 52 = .ok (.invokevirtual 122, 3) := by decide +kernel
theorem dX10_readsItem_55 : decode cX10_readsItem 55 = .ok (.goto 54, 3) := by decide +kernel
theorem dX10_readsItem_58 : decode cX10_readsItem 58 = .ok (.iload_n 3, 1) := by decide +kernel
theorem dX10_readsItem_59 : decode cX10_readsItem 59 = .ok (.iconst 2, 1) := by decide +kernel
theorem dX10_readsItem_60 : decode cX10_readsItem 60 = .ok (.if_icmp .ne 10, 3) := by decide +kernel
theorem dX10_readsItem_63 : decode cX10_readsItem 63 = .ok (.aload_n 0, 1) := by decide +kernel
theorem dX10_readsItem_64 : decode cX10_readsItem 64 = .ok (.invokevirtual 125, 3) := by decide +kernel
theorem dX10_readsItem_67 : decode cX10_readsItem 67 = .ok (.goto 42, 3) := by decide +kernel
theorem dX10_readsItem_70 : decode cX10_readsItem 70 = .ok (.aload_n 0, 1) := by decide +kernel
theorem dX10_readsItem_71 : decode cX10_readsItem 71 = .ok (.iconst 0, 1) := by decide +kernel
theorem dX10_readsItem_72 : decode cX10_readsItem 72 = .ok (.bipush 44, 2) := by decide +kernel
theorem dX10_readsItem_74 : decode cX10_readsItem 74 = .ok (.iconst 0, 1) := by decide +kernel
theorem dX10_readsItem_75 : decode cX10_readsItem 75 = .ok (.aload_n 0, 1) := by decide +kernel
theorem dX10_readsItem_76 : decode cX10_readsItem 76 = .ok (.getfield 93, 3) := by decide +kernel
theorem dX10_readsItem_79 : decode cX10_readsItem 79 = .ok (.iconst 1, 1) := by decide +kernel
theorem dX10_readsItem_80 : decode cX10_readsItem 80 = .ok (.isub, 1) := by decide +kernel
theorem dX10_readsItem_81 : decode cX10_readsItem 81 = .ok (.invokevirtual 89, 3) := by decide +kernel
theorem dX10_readsItem_84 : decode cX10_readsItem 84 = .ok (.ifCond .eq 24, 3) := by decide +kernel
theorem dX10_readsItem_87 : decode cX10_readsItem 87 = .ok (.aload_n 0, 1) := by decide +kernel
theorem dX10_readsItem_88 : decode cX10_readsItem 88 = .ok (.iconst 1, 1) := by decide +kernel
theorem dX10_readsItem_89 : decode cX10_readsItem 89 = .ok (.bipush 59, 2) := by decide +kernel
theorem dX10_readsItem_91 : decode cX10_readsItem 91 = .ok (.iconst 0, 1) := by decide +kernel
theorem dX10_readsItem_92 : decode cX10_readsItem 92 = .ok (.aload_n 0, 1) := by decide +kernel
theorem dX10_readsItem_93 : decode cX10_readsItem 93 = .ok (.getfield 93, 3) := by decide +kernel
theorem dX10_readsItem_96 : decode cX10_readsItem 96 = .ok (.iconst 1, 1) := by decide +kernel
theorem dX10_readsItem_97 : decode cX10_readsItem 97 = .ok (.isub, 1) := by decide +kernel
theorem dX10_readsItem_98 : decode cX10_readsItem 98 = .ok (.invokevirtual 89, 3) := by decide +kernel
theorem dX10_readsItem_101 : decode cX10_readsItem 101 = .ok (.ifCond .eq 7, 3) := by decide +kernel
theorem dX10_readsItem_104 : decode cX10_readsItem 104 = .ok (.iconst 1, 1) := by decide +kernel
theorem dX10_readsItem_105 : decode cX10_readsItem 105 = .ok (.goto 4, 3) := by decide +kernel
theorem dX10_readsItem_108 : decode cX10_readsItem 108 = .ok (.iconst 0, 1) := by decide +kernel
theorem dX10_readsItem_109 : decode cX10_readsItem 109 = .ok (.istore 4, 2) := by decide +kernel
theorem dX10_readsItem_111 : decode cX10_readsItem 111 = .ok (.iload 4, 2) := by decide +kernel
theorem dX10_readsItem_113 : decode cX10_readsItem 113 = .ok (.ifCond .ne 5, 3) := by decide +kernel
theorem dX10_readsItem_116 : decode cX10_readsItem 116 = .ok (.iconst 0, 1) := by decide +kernel
theorem dX10_readsItem_117 : decode cX10_readsItem 117 = .ok (.ireturn, 1) := by decide +kernel
theorem dX10_readsItem_118 : decode cX10_readsItem 118 = .ok (.iload_n 1, 1) := by decide +kernel
theorem dX10_readsItem_119 : decode cX10_readsItem 119 = .ok (.ifCond .eq 9, 3) := by decide +kernel
theorem dX10_readsItem_122 : decode cX10_readsItem 122 = .ok (.aload_n 0, 1) := by decide +kernel
theorem dX10_readsItem_123 : decode cX10_readsItem 123 = .ok (.iload_n 3, 1) := by decide +kernel
theorem dX10_readsItem_124 : decode cX10_readsItem 124 = .ok (.iload_n 2, 1) := by decide +kernel
theorem dX10_readsItem_125 : decode cX10_readsItem 125 = .ok (.invokevirtual 128, 3) := by decide +kernel
theorem dX10_readsItem_128 : decode cX10_readsItem 128 = .ok (.aload_n 0, 1) := by decide +kernel
theorem dX10_readsItem_129 : decode cX10_readsItem 129 = .ok (.iload_n 3, 1) := by decide +kernel
theorem dX10_readsItem_130 : decode cX10_readsItem 130 = .ok (.ifCond .ne 14, 3) := by decide +kernel
theorem dX10_readsItem_133 : decode cX10_readsItem 133 = .ok (.iconst 1, 1) := by decide +kernel
theorem dX10_readsItem_134 : decode cX10_readsItem 134 = .ok (.aload_n 0, 1) := by decide +kernel
theorem dX10_readsItem_135 : decode cX10_readsItem 135 = .ok (.getfield 41, 3) := by decide +kernel
theorem dX10_readsItem_138 : decode cX10_readsItem 138 = .ok (.iconst 0, 1) := by decide +kernel
theorem dX10_readsItem_139 : decode cX10_readsItem 139 = .ok (.iaload, 1) := by decide +kernel
theorem dX10_readsItem_140 : decode cX10_readsItem 140 = .ok (.ishl, 1) := by decide +kernel
theorem dX10_readsItem_141 : decode cX10_readsItem 141 = .ok (.goto 7, 3) := by decide +kernel
theorem dX10_readsItem_144 : decode cX10_readsItem 144 = .ok (.aload_n 0, 1) := by decide +kernel
theorem dX10_readsItem_145 : decode cX10_readsItem 145 = .ok (.getfield 93, 3) := by decide +kernel
theorem dX10_readsItem_148 : decode cX10_readsItem 148 = .ok (.putfield 93, 3) := by decide +kernel
theorem dX10_readsItem_151 : decode cX10_readsItem 151 = .ok (.aload_n 0, 1) := by decide +kernel
theorem dX10_readsItem_152 : decode cX10_readsItem 152 = .ok (.dup, 1) := by decide +kernel
theorem dX10_readsItem_153 : decode cX10_readsItem 153 = .ok (.getfield 102, 3) := by decide +kernel
theorem dX10_readsItem_156 : decode cX10_readsItem 156 = .ok (.iload_n 3, 1) := by decide +kernel
theorem dX10_readsItem_157 : decode cX10_readsItem 157 = .ok (.iconst 1, 1) := by decide +kernel
theorem dX10_readsItem_158 : decode cX10_readsItem 158 = .ok (.if_icmp .eq 8, 3) := by decide +kernel
theorem dX10_readsItem_161 : decode cX10_readsItem 161 = .ok (.iload_n 3, 1) := by decide +kernel
theorem dX10_readsItem_162 : decode cX10_readsItem 162 = .ok (.iconst 2, 1) := by decide +kernel
theorem dX10_readsItem_163 : decode cX10_readsItem 163 = .ok (.if_icmp .ne 7, 3) := by decide +kernel
theorem dX10_readsItem_166 : decode cX10_readsItem 166 = .ok (.iconst 1, 1) := by decide +kernel
theorem dX10_readsItem_167 : decode cX10_readsItem 167 = .ok (.goto 4, 3) := by decide +kernel
theorem dX10_readsItem_170 : decode cX10_readsItem 170 = .ok (.iconst 0, 1) := by decide +kernel
theorem dX10_readsItem_171 : decode cX10_readsItem 171 = .ok (.iadd, 1) := by decide +kernel
theorem dX10_readsItem_172 : decode cX10_readsItem 172 = .ok (.putfield 102, 3) := by decide +kernel
theorem dX10_readsItem_175 : decode cX10_readsItem 175 = .ok (.aload_n 0, 1) := by decide +kernel
theorem dX10_readsItem_176 : decode cX10_readsItem 176 = .ok (.dup, 1) := by decide +kernel
theorem dX10_readsItem_177 : decode cX10_readsItem 177 = .ok (.getfield 99, 3) := by decide +kernel
theorem dX10_readsItem_180 : decode cX10_readsItem 180 = .ok (.iload_n 3, 1) := by decide +kernel
theorem dX10_readsItem_181 : decode cX10_readsItem 181 = .ok (.iconst 3, 1) := by decide +kernel
theorem dX10_readsItem_182 : decode cX10_readsItem 182 = .ok (.if_icmp .ne 7, 3) := by decide +kernel
theorem dX10_readsItem_185 : decode cX10_readsItem 185 = .ok (.iconst 1, 1) := by decide +kernel
theorem dX10_readsItem_186 : decode cX10_readsItem 186 = .ok (.goto 4, 3) := by decide +kernel
theorem dX10_readsItem_189 : decode cX10_readsItem 189 = .ok (.iconst 0, 1) := by decide +kernel
theorem dX10_readsItem_190 : decode cX10_readsItem 190 = .ok (.iadd, 1) := by decide +kernel
theorem dX10_readsItem_191 : decode cX10_readsItem 191 = .ok (.putfield 99, 3) := by decide +kernel
theorem dX10_readsItem_194 : decode cX10_readsItem 194 = .ok (.aload_n 0, 1) := by decide +kernel
theorem dX10_readsItem_195 : decode cX10_readsItem 195 = .ok (.dup, 1) := by decide +kernel
theorem dX10_readsItem_196 : decode cX10_readsItem 196 = .ok (.getfield 96, 3) := by decide +kernel
theorem dX10_readsItem_199 : decode cX10_readsItem 199 = .ok (.iconst 1, 1) := by decide +kernel
theorem dX10_readsItem_200 : decode cX10_readsItem 200 = .ok (.iadd, 1) := by decide +kernel
theorem dX10_readsItem_201 : decode cX10_readsItem 201 = .ok (.putfield 96, 3) := by decide +kernel
theorem dX10_readsItem_204 : decode cX10_readsItem 204 = .ok (.iconst 1, 1) := by decide +kernel
theorem dX10_readsItem_205 : decode cX10_readsItem 205 = .ok (.ireturn, 1) := by decide +kernel
theorem dX10_goesThrough_0 : decode cX10_goesThrough 0 = .ok (.aload_n 0, 1) := by decide +kernel
theorem dX10_goesThrough_1 : decode cX10_goesThrough 1 = .ok (.iconst 0, 1) := by decide +kernel
theorem dX10_goesThrough_2 : decode cX10_goesThrough 2 = .ok (.putfield 73, 3) := by decide +kernel
theorem dX10_goesThrough_5 : decode cX10_goesThrough 5 = .ok (.aload_n 0, 1) := by decide +kernel
theorem dX10_goesThrough_6 : decode cX10_goesThrough 6 = .ok (.iconst 0, 1) := by decide +kernel
theorem dX10_goesThrough_7 : decode cX10_goesThrough 7 = .ok (.putfield 96, 3) := by decide +kernel
theorem dX10_goesThrough_10 : decode cX10_goesThrough 10 = .ok (.aload_n 0, 1) := by decide +kernel
theorem dX10_goesThrough_11 : decode cX10_goesThrough 11 = .ok (.iconst 0, 1) := by decide +kernel
theorem dX10_goesThrough_12 : decode cX10_goesThrough 12 = .ok (.putfield 102, 3) := by decide +kernel
theorem dX10_goesThrough_15 : decode cX10_goesThrough 15 = .ok (.aload_n 0, 1) := by decide +kernel
theorem dX10_goesThrough_16 : decode cX10_goesThrough 16 = .ok (.iconst 0, 1) := by decide +kernel
theorem dX10_goesThrough_17 : decode cX10_goesThrough 17 = .ok (.putfield 99, 3) := by decide +kernel
theorem dX10_goesThrough_20 : decode cX10_goesThrough 20 = .ok (.aload_n 0, 1) := by decide +kernel
theorem dX10_goesThrough_21 : decode cX10_goesThrough 21 = .ok (.iconst 0, 1) := by decide +kernel
theorem dX10_goesThrough_22 : decode cX10_goesThrough 22 = .ok (.putfield 79, 3) := by decide +kernel
theorem dX10_goesThrough_25 : decode cX10_goesThrough 25 = .ok (.aload_n 0, 1) := by decide +kernel
theorem dX10_goesThrough_26 : decode cX10_goesThrough 26 = .ok (.getfield 73, 3) := by decide +kernel
theorem dX10_goesThrough_29 : decode cX10_goesThrough 29 = .ok (.aload_n 0, 1) := by decide +kernel
theorem dX10_goesThrough_30 : decode cX10_goesThrough 30 = .ok (.getfield 70, 3) := by decide +kernel
theorem dX10_goesThrough_33 : decode cX10_goesThrough 33 = .ok (.if_icmp .ge 34, 3) := by decide +kernel
theorem dX10_goesThrough_36 : decode cX10_goesThrough 36 = .ok (.aload_n 0, 1) := by decide +kernel
theorem dX10_goesThrough_37 : decode cX10_goesThrough 37 = .ok (.getfield 73, 3) := by decide +kernel
theorem dX10_goesThrough_40 : decode cX10_goesThrough 40 = .ok (.istore_n 2, 1) := by decide +kernel
theorem dX10_goesThrough_41 : decode cX10_goesThrough 41 = .ok (.aload_n 0, 1) := by decide +kernel
theorem dX10_goesThrough_42 : decode cX10_goesThrough 42 = .ok (.iload_n 1, 1) := by decide +kernel
theorem dX10_goesThrough_43 : decode cX10_goesThrough 43 = .ok (.invokevirtual 132, 3) := by decide +kernel
theorem dX10_goesThrough_46 : decode cX10_goesThrough 46 = .ok (.ifCond .ne 18, 3) := by decide +kernel
theorem dX10_goesThrough_49 : decode cX10_goesThrough 49 = .ok (.aload_n 0, 1) := by decide +kernel
theorem dX10_goesThrough_50 : decode cX10_goesThrough 50 = .ok (.getfield 38, 3) := by decide +kernel
theorem dX10_goesThrough_53 : decode cX10_goesThrough 53 = .ok (.iconst 0, 1) := by decide +kernel
theorem dX10_goesThrough_54 : decode cX10_goesThrough 54 = .ok (.bipush 100, 2) := by decide +kernel
theorem dX10_goesThrough_56 : decode cX10_goesThrough 56 = .ok (.aload_n 0, 1) := by decide +kernel
theorem dX10_goesThrough_57 : decode cX10_goesThrough 57 = .ok (.getfield 96, 3) := by decide +kernel
theorem dX10_goesThrough_60 : decode cX10_goesThrough 60 = .ok (.iadd, 1) := by decide +kernel
theorem dX10_goesThrough_61 : decode cX10_goesThrough 61 = .ok (.iastore, 1) := by decide +kernel
theorem dX10_goesThrough_62 : decode cX10_goesThrough 62 = .ok (.iload_n 2, 1) := by decide +kernel
theorem dX10_goesThrough_63 : decode cX10_goesThrough 63 = .ok (.ireturn, 1) := by decide +kernel
theorem dX10_goesThrough_64 : decode cX10_goesThrough 64 = .ok (.goto (-39), 3) := by decide +kernel
theorem dX10_goesThrough_67 : decode cX10_goesThrough 67 = .ok (.bipush (-4), 2) := by decide +kernel
theorem dX10_goesThrough_69 : decode cX10_goesThrough 69 = .ok (.ireturn, 1) := by decide +kernel
theorem dX10_fault_0 : decode cX10_fault 0 = .ok (.aload_n 0, 1) := by decide +kernel
theorem dX10_fault_1 : decode cX10_fault 1 = .ok (.iconst 0, 1) := by decide +kernel
theorem dX10_fault_2 : decode cX10_fault 2 = .ok (.invokevirtual 136, 3) := by decide +kernel
theorem dX10_fault_5 : decode cX10_fault 5 = .ok (.ireturn, 1) := by decide +kernel
theorem dX10_lay_0 : decode cX10_lay 0 = .ok (.aload_n 0, 1) := by decide +kernel
theorem dX10_lay_1 : decode cX10_lay 1 = .ok (.iconst 0, 1) := by decide +kernel
theorem dX10_lay_2 : decode cX10_lay 2 = .ok (.invokevirtual 136, 3) := by decide +kernel
theorem dX10_lay_5 : decode cX10_lay 5 = .ok (.bipush (-4), 2) := by decide +kernel
theorem dX10_lay_7 : decode cX10_lay 7 = .ok (.if_icmp .eq 6, 3) := by decide +kernel
theorem dX10_lay_10 : decode cX10_lay 10 = .ok (.bipush (-2), 2) := by decide +kernel
theorem dX10_lay_12 : decode cX10_lay 12 = .ok (.ireturn, 1) := by decide +kernel
theorem dX10_lay_13 : decode cX10_lay 13 = .ok (.aload_n 0, 1) := by decide +kernel
theorem dX10_lay_14 : decode cX10_lay 14 = .ok (.getfield 70, 3) := by decide +kernel
theorem dX10_lay_17 : decode cX10_lay 17 = .ok (.ifCond .ne 18, 3) := by decide +kernel
theorem dX10_lay_20 : decode cX10_lay 20 = .ok (.aload_n 0, 1) := by decide +kernel
theorem dX10_lay_21 : decode cX10_lay 21 = .ok (.getfield 38, 3) := by decide +kernel
theorem dX10_lay_24 : decode cX10_lay 24 = .ok (.iconst 0, 1) := by decide +kernel
theorem dX10_lay_25 : decode cX10_lay 25 = .ok (.iconst 5, 1) := by decide +kernel
theorem dX10_lay_26 : decode cX10_lay 26 = .ok (.iastore, 1) := by decide +kernel
theorem dX10_lay_27 : decode cX10_lay 27 = .ok (.aload_n 0, 1) := by decide +kernel
theorem dX10_lay_28 : decode cX10_lay 28 = .ok (.iconst 1, 1) := by decide +kernel
theorem dX10_lay_29 : decode cX10_lay 29 = .ok (.putfield 79, 3) := by decide +kernel
theorem dX10_lay_32 : decode cX10_lay 32 = .ok (.bipush (-2), 2) := by decide +kernel
theorem dX10_lay_34 : decode cX10_lay 34 = .ok (.ireturn, 1) := by decide +kernel
theorem dX10_lay_35 : decode cX10_lay 35 = .ok (.aload_n 0, 1) := by decide +kernel
theorem dX10_lay_36 : decode cX10_lay 36 = .ok (.iconst 1, 1) := by decide +kernel
theorem dX10_lay_37 : decode cX10_lay 37 = .ok (.invokevirtual 136, 3) := by decide +kernel
theorem dX10_lay_40 : decode cX10_lay 40 = .ok (.pop, 1) := by decide +kernel
theorem dX10_lay_41 : decode cX10_lay 41 = .ok (.aload_n 0, 1) := by decide +kernel
theorem dX10_lay_42 : decode cX10_lay 42 = .ok (.aload_n 0, 1) := by decide +kernel
theorem dX10_lay_43 : decode cX10_lay 43 = .ok (.getfield 102, 3) := by decide +kernel
theorem dX10_lay_46 : decode cX10_lay 46 = .ok (.putfield 19, 3) := by decide +kernel
theorem dX10_lay_49 : decode cX10_lay 49 = .ok (.aload_n 0, 1) := by decide +kernel
theorem dX10_lay_50 : decode cX10_lay 50 = .ok (.aload_n 0, 1) := by decide +kernel
theorem dX10_lay_51 : decode cX10_lay 51 = .ok (.getfield 99, 3) := by decide +kernel
theorem dX10_lay_54 : decode cX10_lay 54 = .ok (.putfield 26, 3) := by decide +kernel
theorem dX10_lay_57 : decode cX10_lay 57 = .ok (.aload_n 0, 1) := by decide +kernel
theorem dX10_lay_58 : decode cX10_lay 58 = .ok (.invokevirtual 62, 3) := by decide +kernel
theorem dX10_lay_61 : decode cX10_lay 61 = .ok (.ireturn, 1) := by decide +kernel
theorem dX10_cause_0 : decode cX10_cause 0 = .ok (.iload_n 1, 1) := by decide +kernel
theorem dX10_cause_1 : decode cX10_cause 1 = .ok (.ifCond .ge 7, 3) := by decide +kernel
theorem dX10_cause_4 : decode cX10_cause 4 = .ok (.iconst (-1), 1) := by decide +kernel
theorem dX10_cause_5 : decode cX10_cause 5 = .ok (.goto 22, 3) := by decide +kernel
theorem dX10_cause_8 : decode cX10_cause 8 = .ok (.iload_n 1, 1) := by decide +kernel
theorem dX10_cause_9 : decode cX10_cause 9 = .ok (.aload_n 0, 1) := by decide +kernel
theorem dX10_cause_10 : decode cX10_cause 10 = .ok (.getfield 79, 3) := by decide +kernel
theorem dX10_cause_13 : decode cX10_cause 13 = .ok (.if_icmp .ge 12, 3) := by decide +kernel
theorem dX10_cause_16 : decode cX10_cause 16 = .ok (.aload_n 0, 1) := by decide +kernel
theorem dX10_cause_17 : decode cX10_cause 17 = .ok (.getfield 38, 3) := by decide +kernel
theorem dX10_cause_20 : decode cX10_cause 20 = .ok (.iload_n 1, 1) := by decide +kernel
theorem dX10_cause_21 : decode cX10_cause 21 = .ok (.iaload, 1) := by decide +kernel
theorem dX10_cause_22 : decode cX10_cause 22 = .ok (.goto 5, 3) := by decide +kernel
theorem dX10_cause_25 : decode cX10_cause 25 = .ok (.bipush (-4), 2) := by decide +kernel
theorem dX10_cause_27 : decode cX10_cause 27 = .ok (.ireturn, 1) := by decide +kernel
theorem dX10_curve_0 : decode cX10_curve 0 = .ok (.iload_n 1, 1) := by decide +kernel
theorem dX10_curve_1 : decode cX10_curve 1 = .ok (.iconst 0, 1) := by decide +kernel
theorem dX10_curve_2 : decode cX10_curve 2 = .ok (.iconst 1, 1) := by decide +kernel
theorem dX10_curve_3 : decode cX10_curve 3 = .ok (.invokestatic 66, 3) := by decide +kernel
theorem dX10_curve_6 : decode cX10_curve 6 = .ok (.ifCond .ne 5, 3) := by decide +kernel
theorem dX10_curve_9 : decode cX10_curve 9 = .ok (.iconst (-1), 1) := by decide +kernel
theorem dX10_curve_10 : decode cX10_curve 10 = .ok (.ireturn, 1) := by decide +kernel
theorem dX10_curve_11 : decode cX10_curve 11 = .ok (.iload_n 1, 1) := by decide +kernel
theorem dX10_curve_12 : decode cX10_curve 12 = .ok (.aload_n 0, 1) := by decide +kernel
theorem dX10_curve_13 : decode cX10_curve 13 = .ok (.getfield 13, 3) := by decide +kernel
theorem dX10_curve_16 : decode cX10_curve 16 = .ok (.if_icmp .ne 6, 3) := by decide +kernel
theorem dX10_curve_19 : decode cX10_curve 19 = .ok (.bipush (-2), 2) := by decide +kernel
theorem dX10_curve_21 : decode cX10_curve 21 = .ok (.ireturn, 1) := by decide +kernel
theorem dX10_curve_22 : decode cX10_curve 22 = .ok (.aload_n 0, 1) := by decide +kernel
theorem dX10_curve_23 : decode cX10_curve 23 = .ok (.iload_n 1, 1) := by decide +kernel
theorem dX10_curve_24 : decode cX10_curve 24 = .ok (.putfield 13, 3) := by decide +kernel
theorem dX10_curve_27 : decode cX10_curve 27 = .ok (.iconst 1, 1) := by decide +kernel
theorem dX10_curve_28 : decode cX10_curve 28 = .ok (.iload_n 1, 1) := by decide +kernel
theorem dX10_curve_29 : decode cX10_curve 29 = .ok (.isub, 1) := by decide +kernel
theorem dX10_curve_30 : decode cX10_curve 30 = .ok (.ireturn, 1) := by decide +kernel
theorem dX10_levels_0 : decode cX10_levels 0 = .ok (.iload_n 2, 1) := by decide +kernel
theorem dX10_levels_1 : decode cX10_levels 1 = .ok (.iconst 0, 1) := by decide +kernel
theorem dX10_levels_2 : decode cX10_levels 2 = .ok (.aload_n 0, 1) := by decide +kernel
theorem dX10_levels_3 : decode cX10_levels 3 = .ok (.getfield 7, 3) := by decide +kernel
theorem dX10_levels_6 : decode cX10_levels 6 = .ok (.invokestatic 66, 3) := by decide +kernel
theorem dX10_levels_9 : decode cX10_levels 9 = .ok (.ifCond .eq 12, 3) := by decide +kernel
theorem dX10_levels_12 : decode cX10_levels 12 = .ok (.iload_n 1, 1) := by decide +kernel
theorem dX10_levels_13 : decode cX10_levels 13 = .ok (.iconst 0, 1) := by decide +kernel
theorem dX10_levels_14 : decode cX10_levels 14 = .ok (.iload_n 2, 1) := by decide +kernel
theorem dX10_levels_15 : decode cX10_levels 15 = .ok (.invokestatic 66, 3) := by decide +kernel
theorem dX10_levels_18 : decode cX10_levels 18 = .ok (.ifCond .ne 5, 3) := by decide +kernel
theorem dX10_levels_21 : decode cX10_levels 21 = .ok (.iconst (-1), 1) := by decide +kernel
theorem dX10_levels_22 : decode cX10_levels 22 = .ok (.ireturn, 1) := by decide +kernel
theorem dX10_levels_23 : decode cX10_levels 23 = .ok (.iload_n 1, 1) := by decide +kernel
theorem dX10_levels_24 : decode cX10_levels 24 = .ok (.aload_n 0, 1) := by decide +kernel
theorem dX10_levels_25 : decode cX10_levels 25 = .ok (.getfield 105, 3) := by decide +kernel
theorem dX10_levels_28 : decode cX10_levels 28 = .ok (.if_icmp .ne 14, 3) := by decide +kernel
theorem dX10_levels_31 : decode cX10_levels 31 = .ok (.iload_n 2, 1) := by decide +kernel
theorem dX10_levels_32 : decode cX10_levels 32 = .ok (.aload_n 0, 1) := by decide +kernel
theorem dX10_levels_33 : decode cX10_levels 33 = .ok (.getfield 16, 3) := by decide +kernel
theorem dX10_levels_36 : decode cX10_levels 36 = .ok (.if_icmp .ne 6, 3) := by decide +kernel
theorem dX10_levels_39 : decode cX10_levels 39 = .ok (.bipush (-2), 2) := by decide +kernel
theorem dX10_levels_41 : decode cX10_levels 41 = .ok (.ireturn, 1) := by decide +kernel
theorem dX10_levels_42 : decode cX10_levels 42 = .ok (.aload_n 0, 1) := by decide +kernel
theorem dX10_levels_43 : decode cX10_levels 43 = .ok (.getfield 105, 3) := by decide +kernel
theorem dX10_levels_46 : decode cX10_levels 46 = .ok (.bipush 10, 2) := by decide +kernel
theorem dX10_levels_48 : decode cX10_levels 48 = .ok (.aload_n 0, 1) := by decide +kernel
theorem dX10_levels_49 : decode cX10_levels 49 = .ok (.getfield 16, 3) := by decide +kernel
theorem dX10_levels_52 : decode cX10_levels 52 = .ok (.imul, 1) := by decide +kernel
theorem dX10_levels_53 : decode cX10_levels 53 = .ok (.iadd, 1) := by decide +kernel
theorem dX10_levels_54 : decode cX10_levels 54 = .ok (.istore_n 3, 1) := by decide +kernel
theorem dX10_levels_55 : decode cX10_levels 55 = .ok (.aload_n 0, 1) := by decide +kernel
theorem dX10_levels_56 : decode cX10_levels 56 = .ok (.iload_n 1, 1) := by decide +kernel
theorem dX10_levels_57 : decode cX10_levels 57 = .ok (.putfield 105, 3) := by decide +kernel
theorem dX10_levels_60 : decode cX10_levels 60 = .ok (.aload_n 0, 1) := by decide +kernel
theorem dX10_levels_61 : decode cX10_levels 61 = .ok (.iload_n 2, 1) := by decide +kernel
theorem dX10_levels_62 : decode cX10_levels 62 = .ok (.putfield 16, 3) := by decide +kernel
theorem dX10_levels_65 : decode cX10_levels 65 = .ok (.iload_n 3, 1) := by decide +kernel
theorem dX10_levels_66 : decode cX10_levels 66 = .ok (.ireturn, 1) := by decide +kernel
theorem dX10_more_0 : decode cX10_more 0 = .ok (.aload_n 0, 1) := by decide +kernel
theorem dX10_more_1 : decode cX10_more 1 = .ok (.getfield 19, 3) := by decide +kernel
theorem dX10_more_4 : decode cX10_more 4 = .ok (.bipush 8, 2) := by decide +kernel
theorem dX10_more_6 : decode cX10_more 6 = .ok (.if_icmp .ne 6, 3) := by decide +kernel
theorem dX10_more_9 : decode cX10_more 9 = .ok (.bipush (-3), 2) := by decide +kernel
theorem dX10_more_11 : decode cX10_more 11 = .ok (.ireturn, 1) := by decide +kernel
theorem dX10_more_12 : decode cX10_more 12 = .ok (.aload_n 0, 1) := by decide +kernel
theorem dX10_more_13 : decode cX10_more 13 = .ok (.aload_n 0, 1) := by decide +kernel
theorem dX10_more_14 : decode cX10_more 14 = .ok (.getfield 19, 3) := by decide +kernel
theorem dX10_more_17 : decode cX10_more 17 = .ok (.iload_n 1, 1) := by decide +kernel
theorem dX10_more_18 : decode cX10_more 18 = .ok (.iload_n 2, 1) := by decide +kernel
theorem dX10_more_19 : decode cX10_more 19 = .ok (.iload_n 3, 1) := by decide +kernel
theorem dX10_more_20 : decode cX10_more 20 = .ok (.iload 4, 2) := by decide +kernel
theorem dX10_more_22 : decode cX10_more 22 = .ok (.iload 5, 2) := by decide +kernel
theorem dX10_more_24 : decode cX10_more 24 = .ok (.iload 6, 2) := by decide +kernel
theorem dX10_more_26 : decode cX10_more 26 = .ok (.invokevirtual 108, 3) := by decide +kernel
theorem dX10_more_29 : decode cX10_more 29 = .ok (.aload_n 0, 1) := by decide +kernel
theorem dX10_more_30 : decode cX10_more 30 = .ok (.dup, 1) := by decide +kernel
theorem dX10_more_31 : decode cX10_more 31 = .ok (.getfield 19, 3) := by decide +kernel
theorem dX10_more_34 : decode cX10_more 34 = .ok (.iconst 1, 1) := by decide +kernel
theorem dX10_more_35 : decode cX10_more 35 = .ok (.iadd, 1) := by decide +kernel
theorem dX10_more_36 : decode cX10_more 36 = .ok (.putfield 19, 3) := by decide +kernel
theorem dX10_more_39 : decode cX10_more 39 = .ok (.aload_n 0, 1) := by decide +kernel
theorem dX10_more_40 : decode cX10_more 40 = .ok (.getfield 19, 3) := by decide +kernel
theorem dX10_more_43 : decode cX10_more 43 = .ok (.ireturn, 1) := by decide +kernel
theorem dX10_box_0 : decode cX10_box 0 = .ok (.iload_n 1, 1) := by decide +kernel
theorem dX10_box_1 : decode cX10_box 1 = .ok (.iconst 0, 1) := by decide +kernel
theorem dX10_box_2 : decode cX10_box 2 = .ok (.iconst 1, 1) := by decide +kernel
theorem dX10_box_3 : decode cX10_box 3 = .ok (.invokestatic 66, 3) := by decide +kernel
theorem dX10_box_6 : decode cX10_box 6 = .ok (.ifCond .eq 50, 3) := by decide +kernel
theorem dX10_box_9 : decode cX10_box 9 = .ok (.aload_n 0, 1) := by decide +kernel
theorem dX10_box_10 : decode cX10_box 10 = .ok (.iload_n 2, 1) := by decide +kernel
theorem dX10_box_11 : decode cX10_box 11 = .ok (.iload_n 3, 1) := by decide +kernel
theorem dX10_box_12 : decode cX10_box 12 = .ok (.invokevirtual 140, 3) := by decide +kernel
theorem dX10_box_15 : decode cX10_box 15 = .ok (.ifCond .eq 41, 3) := by decide +kernel
theorem dX10_box_18 : decode cX10_box 18 = .ok (.aload_n 0, 1) := by decide +kernel
theorem dX10_box_19 : decode cX10_box 19 = .ok (.iload 4, 2) := by decide +kernel
theorem dX10_box_21 : decode cX10_box 21 = .ok (.iload 5, 2) := by decide +kernel
theorem dX10_box_23 : decode cX10_box 23 = .ok (.invokevirtual 140, 3) := by decide +kernel
theorem dX10_box_26 : decode cX10_box 26 = .ok (.ifCond .eq 30, 3) := by decide +kernel
theorem dX10_box_29 : decode cX10_box 29 = .ok (.iload_n 2, 1) := by decide +kernel
theorem dX10_box_30 : decode cX10_box 30 = .ok (.iload 4, 2) := by decide +kernel
theorem dX10_box_32 : decode cX10_box 32 = .ok (.if_icmp .gt 24, 3) := by decide +kernel
theorem dX10_box_35 : decode cX10_box 35 = .ok (.iload_n 3, 1) := by decide +kernel
theorem dX10_box_36 : decode cX10_box 36 = .ok (.iload 5, 2) := by decide +kernel
theorem dX10_box_38 : decode cX10_box 38 = .ok (.if_icmp .gt 18, 3) := by decide +kernel
theorem dX10_box_41 : decode cX10_box 41 = .ok (.aload_n 0, 1) := by decide +kernel
theorem dX10_box_42 : decode cX10_box 42 = .ok (.iload_n 1, 1) := by decide +kernel
theorem dX10_box_43 : decode cX10_box 43 = .ok (.iconst 0, 1) := by decide +kernel
theorem dX10_box_44 : decode cX10_box 44 = .ok (.iload_n 2, 1) := by decide +kernel
theorem dX10_box_45 : decode cX10_box 45 = .ok (.iload_n 3, 1) := by decide +kernel
theorem dX10_box_46 : decode cX10_box 46 = .ok (.iload 4, 2) := by decide +kernel
theorem dX10_box_48 : decode cX10_box 48 = .ok (.iload 5, 2) := by decide +kernel
theorem dX10_box_50 : decode cX10_box 50 = .ok (.invokevirtual 143, 3) := by decide +kernel
theorem dX10_box_53 : decode cX10_box 53 = .ok (.goto 4, 3) := by decide +kernel
theorem dX10_box_56 : decode cX10_box 56 = .ok (.iconst (-1), 1) := by decide +kernel
theorem dX10_box_57 : decode cX10_box 57 = .ok (.ireturn, 1) := by decide +kernel
theorem dX10_disc_0 : decode cX10_disc 0 = .ok (.iload_n 1, 1) := by decide +kernel
theorem dX10_disc_1 : decode cX10_disc 1 = .ok (.iconst 0, 1) := by decide +kernel
theorem dX10_disc_2 : decode cX10_disc 2 = .ok (.iconst 1, 1) := by decide +kernel
theorem dX10_disc_3 : decode cX10_disc 3 = .ok (.invokestatic 66, 3) := by decide +kernel
theorem dX10_disc_6 : decode cX10_disc 6 = .ok (.ifCond .eq 37, 3) := by decide +kernel
theorem dX10_disc_9 : decode cX10_disc 9 = .ok (.aload_n 0, 1) := by decide +kernel
theorem dX10_disc_10 : decode cX10_disc 10 = .ok (.iload_n 2, 1) := by decide +kernel
theorem dX10_disc_11 : decode cX10_disc 11 = .ok (.iload_n 3, 1) := by decide +kernel
theorem dX10_disc_12 : decode cX10_disc 12 = .ok (.invokevirtual 140, 3) := by decide +kernel
theorem dX10_disc_15 : decode cX10_disc 15 = .ok (.ifCond .eq 28, 3) := by decide +kernel
theorem dX10_disc_18 : decode cX10_disc 18 = .ok (.iload 4, 2) := by decide +kernel
theorem dX10_disc_20 : decode cX10_disc 20 = .ok (.iconst 0, 1) := by decide +kernel
theorem dX10_disc_21 : decode cX10_disc 21 = .ok (.bipush 63, 2) := by decide +kernel
theorem dX10_disc_23 : decode cX10_disc 23 = .ok (.invokestatic 66, 3) := by decide +kernel
theorem dX10_disc_26 : decode cX10_disc 26 = .ok (.ifCond .eq 17, 3) := by decide +kernel
theorem dX10_disc_29 : decode cX10_disc 29 = .ok (.aload_n 0, 1) := by decide +kernel
theorem dX10_disc_30 : decode cX10_disc 30 = .ok (.iload_n 1, 1) := by decide +kernel
theorem dX10_disc_31 : decode cX10_disc 31 = .ok (.iconst 1, 1) := by decide +kernel
theorem dX10_disc_32 : decode cX10_disc 32 = .ok (.iload_n 2, 1) := by decide +kernel
theorem dX10_disc_33 : decode cX10_disc 33 = .ok (.iload_n 3, 1) := by decide +kernel
theorem dX10_disc_34 : decode cX10_disc 34 = .ok (.iload 4, 2) := by decide +kernel
theorem dX10_disc_36 : decode cX10_disc 36 = .ok (.iconst 0, 1) := by decide +kernel
theorem dX10_disc_37 : decode cX10_disc 37 = .ok (.invokevirtual 143, 3) := by decide +kernel
theorem dX10_disc_40 : decode cX10_disc 40 = .ok (.goto 4, 3) := by decide +kernel
theorem dX10_disc_43 : decode cX10_disc 43 = .ok (.iconst (-1), 1) := by decide +kernel
theorem dX10_disc_44 : decode cX10_disc 44 = .ok (.ireturn, 1) := by decide +kernel
theorem dX10_drop_0 : decode cX10_drop 0 = .ok (.iload_n 1, 1) := by decide +kernel
theorem dX10_drop_1 : decode cX10_drop 1 = .ok (.iconst 0, 1) := by decide +kernel
theorem dX10_drop_2 : decode cX10_drop 2 = .ok (.aload_n 0, 1) := by decide +kernel
theorem dX10_drop_3 : decode cX10_drop 3 = .ok (.getfield 19, 3) := by decide +kernel
theorem dX10_drop_6 : decode cX10_drop 6 = .ok (.iconst 1, 1) := by decide +kernel
theorem dX10_drop_7 : decode cX10_drop 7 = .ok (.isub, 1) := by decide +kernel
theorem dX10_drop_8 : decode cX10_drop 8 = .ok (.invokestatic 66, 3) := by decide +kernel
theorem dX10_drop_11 : decode cX10_drop 11 = .ok (.ifCond .ne 5, 3) := by decide +kernel
theorem dX10_drop_14 : decode cX10_drop 14 = .ok (.iconst (-1), 1) := by decide +kernel
theorem dX10_drop_15 : decode cX10_drop 15 = .ok (.ireturn, 1) := by decide +kernel
theorem dX10_drop_16 : decode cX10_drop 16 = .ok (.aload_n 0, 1) := by decide +kernel
theorem dX10_drop_17 : decode cX10_drop 17 = .ok (.dup, 1) := by decide +kernel
theorem dX10_drop_18 : decode cX10_drop 18 = .ok (.getfield 19, 3) := by decide +kernel
theorem dX10_drop_21 : decode cX10_drop 21 = .ok (.iconst 1, 1) := by decide +kernel
theorem dX10_drop_22 : decode cX10_drop 22 = .ok (.isub, 1) := by decide +kernel
theorem dX10_drop_23 : decode cX10_drop 23 = .ok (.putfield 19, 3) := by decide +kernel
theorem dX10_drop_26 : decode cX10_drop 26 = .ok (.bipush 6, 2) := by decide +kernel
theorem dX10_drop_28 : decode cX10_drop 28 = .ok (.iload_n 1, 1) := by decide +kernel
theorem dX10_drop_29 : decode cX10_drop 29 = .ok (.imul, 1) := by decide +kernel
theorem dX10_drop_30 : decode cX10_drop 30 = .ok (.istore_n 2, 1) := by decide +kernel
theorem dX10_drop_31 : decode cX10_drop 31 = .ok (.iload_n 2, 1) := by decide +kernel
theorem dX10_drop_32 : decode cX10_drop 32 = .ok (.bipush 6, 2) := by decide +kernel
theorem dX10_drop_34 : decode cX10_drop 34 = .ok (.aload_n 0, 1) := by decide +kernel
theorem dX10_drop_35 : decode cX10_drop 35 = .ok (.getfield 19, 3) := by decide +kernel
theorem dX10_drop_38 : decode cX10_drop 38 = .ok (.imul, 1) := by decide +kernel
theorem dX10_drop_39 : decode cX10_drop 39 = .ok (.if_icmp .ge 24, 3) := by decide +kernel
theorem dX10_drop_42 : decode cX10_drop 42 = .ok (.aload_n 0, 1) := by decide +kernel
theorem dX10_drop_43 : decode cX10_drop 43 = .ok (.getfield 22, 3) := by decide +kernel
theorem dX10_drop_46 : decode cX10_drop 46 = .ok (.iload_n 2, 1) := by decide +kernel
theorem dX10_drop_47 : decode cX10_drop 47 = .ok (.aload_n 0, 1) := by decide +kernel
theorem dX10_drop_48 : decode cX10_drop 48 = .ok (.getfield 22, 3) := by decide +kernel
theorem dX10_drop_51 : decode cX10_drop 51 = .ok (.iload_n 2, 1) := by decide +kernel
theorem dX10_drop_52 : decode cX10_drop 52 = .ok (.bipush 6, 2) := by decide +kernel
theorem dX10_drop_54 : decode cX10_drop 54 = .ok (.iadd, 1) := by decide +kernel
theorem dX10_drop_55 : decode cX10_drop 55 = .ok (.iaload, 1) := by decide +kernel
theorem dX10_drop_56 : decode cX10_drop 56 = .ok (.iastore, 1) := by decide +kernel
theorem dX10_drop_57 : decode cX10_drop 57 = .ok (.iinc 2 1, 3) := by decide +kernel
theorem dX10_drop_60 : decode cX10_drop 60 = .ok (.goto (-29), 3) := by decide +kernel
theorem dX10_drop_63 : decode cX10_drop 63 = .ok (.aload_n 0, 1) := by decide +kernel
theorem dX10_drop_64 : decode cX10_drop 64 = .ok (.getfield 19, 3) := by decide +kernel
theorem dX10_drop_67 : decode cX10_drop 67 = .ok (.ireturn, 1) := by decide +kernel
theorem dX10_point_0 : decode cX10_point 0 = .ok (.aload_n 0, 1) := by decide +kernel
theorem dX10_point_1 : decode cX10_point 1 = .ok (.iload_n 1, 1) := by decide +kernel
theorem dX10_point_2 : decode cX10_point 2 = .ok (.iload_n 2, 1) := by decide +kernel
theorem dX10_point_3 : decode cX10_point 3 = .ok (.invokevirtual 140, 3) := by decide +kernel
theorem dX10_point_6 : decode cX10_point 6 = .ok (.ifCond .ne 5, 3) := by decide +kernel
theorem dX10_point_9 : decode cX10_point 9 = .ok (.iconst (-1), 1) := by decide +kernel
theorem dX10_point_10 : decode cX10_point 10 = .ok (.ireturn, 1) := by decide +kernel
theorem dX10_point_11 : decode cX10_point 11 = .ok (.aload_n 0, 1) := by decide +kernel
theorem dX10_point_12 : decode cX10_point 12 = .ok (.getfield 26, 3) := by decide +kernel
theorem dX10_point_15 : decode cX10_point 15 = .ok (.bipush 40, 2) := by decide +kernel
theorem dX10_point_17 : decode cX10_point 17 = .ok (.if_icmp .ne 6, 3) := by decide +kernel
theorem dX10_point_20 : decode cX10_point 20 = .ok (.bipush (-3), 2) := by decide +kernel
theorem dX10_point_22 : decode cX10_point 22 = .ok (.ireturn, 1) := by decide +kernel
theorem dX10_point_23 : decode cX10_point 23 = .ok (.aload_n 0, 1) := by decide +kernel
theorem dX10_point_24 : decode cX10_point 24 = .ok (.getfield 29, 3) := by decide +kernel
theorem dX10_point_27 : decode cX10_point 27 = .ok (.aload_n 0, 1) := by decide +kernel
theorem dX10_point_28 : decode cX10_point 28 = .ok (.getfield 26, 3) := by decide +kernel
theorem dX10_point_31 : decode cX10_point 31 = .ok (.iload_n 1, 1) := by decide +kernel
theorem dX10_point_32 : decode cX10_point 32 = .ok (.iastore, 1) := by decide +kernel
theorem dX10_point_33 : decode cX10_point 33 = .ok (.aload_n 0, 1) := by decide +kernel
theorem dX10_point_34 : decode cX10_point 34 = .ok (.getfield 32, 3) := by decide +kernel
theorem dX10_point_37 : decode cX10_point 37 = .ok (.aload_n 0, 1) := by decide +kernel
theorem dX10_point_38 : decode cX10_point 38 = .ok (.getfield 26, 3) := by decide +kernel
theorem dX10_point_41 : decode cX10_point 41 = .ok (.iload_n 2, 1) := by decide +kernel
theorem dX10_point_42 : decode cX10_point 42 = .ok (.iastore, 1) := by decide +kernel
theorem dX10_point_43 : decode cX10_point 43 = .ok (.aload_n 0, 1) := by decide +kernel
theorem dX10_point_44 : decode cX10_point 44 = .ok (.dup, 1) := by decide +kernel
theorem dX10_point_45 : decode cX10_point 45 = .ok (.getfield 26, 3) := by decide +kernel
theorem dX10_point_48 : decode cX10_point 48 = .ok (.iconst 1, 1) := by decide +kernel
theorem dX10_point_49 : decode cX10_point 49 = .ok (.iadd, 1) := by decide +kernel
theorem dX10_point_50 : decode cX10_point 50 = .ok (.putfield 26, 3) := by decide +kernel
theorem dX10_point_53 : decode cX10_point 53 = .ok (.aload_n 0, 1) := by decide +kernel
theorem dX10_point_54 : decode cX10_point 54 = .ok (.getfield 26, 3) := by decide +kernel
theorem dX10_point_57 : decode cX10_point 57 = .ok (.iconst 1, 1) := by decide +kernel
theorem dX10_point_58 : decode cX10_point 58 = .ok (.isub, 1) := by decide +kernel
theorem dX10_point_59 : decode cX10_point 59 = .ok (.ireturn, 1) := by decide +kernel
theorem dX10_lift_0 : decode cX10_lift 0 = .ok (.iload_n 1, 1) := by decide +kernel
theorem dX10_lift_1 : decode cX10_lift 1 = .ok (.iconst 0, 1) := by decide +kernel
theorem dX10_lift_2 : decode cX10_lift 2 = .ok (.aload_n 0, 1) := by decide +kernel
theorem dX10_lift_3 : decode cX10_lift 3 = .ok (.getfield 26, 3) := by decide +kernel
theorem dX10_lift_6 : decode cX10_lift 6 = .ok (.iconst 1, 1) := by decide +kernel
theorem dX10_lift_7 : decode cX10_lift 7 = .ok (.isub, 1) := by decide +kernel
theorem dX10_lift_8 : decode cX10_lift 8 = .ok (.invokestatic 66, 3) := by decide +kernel
theorem dX10_lift_11 : decode cX10_lift 11 = .ok (.ifCond .ne 5, 3) := by decide +kernel
theorem dX10_lift_14 : decode cX10_lift 14 = .ok (.iconst (-1), 1) := by decide +kernel
theorem dX10_lift_15 : decode cX10_lift 15 = .ok (.ireturn, 1) := by decide +kernel
theorem dX10_lift_16 : decode cX10_lift 16 = .ok (.aload_n 0, 1) := by decide +kernel
theorem dX10_lift_17 : decode cX10_lift 17 = .ok (.dup, 1) := by decide +kernel
theorem dX10_lift_18 : decode cX10_lift 18 = .ok (.getfield 26, 3) := by decide +kernel
theorem dX10_lift_21 : decode cX10_lift 21 = .ok (.iconst 1, 1) := by decide +kernel
theorem dX10_lift_22 : decode cX10_lift 22 = .ok (.isub, 1) := by decide +kernel
theorem dX10_lift_23 : decode cX10_lift 23 = .ok (.putfield 26, 3) := by decide +kernel
theorem dX10_lift_26 : decode cX10_lift 26 = .ok (.iload_n 1, 1) := by decide +kernel
theorem dX10_lift_27 : decode cX10_lift 27 = .ok (.istore_n 2, 1) := by decide +kernel
theorem dX10_lift_28 : decode cX10_lift 28 = .ok (.iload_n 2, 1) := by decide +kernel
theorem dX10_lift_29 : decode cX10_lift 29 = .ok (.aload_n 0, 1) := by decide +kernel
theorem dX10_lift_30 : decode cX10_lift 30 = .ok (.getfield 26, 3) := by decide +kernel
theorem dX10_lift_33 : decode cX10_lift 33 = .ok (.if_icmp .ge 37, 3) := by decide +kernel
theorem dX10_lift_36 : decode cX10_lift 36 = .ok (.aload_n 0, 1) := by decide +kernel
theorem dX10_lift_37 : decode cX10_lift 37 = .ok (.getfield 29, 3) := by decide +kernel
theorem dX10_lift_40 : decode cX10_lift 40 = .ok (.iload_n 2, 1) := by decide +kernel
theorem dX10_lift_41 : decode cX10_lift 41 = .ok (.aload_n 0, 1) := by decide +kernel
theorem dX10_lift_42 : decode cX10_lift 42 = .ok (.getfield 29, 3) := by decide +kernel
theorem dX10_lift_45 : decode cX10_lift 45 = .ok (.iload_n 2, 1) := by decide +kernel
theorem dX10_lift_46 : decode cX10_lift 46 = .ok (.iconst 1, 1) := by decide +kernel
theorem dX10_lift_47 : decode cX10_lift 47 = .ok (.iadd, 1) := by decide +kernel
theorem dX10_lift_48 : decode cX10_lift 48 = .ok (.iaload, 1) := by decide +kernel
theorem dX10_lift_49 : decode cX10_lift 49 = .ok (.iastore, 1) := by decide +kernel
theorem dX10_lift_50 : decode cX10_lift 50 = .ok (.aload_n 0, 1) := by decide +kernel
theorem dX10_lift_51 : decode cX10_lift 51 = .ok (.getfield 32, 3) := by decide +kernel
theorem dX10_lift_54 : decode cX10_lift 54 = .ok (.iload_n 2, 1) := by decide +kernel
theorem dX10_lift_55 : decode cX10_lift 55 = .ok (.aload_n 0, 1) := by decide +kernel
theorem dX10_lift_56 : decode cX10_lift 56 = .ok (.getfield 32, 3) := by decide +kernel
theorem dX10_lift_59 : decode cX10_lift 59 = .ok (.iload_n 2, 1) := by decide +kernel
theorem dX10_lift_60 : decode cX10_lift 60 = .ok (.iconst 1, 1) := by decide +kernel
theorem dX10_lift_61 : decode cX10_lift 61 = .ok (.iadd, 1) := by decide +kernel
theorem dX10_lift_62 : decode cX10_lift 62 = .ok (.iaload, 1) := by decide +kernel
theorem dX10_lift_63 : decode cX10_lift 63 = .ok (.iastore, 1) := by decide +kernel
theorem dX10_lift_64 : decode cX10_lift 64 = .ok (.iinc 2 1, 3) := by decide +kernel
theorem dX10_lift_67 : decode cX10_lift 67 = .ok (.goto (-39), 3) := by decide +kernel
theorem dX10_lift_70 : decode cX10_lift 70 = .ok (.aload_n 0, 1) := by decide +kernel
theorem dX10_lift_71 : decode cX10_lift 71 = .ok (.getfield 26, 3) := by decide +kernel
theorem dX10_lift_74 : decode cX10_lift 74 = .ok (.ireturn, 1) := by decide +kernel
theorem dX10_keyOf_0 : decode cX10_keyOf 0 = .ok (.iload_n 1, 1) := by decide +kernel
theorem dX10_keyOf_1 : decode cX10_keyOf 1 = .ok (.istore_n 3, 1) := by decide +kernel
theorem dX10_keyOf_2 : decode cX10_keyOf 2 = .ok (.iload_n 2, 1) := by decide +kernel
theorem dX10_keyOf_3 : decode cX10_keyOf 3 = .ok (.istore 4, 2) := by decide +kernel
theorem dX10_keyOf_5 : decode cX10_keyOf 5 = .ok (.iconst 0, 1) := by decide +kernel
theorem dX10_keyOf_6 : decode cX10_keyOf 6 = .ok (.istore 5, 2) := by decide +kernel
theorem dX10_keyOf_8 : decode cX10_keyOf 8 = .ok (.aload_n 0, 1) := by decide +kernel
theorem dX10_keyOf_9 : decode cX10_keyOf 9 = .ok (.invokevirtual 62, 3) := by decide +kernel
theorem dX10_keyOf_12 : decode cX10_keyOf 12 = .ok (.iconst 2, 1) := by decide +kernel
theorem dX10_keyOf_13 : decode cX10_keyOf 13 = .ok (.idiv, 1) := by decide +kernel
theorem dX10_keyOf_14 : decode cX10_keyOf 14 = .ok (.istore 6, 2) := by decide +kernel
theorem dX10_keyOf_16 : decode cX10_keyOf 16 = .ok (.iload 6, 2) := by decide +kernel
theorem dX10_keyOf_18 : decode cX10_keyOf 18 = .ok (.ifCond .le 158, 3) := by decide +kernel
theorem dX10_keyOf_21 : decode cX10_keyOf 21 = .ok (.iload_n 3, 1) := by decide +kernel
theorem dX10_keyOf_22 : decode cX10_keyOf 22 = .ok (.iload 6, 2) := by decide +kernel
theorem dX10_keyOf_24 : decode cX10_keyOf 24 = .ok (.if_icmp .lt 7, 3) := by decide +kernel
theorem dX10_keyOf_27 : decode cX10_keyOf 27 = .ok (.iconst 1, 1) := by decide +kernel
theorem dX10_keyOf_28 : decode cX10_keyOf 28 = .ok (.goto 4, 3) := by decide +kernel
theorem dX10_keyOf_31 : decode cX10_keyOf 31 = .ok (.iconst 0, 1) := by decide +kernel
theorem dX10_keyOf_32 : decode cX10_keyOf 32 = .ok (.istore 7, 2) := by decide +kernel
theorem dX10_keyOf_34 : decode cX10_keyOf 34 = .ok (.iload 4, 2) := by decide +kernel
theorem dX10_keyOf_36 : decode cX10_keyOf 36 = .ok (.iload 6, 2) := by decide +kernel
theorem dX10_keyOf_38 : decode cX10_keyOf 38 = .ok (.if_icmp .lt 7, 3) := by decide +kernel
theorem dX10_keyOf_41 : decode cX10_keyOf 41 = .ok (.iconst 1, 1) := by decide +kernel
theorem dX10_keyOf_42 : decode cX10_keyOf 42 = .ok (.goto 4, 3) := by decide +kernel
theorem dX10_keyOf_45 : decode cX10_keyOf 45 = .ok (.iconst 0, 1) := by decide +kernel
theorem dX10_keyOf_46 : decode cX10_keyOf 46 = .ok (.istore 8, 2) := by decide +kernel
theorem dX10_keyOf_48 : decode cX10_keyOf 48 = .ok (.aload_n 0, 1) := by decide +kernel
theorem dX10_keyOf_49 : decode cX10_keyOf 49 = .ok (.getfield 13, 3) := by decide +kernel
theorem dX10_keyOf_52 : decode cX10_keyOf 52 = .ok (.ifCond .ne 13, 3) := by decide +kernel
theorem dX10_keyOf_55 : decode cX10_keyOf 55 = .ok (.iload 7, 2) := by decide +kernel
theorem dX10_keyOf_57 : decode cX10_keyOf 57 = .ok (.iconst 2, 1) := by decide +kernel
theorem dX10_keyOf_58 : decode cX10_keyOf 58 = .ok (.iload 8, 2) := by decide +kernel
theorem dX10_keyOf_60 : decode cX10_keyOf 60 = .ok (.imul, 1) := by decide +kernel
theorem dX10_keyOf_61 : decode cX10_keyOf 61 = .ok (.iadd, 1) := by decide +kernel
theorem dX10_keyOf_62 : decode cX10_keyOf 62 = .ok (.goto 17, 3) := by decide +kernel
theorem dX10_keyOf_65 : decode cX10_keyOf 65 = .ok (.iload 7, 2) := by decide +kernel
theorem dX10_keyOf_67 : decode cX10_keyOf 67 = .ok (.ifCond .ne 8, 3) := by decide +kernel
theorem dX10_keyOf_70 : decode cX10_keyOf 70 = .ok (.iload 8, 2) := by decide +kernel
theorem dX10_keyOf_72 : decode cX10_keyOf 72 = .ok (.goto 7, 3) := by decide +kernel
theorem dX10_keyOf_75 : decode cX10_keyOf 75 = .ok (.iconst 3, 1) := by decide +kernel
theorem dX10_keyOf_76 : decode cX10_keyOf 76 = .ok (.iload 8, 2) := by decide +kernel
theorem dX10_keyOf_78 : decode cX10_keyOf 78 = .ok (.isub, 1) := by decide +kernel
theorem dX10_keyOf_79 : decode cX10_keyOf 79 = .ok (.istore 9, 2) := by decide +kernel
theorem dX10_keyOf_81 : decode cX10_keyOf 81 = .ok (.iconst 4, 1) := by decide +kernel
theorem dX10_keyOf_82 : decode cX10_keyOf 82 = .ok (.iload 5, 2) := by decide +kernel
theorem dX10_keyOf_84 : decode cX10_keyOf 84 = .ok (.imul, 1) := by decide +kernel
theorem dX10_keyOf_85 : decode cX10_keyOf 85 = .ok (.iload 9, 2) := by decide +kernel
theorem dX10_keyOf_87 : decode cX10_keyOf 87 = .ok (.iadd, 1) := by decide +kernel
theorem dX10_keyOf_88 : decode cX10_keyOf 88 = .ok (.istore 5, 2) := by decide +kernel
theorem dX10_keyOf_90 : decode cX10_keyOf 90 = .ok (.iload_n 3, 1) := by decide +kernel
theorem dX10_keyOf_91 : decode cX10_keyOf 91 = .ok (.iload 7, 2) := by decide +kernel
theorem dX10_keyOf_93 : decode cX10_keyOf 93 = .ok (.iload 6, 2) := by decide +kernel
theorem dX10_keyOf_95 : decode cX10_keyOf 95 = .ok (.imul, 1) := by decide +kernel
theorem dX10_keyOf_96 : decode cX10_keyOf 96 = .ok (.isub, 1) := by decide +kernel
theorem dX10_keyOf_97 : decode cX10_keyOf 97 = .ok (.istore_n 3, 1) := by decide +kernel
theorem dX10_keyOf_98 : decode cX10_keyOf 98 = .ok (.iload 4, 2) := by decide +kernel
theorem dX10_keyOf_100 : decode cX10_keyOf 100 = .ok (.iload 8, 2) := by decide +kernel
theorem dX10_keyOf_102 : decode cX10_keyOf 102 = .ok (.iload 6, 2) := by decide +kernel
theorem dX10_keyOf_104 : decode cX10_keyOf 104 = .ok (.imul, 1) := by decide +kernel
theorem dX10_keyOf_105 : decode cX10_keyOf 105 = .ok (.isub, 1) := by decide +kernel
theorem dX10_keyOf_106 : decode cX10_keyOf 106 = .ok (.istore 4, 2) := by decide +kernel
theorem dX10_keyOf_108 : decode cX10_keyOf 108 = .ok (.aload_n 0, 1) := by decide +kernel
theorem dX10_keyOf_109 : decode cX10_keyOf 109 = .ok (.getfield 13, 3) := by decide +kernel
theorem dX10_keyOf_112 : decode cX10_keyOf 112 = .ok (.iconst 1, 1) := by decide +kernel
theorem dX10_keyOf_113 : decode cX10_keyOf 113 = .ok (.if_icmp .ne 54, 3) := by decide +kernel
theorem dX10_keyOf_116 : decode cX10_keyOf 116 = .ok (.iload 9, 2) := by decide +kernel
theorem dX10_keyOf_118 : decode cX10_keyOf 118 = .ok (.ifCond .eq 9, 3) := by decide +kernel
theorem dX10_keyOf_121 : decode cX10_keyOf 121 = .ok (.iload 9, 2) := by decide +kernel
theorem dX10_keyOf_123 : decode cX10_keyOf 123 = .ok (.iconst 3, 1) := by decide +kernel
theorem dX10_keyOf_124 : decode cX10_keyOf 124 = .ok (.if_icmp .ne 43, 3) := by decide +kernel
theorem dX10_keyOf_127 : decode cX10_keyOf 127 = .ok (.iload_n 3, 1) := by decide +kernel
theorem dX10_keyOf_128 : decode cX10_keyOf 128 = .ok (.istore 10, 2) := by decide +kernel
theorem dX10_keyOf_130 : decode cX10_keyOf 130 = .ok (.iload 9, 2) := by decide +kernel
theorem dX10_keyOf_132 : decode cX10_keyOf 132 = .ok (.ifCond .ne 8, 3) := by decide +kernel
theorem dX10_keyOf_135 : decode cX10_keyOf 135 = .ok (.iload 4, 2) := by decide +kernel
theorem dX10_keyOf_137 : decode cX10_keyOf 137 = .ok (.goto 10, 3) := by decide +kernel
theorem dX10_keyOf_140 : decode cX10_keyOf 140 = .ok (.iload 6, 2) := by decide +kernel
theorem dX10_keyOf_142 : decode cX10_keyOf 142 = .ok (.iconst 1, 1) := by decide +kernel
theorem dX10_keyOf_143 : decode cX10_keyOf 143 = .ok (.isub, 1) := by decide +kernel
theorem dX10_keyOf_144 : decode cX10_keyOf 144 = .ok (.iload 4, 2) := by decide +kernel
theorem dX10_keyOf_146 : decode cX10_keyOf 146 = .ok (.isub, 1) := by decide +kernel
theorem dX10_keyOf_147 : decode cX10_keyOf 147 = .ok (.istore_n 3, 1) := by decide +kernel
theorem dX10_keyOf_148 : decode cX10_keyOf 148 = .ok (.iload 9, 2) := by decide +kernel
theorem dX10_keyOf_150 : decode cX10_keyOf 150 = .ok (.ifCond .ne 8, 3) := by decide +kernel
theorem dX10_keyOf_153 : decode cX10_keyOf 153 = .ok (.iload 10, 2) := by decide +kernel
theorem dX10_keyOf_155 : decode cX10_keyOf 155 = .ok (.goto 10, 3) := by decide +kernel
theorem dX10_keyOf_158 : decode cX10_keyOf 158 = .ok (.iload 6, 2) := by decide +kernel
theorem dX10_keyOf_160 : decode cX10_keyOf 160 = .ok (.iconst 1, 1) := by decide +kernel
theorem dX10_keyOf_161 : decode cX10_keyOf 161 = .ok (.isub, 1) := by decide +kernel
theorem dX10_keyOf_162 : decode cX10_keyOf 162 = .ok (.iload 10, 2) := by decide +kernel
theorem dX10_keyOf_164 : decode cX10_keyOf 164 = .ok (.isub, 1) := by decide +kernel
theorem dX10_keyOf_165 : decode cX10_keyOf 165 = .ok (.istore 4, 2) := by decide +kernel
theorem dX10_keyOf_167 : decode cX10_keyOf 167 = .ok (.iload 6, 2) := by decide +kernel
theorem dX10_keyOf_169 : decode cX10_keyOf 169 = .ok (.iconst 2, 1) := by decide +kernel
theorem dX10_keyOf_170 : decode cX10_keyOf 170 = .ok (.idiv, 1) := by decide +kernel
theorem dX10_keyOf_171 : decode cX10_keyOf 171 = .ok (.istore 6, 2) := by decide +kernel
theorem dX10_keyOf_173 : decode cX10_keyOf 173 = .ok (.goto (-157), 3) := by decide +kernel
theorem dX10_keyOf_176 : decode cX10_keyOf 176 = .ok (.iload 5, 2) := by decide +kernel
theorem dX10_keyOf_178 : decode cX10_keyOf 178 = .ok (.ireturn, 1) := by decide +kernel
theorem dX10_setCell_0 : decode cX10_setCell 0 = .ok (.iconst 0, 1) := by decide +kernel
theorem dX10_setCell_1 : decode cX10_setCell 1 = .ok (.istore_n 2, 1) := by decide +kernel
theorem dX10_setCell_2 : decode cX10_setCell 2 = .ok (.iconst 0, 1) := by decide +kernel
theorem dX10_setCell_3 : decode cX10_setCell 3 = .ok (.istore_n 3, 1) := by decide +kernel
theorem dX10_setCell_4 : decode cX10_setCell 4 = .ok (.iload_n 1, 1) := by decide +kernel
theorem dX10_setCell_5 : decode cX10_setCell 5 = .ok (.istore 4, 2) := by decide +kernel
theorem dX10_setCell_7 : decode cX10_setCell 7 = .ok (.iconst 1, 1) := by decide +kernel
theorem dX10_setCell_8 : decode cX10_setCell 8 = .ok (.istore 5, 2) := by decide +kernel
theorem dX10_setCell_10 : decode cX10_setCell 10 = .ok (.iload 5, 2) := by decide +kernel
theorem dX10_setCell_12 : decode cX10_setCell 12 = .ok (.aload_n 0, 1) := by decide +kernel
theorem dX10_setCell_13 : decode cX10_setCell 13 = .ok (.invokevirtual 62, 3) := by decide +kernel
theorem dX10_setCell_16 : decode cX10_setCell 16 = .ok (.if_icmp .ge 149, 3) := by decide +kernel
theorem dX10_setCell_19 : decode cX10_setCell 19 = .ok (.iload 4, 2) := by decide +kernel
theorem dX10_setCell_21 : decode cX10_setCell 21 = .ok (.iconst 4, 1) := by decide +kernel
theorem dX10_setCell_22 : decode cX10_setCell 22 = .ok (.irem, 1) := by decide +kernel
theorem dX10_setCell_23 : decode cX10_setCell 23 = .ok (.istore 6, 2) := by decide +kernel
theorem dX10_setCell_25 : decode cX10_setCell 25 = .ok (.iload 4, 2) := by decide +kernel
theorem dX10_setCell_27 : decode cX10_setCell 27 = .ok (.iconst 4, 1) := by decide +kernel
theorem dX10_setCell_28 : decode cX10_setCell 28 = .ok (.idiv, 1) := by decide +kernel
theorem dX10_setCell_29 : decode cX10_setCell 29 = .ok (.istore 4, 2) := by decide +kernel
theorem dX10_setCell_31 : decode cX10_setCell 31 = .ok (.aload_n 0, 1) := by decide +kernel
theorem dX10_setCell_32 : decode cX10_setCell 32 = .ok (.getfield 13, 3) := by decide +kernel
theorem dX10_setCell_35 : decode cX10_setCell 35 = .ok (.ifCond .ne 10, 3) := by decide +kernel
theorem dX10_setCell_38 : decode cX10_setCell 38 = .ok (.iload 6, 2) := by decide +kernel
theorem dX10_setCell_40 : decode cX10_setCell 40 = .ok (.iconst 2, 1) := by decide +kernel
theorem dX10_setCell_41 : decode cX10_setCell 41 = .ok (.irem, 1) := by decide +kernel
theorem dX10_setCell_42 : decode cX10_setCell 42 = .ok (.goto 7, 3) := by decide +kernel
theorem dX10_setCell_45 : decode cX10_setCell 45 = .ok (.iload 6, 2) := by decide +kernel
theorem dX10_setCell_47 : decode cX10_setCell 47 = .ok (.iconst 2, 1) := by decide +kernel
theorem dX10_setCell_48 : decode cX10_setCell 48 = .ok (.idiv, 1) := by decide +kernel
theorem dX10_setCell_49 : decode cX10_setCell 49 = .ok (.istore 7, 2) := by decide +kernel
theorem dX10_setCell_51 : decode cX10_setCell 51 = .ok (.aload_n 0, 1) := by decide +kernel
theorem dX10_setCell_52 : decode cX10_setCell 52 = .ok (.getfield 13, 3) := by decide +kernel
theorem dX10_setCell_55 : decode cX10_setCell 55 = .ok (.ifCond .ne 10, 3) := by decide +kernel
theorem dX10_setCell_58 : decode cX10_setCell 58 = .ok (.iload 6, 2) := by decide +kernel
theorem dX10_setCell_60 : decode cX10_setCell 60 = .ok (.iconst 2, 1) := by decide +kernel
theorem dX10_setCell_61 : decode cX10_setCell 61 = .ok (.idiv, 1) := by decide +kernel
theorem dX10_setCell_62 : decode cX10_setCell 62 = .ok (.goto 20, 3) := by decide +kernel
theorem dX10_setCell_65 : decode cX10_setCell 65 = .ok (.iload 6, 2) := by decide +kernel
theorem dX10_setCell_67 : decode cX10_setCell 67 = .ok (.iconst 1, 1) := by decide +kernel
theorem dX10_setCell_68 : decode cX10_setCell 68 = .ok (.if_icmp .eq 9, 3) := by decide +kernel
theorem dX10_setCell_71 : decode cX10_setCell 71 = .ok (.iload 6, 2) := by decide +kernel
theorem dX10_setCell_73 : decode cX10_setCell 73 = .ok (.iconst 2, 1) := by decide +kernel
theorem dX10_setCell_74 : decode cX10_setCell 74 = .ok (.if_icmp .ne 7, 3) := by decide +kernel
theorem dX10_setCell_77 : decode cX10_setCell 77 = .ok (.iconst 1, 1) := by decide +kernel
theorem dX10_setCell_78 : decode cX10_setCell 78 = .ok (.goto 4, 3) := by decide +kernel
theorem dX10_setCell_81 : decode cX10_setCell 81 = .ok (.iconst 0, 1) := by decide +kernel
theorem dX10_setCell_82 : decode cX10_setCell 82 = .ok (.istore 8, 2) := by decide +kernel
theorem dX10_setCell_84 : decode cX10_setCell 84 = .ok (.aload_n 0, 1) := by decide +kernel
theorem dX10_setCell_85 : decode cX10_setCell 85 = .ok (.getfield 13, 3) := by decide +kernel
theorem dX10_setCell_88 : decode cX10_setCell 88 = .ok (.iconst 1, 1) := by decide +kernel
theorem dX10_setCell_89 : decode cX10_setCell 89 = .ok (.if_icmp .ne 51, 3) := by decide +kernel
theorem dX10_setCell_92 : decode cX10_setCell 92 = .ok (.iload 6, 2) := by decide +kernel
theorem dX10_setCell_94 : decode cX10_setCell 94 = .ok (.ifCond .eq 9, 3) := by decide +kernel
theorem dX10_setCell_97 : decode cX10_setCell 97 = .ok (.iload 6, 2) := by decide +kernel
theorem dX10_setCell_99 : decode cX10_setCell 99 = .ok (.iconst 3, 1) := by decide +kernel
theorem dX10_setCell_100 : decode cX10_setCell 100 = .ok (.if_icmp .ne 40, 3) := by decide +kernel
theorem dX10_setCell_103 : decode cX10_setCell 103 = .ok (.iload_n 2, 1) := by decide +kernel
theorem dX10_setCell_104 : decode cX10_setCell 104 = .ok (.istore 9, 2) := by decide +kernel
theorem dX10_setCell_106 : decode cX10_setCell 106 = .ok (.iload 6, 2) := by decide +kernel
theorem dX10_setCell_108 : decode cX10_setCell 108 = .ok (.ifCond .ne 7, 3) := by decide +kernel
theorem dX10_setCell_111 : decode cX10_setCell 111 = .ok (.iload_n 3, 1) := by decide +kernel
theorem dX10_setCell_112 : decode cX10_setCell 112 = .ok (.goto 9, 3) := by decide +kernel
theorem dX10_setCell_115 : decode cX10_setCell 115 = .ok (.iload 5, 2) := by decide +kernel
theorem dX10_setCell_117 : decode cX10_setCell 117 = .ok (.iconst 1, 1) := by decide +kernel
theorem dX10_setCell_118 : decode cX10_setCell 118 = .ok (.isub, 1) := by decide +kernel
theorem dX10_setCell_119 : decode cX10_setCell 119 = .ok (.iload_n 3, 1) := by decide +kernel
theorem dX10_setCell_120 : decode cX10_setCell 120 = .ok (.isub, 1) := by decide +kernel
theorem dX10_setCell_121 : decode cX10_setCell 121 = .ok (.istore_n 2, 1) := by decide +kernel
theorem dX10_setCell_122 : decode cX10_setCell 122 = .ok (.iload 6, 2) := by decide +kernel
theorem dX10_setCell_124 : decode cX10_setCell 124 = .ok (.ifCond .ne 8, 3) := by decide +kernel
theorem dX10_setCell_127 : decode cX10_setCell 127 = .ok (.iload 9, 2) := by decide +kernel
theorem dX10_setCell_129 : decode cX10_setCell 129 = .ok (.goto 10, 3) := by decide +kernel
theorem dX10_setCell_132 : decode cX10_setCell 132 = .ok (.iload 5, 2) := by decide +kernel
theorem dX10_setCell_134 : decode cX10_setCell 134 = .ok (.iconst 1, 1) := by decide +kernel
theorem dX10_setCell_135 : decode cX10_setCell 135 = .ok (.isub, 1) := by decide +kernel
theorem dX10_setCell_136 : decode cX10_setCell 136 = .ok (.iload 9, 2) := by decide +kernel
theorem dX10_setCell_138 : decode cX10_setCell 138 = .ok (.isub, 1) := by decide +kernel
theorem dX10_setCell_139 : decode cX10_setCell 139 = .ok (.istore_n 3, 1) := by decide +kernel
theorem dX10_setCell_140 : decode cX10_setCell 140 = .ok (.iload_n 2, 1) := by decide +kernel
theorem dX10_setCell_141 : decode cX10_setCell 141 = .ok (.iload 7, 2) := by decide +kernel
theorem dX10_setCell_143 : decode cX10_setCell 143 = .ok (.iload 5, 2) := by decide +kernel
theorem dX10_setCell_145 : decode cX10_setCell 145 = .ok (.imul, 1) := by decide +kernel
theorem dX10_setCell_146 : decode cX10_setCell 146 = .ok (.iadd, 1) := by decide +kernel
theorem dX10_setCell_147 : decode cX10_setCell 147 = .ok (.istore_n 2, 1) := by decide +kernel
theorem dX10_setCell_148 : decode cX10_setCell 148 = .ok (.iload_n 3, 1) := by decide +kernel
theorem dX10_setCell_149 : decode cX10_setCell 149 = .ok (.iload 8, 2) := by decide +kernel
theorem dX10_setCell_151 : decode cX10_setCell 151 = .ok (.iload 5, 2) := by decide +kernel
theorem dX10_setCell_153 : decode cX10_setCell 153 = .ok (.imul, 1) := by decide +kernel
theorem dX10_setCell_154 : decode cX10_setCell 154 = .ok (.iadd, 1) := by decide +kernel
theorem dX10_setCell_155 : decode cX10_setCell 155 = .ok (.istore_n 3, 1) := by decide +kernel
theorem dX10_setCell_156 : decode cX10_setCell 156 = .ok (.iload 5, 2) := by decide +kernel
theorem dX10_setCell_158 : decode cX10_setCell 158 = .ok (.iconst 2, 1) := by decide +kernel
theorem dX10_setCell_159 : decode cX10_setCell 159 = .ok (.imul, 1) := by decide +kernel
theorem dX10_setCell_160 : decode cX10_setCell 160 = .ok (.istore 5, 2) := by decide +kernel
theorem dX10_setCell_162 : decode cX10_setCell 162 = .ok (.goto (-152), 3) := by decide +kernel
theorem dX10_setCell_165 : decode cX10_setCell 165 = .ok (.aload_n 0, 1) := by decide +kernel
theorem dX10_setCell_166 : decode cX10_setCell 166 = .ok (.iload_n 2, 1) := by decide +kernel
theorem dX10_setCell_167 : decode cX10_setCell 167 = .ok (.putfield 147, 3) := by decide +kernel
theorem dX10_setCell_170 : decode cX10_setCell 170 = .ok (.aload_n 0, 1) := by decide +kernel
theorem dX10_setCell_171 : decode cX10_setCell 171 = .ok (.iload_n 3, 1) := by decide +kernel
theorem dX10_setCell_172 : decode cX10_setCell 172 = .ok (.putfield 150, 3) := by decide +kernel
theorem dX10_setCell_175 : decode cX10_setCell 175 = .ok (.return_, 1) := by decide +kernel
theorem dX10_key_0 : decode cX10_key 0 = .ok (.aload_n 0, 1) := by decide +kernel
theorem dX10_key_1 : decode cX10_key 1 = .ok (.iload_n 1, 1) := by decide +kernel
theorem dX10_key_2 : decode cX10_key 2 = .ok (.iload_n 2, 1) := by decide +kernel
theorem dX10_key_3 : decode cX10_key 3 = .ok (.invokevirtual 140, 3) := by decide +kernel
theorem dX10_key_6 : decode cX10_key 6 = .ok (.ifCond .eq 12, 3) := by decide +kernel
theorem dX10_key_9 : decode cX10_key 9 = .ok (.aload_n 0, 1) := by decide +kernel
theorem dX10_key_10 : decode cX10_key 10 = .ok (.iload_n 1, 1) := by decide +kernel
theorem dX10_key_11 : decode cX10_key 11 = .ok (.iload_n 2, 1) := by decide +kernel
theorem dX10_key_12 : decode cX10_key 12 = .ok (.invokevirtual 153, 3) := by decide +kernel
theorem dX10_key_15 : decode cX10_key 15 = .ok (.goto 4, 3) := by decide +kernel
theorem dX10_key_18 : decode cX10_key 18 = .ok (.iconst (-1), 1) := by decide +kernel
theorem dX10_key_19 : decode cX10_key 19 = .ok (.ireturn, 1) := by decide +kernel
theorem dX10_cell_0 : decode cX10_cell 0 = .ok (.iload_n 1, 1) := by decide +kernel
theorem dX10_cell_1 : decode cX10_cell 1 = .ok (.iconst 0, 1) := by decide +kernel
theorem dX10_cell_2 : decode cX10_cell 2 = .ok (.aload_n 0, 1) := by decide +kernel
theorem dX10_cell_3 : decode cX10_cell 3 = .ok (.invokevirtual 157, 3) := by decide +kernel
theorem dX10_cell_6 : decode cX10_cell 6 = .ok (.iconst 1, 1) := by decide +kernel
theorem dX10_cell_7 : decode cX10_cell 7 = .ok (.isub, 1) := by decide +kernel
theorem dX10_cell_8 : decode cX10_cell 8 = .ok (.invokestatic 66, 3) := by decide +kernel
theorem dX10_cell_11 : decode cX10_cell 11 = .ok (.ifCond .eq 12, 3) := by decide +kernel
theorem dX10_cell_14 : decode cX10_cell 14 = .ok (.iload_n 2, 1) := by decide +kernel
theorem dX10_cell_15 : decode cX10_cell 15 = .ok (.iconst 0, 1) := by decide +kernel
theorem dX10_cell_16 : decode cX10_cell 16 = .ok (.iconst 1, 1) := by decide +kernel
theorem dX10_cell_17 : decode cX10_cell 17 = .ok (.invokestatic 66, 3) := by decide +kernel
theorem dX10_cell_20 : decode cX10_cell 20 = .ok (.ifCond .ne 5, 3) := by decide +kernel
theorem dX10_cell_23 : decode cX10_cell 23 = .ok (.iconst (-1), 1) := by decide +kernel
theorem dX10_cell_24 : decode cX10_cell 24 = .ok (.ireturn, 1) := by decide +kernel
theorem dX10_cell_25 : decode cX10_cell 25 = .ok (.aload_n 0, 1) := by decide +kernel
theorem dX10_cell_26 : decode cX10_cell 26 = .ok (.iload_n 1, 1) := by decide +kernel
theorem dX10_cell_27 : decode cX10_cell 27 = .ok (.invokevirtual 160, 3) := by decide +kernel
theorem dX10_cell_30 : decode cX10_cell 30 = .ok (.iload_n 2, 1) := by decide +kernel
theorem dX10_cell_31 : decode cX10_cell 31 = .ok (.ifCond .ne 10, 3) := by decide +kernel
theorem dX10_cell_34 : decode cX10_cell 34 = .ok (.aload_n 0, 1) := by decide +kernel
theorem dX10_cell_35 : decode cX10_cell 35 = .ok (.getfield 147, 3) := by decide +kernel
theorem dX10_cell_38 : decode cX10_cell 38 = .ok (.goto 7, 3) := by decide +kernel
theorem dX10_cell_41 : decode cX10_cell 41 = .ok (.aload_n 0, 1) := by decide +kernel
theorem dX10_cell_42 : decode cX10_cell 42 = .ok (.getfield 150, 3) := by decide +kernel
theorem dX10_cell_45 : decode cX10_cell 45 = .ok (.ireturn, 1) := by decide +kernel
theorem dX10_isTile_0 : decode cX10_isTile 0 = .ok (.iload_n 1, 1) := by decide +kernel
theorem dX10_isTile_1 : decode cX10_isTile 1 = .ok (.iconst 0, 1) := by decide +kernel
theorem dX10_isTile_2 : decode cX10_isTile 2 = .ok (.aload_n 0, 1) := by decide +kernel
theorem dX10_isTile_3 : decode cX10_isTile 3 = .ok (.getfield 7, 3) := by decide +kernel
theorem dX10_isTile_6 : decode cX10_isTile 6 = .ok (.invokestatic 66, 3) := by decide +kernel
theorem dX10_isTile_9 : decode cX10_isTile 9 = .ok (.ifCond .eq 22, 3) := by decide +kernel
theorem dX10_isTile_12 : decode cX10_isTile 12 = .ok (.iload_n 2, 1) := by decide +kernel
theorem dX10_isTile_13 : decode cX10_isTile 13 = .ok (.iconst 0, 1) := by decide +kernel
theorem dX10_isTile_14 : decode cX10_isTile 14 = .ok (.iconst 1, 1) := by decide +kernel
theorem dX10_isTile_15 : decode cX10_isTile 15 = .ok (.iconst 2, 1) := by decide +kernel
theorem dX10_isTile_16 : decode cX10_isTile 16 = .ok (.iload_n 1, 1) := by decide +kernel
theorem dX10_isTile_17 : decode cX10_isTile 17 = .ok (.imul, 1) := by decide +kernel
theorem dX10_isTile_18 : decode cX10_isTile 18 = .ok (.ishl, 1) := by decide +kernel
theorem dX10_isTile_19 : decode cX10_isTile 19 = .ok (.iconst 1, 1) := by decide +kernel
theorem dX10_isTile_20 : decode cX10_isTile 20 = .ok (.isub, 1) := by decide +kernel
theorem dX10_isTile_21 : decode cX10_isTile 21 = .ok (.invokestatic 66, 3) := by decide +kernel
theorem dX10_isTile_24 : decode cX10_isTile 24 = .ok (.ifCond .eq 7, 3) := by decide +kernel
theorem dX10_isTile_27 : decode cX10_isTile 27 = .ok (.iconst 1, 1) := by decide +kernel
theorem dX10_isTile_28 : decode cX10_isTile 28 = .ok (.goto 4, 3) := by decide +kernel
theorem dX10_isTile_31 : decode cX10_isTile 31 = .ok (.iconst 0, 1) := by decide +kernel
theorem dX10_isTile_32 : decode cX10_isTile 32 = .ok (.ireturn, 1) := by decide +kernel
theorem dX10_sizeOf_0 : decode cX10_sizeOf 0 = .ok (.iconst 1, 1) := by decide +kernel
theorem dX10_sizeOf_1 : decode cX10_sizeOf 1 = .ok (.iconst 2, 1) := by decide +kernel
theorem dX10_sizeOf_2 : decode cX10_sizeOf 2 = .ok (.aload_n 0, 1) := by decide +kernel
theorem dX10_sizeOf_3 : decode cX10_sizeOf 3 = .ok (.getfield 7, 3) := by decide +kernel
theorem dX10_sizeOf_6 : decode cX10_sizeOf 6 = .ok (.iload_n 1, 1) := by decide +kernel
theorem dX10_sizeOf_7 : decode cX10_sizeOf 7 = .ok (.isub, 1) := by decide +kernel
theorem dX10_sizeOf_8 : decode cX10_sizeOf 8 = .ok (.imul, 1) := by decide +kernel
theorem dX10_sizeOf_9 : decode cX10_sizeOf 9 = .ok (.ishl, 1) := by decide +kernel
theorem dX10_sizeOf_10 : decode cX10_sizeOf 10 = .ok (.ireturn, 1) := by decide +kernel
theorem dX10_sideOf_0 : decode cX10_sideOf 0 = .ok (.iconst 1, 1) := by decide +kernel
theorem dX10_sideOf_1 : decode cX10_sideOf 1 = .ok (.aload_n 0, 1) := by decide +kernel
theorem dX10_sideOf_2 : decode cX10_sideOf 2 = .ok (.getfield 7, 3) := by decide +kernel
theorem dX10_sideOf_5 : decode cX10_sideOf 5 = .ok (.iload_n 1, 1) := by decide +kernel
theorem dX10_sideOf_6 : decode cX10_sideOf 6 = .ok (.isub, 1) := by decide +kernel
theorem dX10_sideOf_7 : decode cX10_sideOf 7 = .ok (.ishl, 1) := by decide +kernel
theorem dX10_sideOf_8 : decode cX10_sideOf 8 = .ok (.ireturn, 1) := by decide +kernel
theorem dX10_has_0 : decode cX10_has 0 = .ok (.bipush 6, 2) := by decide +kernel
theorem dX10_has_2 : decode cX10_has 2 = .ok (.iload_n 1, 1) := by decide +kernel
theorem dX10_has_3 : decode cX10_has 3 = .ok (.imul, 1) := by decide +kernel
theorem dX10_has_4 : decode cX10_has 4 = .ok (.istore 4, 2) := by decide +kernel
theorem dX10_has_6 : decode cX10_has 6 = .ok (.aload_n 0, 1) := by decide +kernel
theorem dX10_has_7 : decode cX10_has 7 = .ok (.getfield 22, 3) := by decide +kernel
theorem dX10_has_10 : decode cX10_has 10 = .ok (.iload 4, 2) := by decide +kernel
theorem dX10_has_12 : decode cX10_has 12 = .ok (.iconst 1, 1) := by decide +kernel
theorem dX10_has_13 : decode cX10_has 13 = .ok (.iadd, 1) := by decide +kernel
theorem dX10_has_14 : decode cX10_has 14 = .ok (.iaload, 1) := by decide +kernel
theorem dX10_has_15 : decode cX10_has 15 = .ok (.ifCond .ne 59, 3) := by decide +kernel
theorem dX10_has_18 : decode cX10_has 18 = .ok (.iload_n 2, 1) := by decide +kernel
theorem dX10_has_19 : decode cX10_has 19 = .ok (.aload_n 0, 1) := by decide +kernel
theorem dX10_has_20 : decode cX10_has 20 = .ok (.getfield 22, 3) := by decide +kernel
theorem dX10_has_23 : decode cX10_has 23 = .ok (.iload 4, 2) := by decide +kernel
theorem dX10_has_25 : decode cX10_has 25 = .ok (.iconst 2, 1) := by decide +kernel
theorem dX10_has_26 : decode cX10_has 26 = .ok (.iadd, 1) := by decide +kernel
theorem dX10_has_27 : decode cX10_has 27 = .ok (.iaload, 1) := by decide +kernel
theorem dX10_has_28 : decode cX10_has 28 = .ok (.aload_n 0, 1) := by decide +kernel
theorem dX10_has_29 : decode cX10_has 29 = .ok (.getfield 22, 3) := by decide +kernel
theorem dX10_has_32 : decode cX10_has 32 = .ok (.iload 4, 2) := by decide +kernel
theorem dX10_has_34 : decode cX10_has 34 = .ok (.iconst 4, 1) := by decide +kernel
theorem dX10_has_35 : decode cX10_has 35 = .ok (.iadd, 1) := by decide +kernel
theorem dX10_has_36 : decode cX10_has 36 = .ok (.iaload, 1) := by decide +kernel
theorem dX10_has_37 : decode cX10_has 37 = .ok (.invokestatic 66, 3) := by decide +kernel
theorem dX10_has_40 : decode cX10_has 40 = .ok (.ifCond .eq 32, 3) := by decide +kernel
theorem dX10_has_43 : decode cX10_has 43 = .ok (.iload_n 3, 1) := by decide +kernel
theorem dX10_has_44 : decode cX10_has 44 = .ok (.aload_n 0, 1) := by decide +kernel
theorem dX10_has_45 : decode cX10_has 45 = .ok (.getfield 22, 3) := by decide +kernel
theorem dX10_has_48 : decode cX10_has 48 = .ok (.iload 4, 2) := by decide +kernel
theorem dX10_has_50 : decode cX10_has 50 = .ok (.iconst 3, 1) := by decide +kernel
theorem dX10_has_51 : decode cX10_has 51 = .ok (.iadd, 1) := by decide +kernel
theorem dX10_has_52 : decode cX10_has 52 = .ok (.iaload, 1) := by decide +kernel
theorem dX10_has_53 : decode cX10_has 53 = .ok (.aload_n 0, 1) := by decide +kernel
theorem dX10_has_54 : decode cX10_has 54 = .ok (.getfield 22, 3) := by decide +kernel
theorem dX10_has_57 : decode cX10_has 57 = .ok (.iload 4, 2) := by decide +kernel
theorem dX10_has_59 : decode cX10_has 59 = .ok (.iconst 5, 1) := by decide +kernel
theorem dX10_has_60 : decode cX10_has 60 = .ok (.iadd, 1) := by decide +kernel
theorem dX10_has_61 : decode cX10_has 61 = .ok (.iaload, 1) := by decide +kernel
theorem dX10_has_62 : decode cX10_has 62 = .ok (.invokestatic 66, 3) := by decide +kernel
theorem dX10_has_65 : decode cX10_has 65 = .ok (.ifCond .eq 7, 3) := by decide +kernel
theorem dX10_has_68 : decode cX10_has 68 = .ok (.iconst 1, 1) := by decide +kernel
theorem dX10_has_69 : decode cX10_has 69 = .ok (.goto 4, 3) := by decide +kernel
theorem dX10_has_72 : decode cX10_has 72 = .ok (.iconst 0, 1) := by decide +kernel
theorem dX10_has_73 : decode cX10_has 73 = .ok (.ireturn, 1) := by decide +kernel
theorem dX10_has_74 : decode cX10_has 74 = .ok (.iload_n 2, 1) := by decide +kernel
theorem dX10_has_75 : decode cX10_has 75 = .ok (.aload_n 0, 1) := by decide +kernel
theorem dX10_has_76 : decode cX10_has 76 = .ok (.getfield 22, 3) := by decide +kernel
theorem dX10_has_79 : decode cX10_has 79 = .ok (.iload 4, 2) := by decide +kernel
theorem dX10_has_81 : decode cX10_has 81 = .ok (.iconst 2, 1) := by decide +kernel
theorem dX10_has_82 : decode cX10_has 82 = .ok (.iadd, 1) := by decide +kernel
theorem dX10_has_83 : decode cX10_has 83 = .ok (.iaload, 1) := by decide +kernel
theorem dX10_has_84 : decode cX10_has 84 = .ok (.isub, 1) := by decide +kernel
theorem dX10_has_85 : decode cX10_has 85 = .ok (.istore 5, 2) := by decide +kernel
theorem dX10_has_87 : decode cX10_has 87 = .ok (.iload_n 3, 1) := by decide +kernel
theorem dX10_has_88 : decode cX10_has 88 = .ok (.aload_n 0, 1) := by decide +kernel
theorem dX10_has_89 : decode cX10_has 89 = .ok (.getfield 22, 3) := by decide +kernel
theorem dX10_has_92 : decode cX10_has 92 = .ok (.iload 4, 2) := by decide +kernel
theorem dX10_has_94 : decode cX10_has 94 = .ok (.iconst 3, 1) := by decide +kernel
theorem dX10_has_95 : decode cX10_has 95 = .ok (.iadd, 1) := by decide +kernel
theorem dX10_has_96 : decode cX10_has 96 = .ok (.iaload, 1) := by decide +kernel
theorem dX10_has_97 : decode cX10_has 97 = .ok (.isub, 1) := by decide +kernel
theorem dX10_has_98 : decode cX10_has 98 = .ok (.istore 6, 2) := by decide +kernel
theorem dX10_has_100 : decode cX10_has 100 = .ok (.iload 5, 2) := by decide +kernel
theorem dX10_has_102 : decode cX10_has 102 = .ok (.iload 5, 2) := by decide +kernel
theorem dX10_has_104 : decode cX10_has 104 = .ok (.imul, 1) := by decide +kernel
theorem dX10_has_105 : decode cX10_has 105 = .ok (.iload 6, 2) := by decide +kernel
theorem dX10_has_107 : decode cX10_has 107 = .ok (.iload 6, 2) := by decide +kernel
theorem dX10_has_109 : decode cX10_has 109 = .ok (.imul, 1) := by decide +kernel
theorem dX10_has_110 : decode cX10_has 110 = .ok (.iadd, 1) := by decide +kernel
theorem dX10_has_111 : decode cX10_has 111 = .ok (.aload_n 0, 1) := by decide +kernel
theorem dX10_has_112 : decode cX10_has 112 = .ok (.getfield 22, 3) := by decide +kernel
theorem dX10_has_115 : decode cX10_has 115 = .ok (.iload 4, 2) := by decide +kernel
theorem dX10_has_117 : decode cX10_has 117 = .ok (.iconst 4, 1) := by decide +kernel
theorem dX10_has_118 : decode cX10_has 118 = .ok (.iadd, 1) := by decide +kernel
theorem dX10_has_119 : decode cX10_has 119 = .ok (.iaload, 1) := by decide +kernel
theorem dX10_has_120 : decode cX10_has 120 = .ok (.aload_n 0, 1) := by decide +kernel
theorem dX10_has_121 : decode cX10_has 121 = .ok (.getfield 22, 3) := by decide +kernel
theorem dX10_has_124 : decode cX10_has 124 = .ok (.iload 4, 2) := by decide +kernel
theorem dX10_has_126 : decode cX10_has 126 = .ok (.iconst 4, 1) := by decide +kernel
theorem dX10_has_127 : decode cX10_has 127 = .ok (.iadd, 1) := by decide +kernel
theorem dX10_has_128 : decode cX10_has 128 = .ok (.iaload, 1) := by decide +kernel
theorem dX10_has_129 : decode cX10_has 129 = .ok (.imul, 1) := by decide +kernel
theorem dX10_has_130 : decode cX10_has 130 = .ok (.if_icmp .gt 7, 3) := by decide +kernel
theorem dX10_has_133 : decode cX10_has 133 = .ok (.iconst 1, 1) := by decide +kernel
theorem dX10_has_134 : decode cX10_has 134 = .ok (.goto 4, 3) := by decide +kernel
theorem dX10_has_137 : decode cX10_has 137 = .ok (.iconst 0, 1) := by decide +kernel
theorem dX10_has_138 : decode cX10_has 138 = .ok (.ireturn, 1) := by decide +kernel
theorem dX10_isShape_0 : decode cX10_isShape 0 = .ok (.aload_n 0, 1) := by decide +kernel
theorem dX10_isShape_1 : decode cX10_isShape 1 = .ok (.getfield 19, 3) := by decide +kernel
theorem dX10_isShape_4 : decode cX10_isShape 4 = .ok (.iconst 1, 1) := by decide +kernel
theorem dX10_isShape_5 : decode cX10_isShape 5 = .ok (.isub, 1) := by decide +kernel
theorem dX10_isShape_6 : decode cX10_isShape 6 = .ok (.istore_n 3, 1) := by decide +kernel
theorem dX10_isShape_7 : decode cX10_isShape 7 = .ok (.iload_n 3, 1) := by decide +kernel
theorem dX10_isShape_8 : decode cX10_isShape 8 = .ok (.ifCond .lt 38, 3) := by decide +kernel
theorem dX10_isShape_11 : decode cX10_isShape 11 = .ok (.aload_n 0, 1) := by decide +kernel
theorem dX10_isShape_12 : decode cX10_isShape 12 = .ok (.iload_n 3, 1) := by decide +kernel
theorem dX10_isShape_13 : decode cX10_isShape 13 = .ok (.iload_n 1, 1) := by decide +kernel
theorem dX10_isShape_14 : decode cX10_isShape 14 = .ok (.iload_n 2, 1) := by decide +kernel
theorem dX10_isShape_15 : decode cX10_isShape 15 = .ok (.invokevirtual 164, 3) := by decide +kernel
theorem dX10_isShape_18 : decode cX10_isShape 18 = .ok (.ifCond .eq 22, 3) := by decide +kernel
theorem dX10_isShape_21 : decode cX10_isShape 21 = .ok (.aload_n 0, 1) := by decide +kernel
theorem dX10_isShape_22 : decode cX10_isShape 22 = .ok (.getfield 22, 3) := by decide +kernel
theorem dX10_isShape_25 : decode cX10_isShape 25 = .ok (.bipush 6, 2) := by decide +kernel
theorem dX10_isShape_27 : decode cX10_isShape 27 = .ok (.iload_n 3, 1) := by decide +kernel
theorem dX10_isShape_28 : decode cX10_isShape 28 = .ok (.imul, 1) := by decide +kernel
theorem dX10_isShape_29 : decode cX10_isShape 29 = .ok (.iaload, 1) := by decide +kernel
theorem dX10_isShape_30 : decode cX10_isShape 30 = .ok (.iconst 1, 1) := by decide +kernel
theorem dX10_isShape_31 : decode cX10_isShape 31 = .ok (.if_icmp .ne 7, 3) := by decide +kernel
theorem dX10_isShape_34 : decode cX10_isShape 34 = .ok (.iconst 1, 1) := by decide +kernel
theorem dX10_isShape_35 : decode cX10_isShape 35 = .ok (.goto 4, 3) := by decide +kernel
theorem dX10_isShape_38 : decode cX10_isShape 38 = .ok (.iconst 0, 1) := by decide +kernel
theorem dX10_isShape_39 : decode cX10_isShape 39 = .ok (.ireturn, 1) := by decide +kernel
theorem dX10_isShape_40 : decode cX10_isShape 40 = .ok (.iinc 3 (-1), 3) := by decide +kernel
theorem dX10_isShape_43 : decode cX10_isShape 43 = .ok (.goto (-36), 3) := by decide +kernel
theorem dX10_isShape_46 : decode cX10_isShape 46 = .ok (.iconst 0, 1) := by decide +kernel
theorem dX10_isShape_47 : decode cX10_isShape 47 = .ok (.ireturn, 1) := by decide +kernel
theorem dX10_setShape_0 : decode cX10_setShape 0 = .ok (.iconst 0, 1) := by decide +kernel
theorem dX10_setShape_1 : decode cX10_setShape 1 = .ok (.istore_n 1, 1) := by decide +kernel
theorem dX10_setShape_2 : decode cX10_setShape 2 = .ok (.iload_n 1, 1) := by decide +kernel
theorem dX10_setShape_3 : decode cX10_setShape 3 = .ok (.aload_n 0, 1) := by decide +kernel
theorem dX10_setShape_4 : decode cX10_setShape 4 = .ok (.invokevirtual 62, 3) := by decide +kernel
theorem dX10_setShape_7 : decode cX10_setShape 7 = .ok (.if_icmp .ge 50, 3) := by decide +kernel
theorem dX10_setShape_10 : decode cX10_setShape 10 = .ok (.iconst 0, 1) := by decide +kernel
theorem dX10_setShape_11 : decode cX10_setShape 11 = .ok (.istore_n 2, 1) := by decide +kernel
theorem dX10_setShape_12 : decode cX10_setShape 12 = .ok (.iload_n 2, 1) := by decide +kernel
theorem dX10_setShape_13 : decode cX10_setShape 13 = .ok (.aload_n 0, 1) := by decide +kernel
theorem dX10_setShape_14 : decode cX10_setShape 14 = .ok (.invokevirtual 62, 3) := by decide +kernel
theorem dX10_setShape_17 : decode cX10_setShape 17 = .ok (.if_icmp .ge 34, 3) := by decide +kernel
theorem dX10_setShape_20 : decode cX10_setShape 20 = .ok (.aload_n 0, 1) := by decide +kernel
theorem dX10_setShape_21 : decode cX10_setShape 21 = .ok (.getfield 44, 3) := by decide +kernel
theorem dX10_setShape_24 : decode cX10_setShape 24 = .ok (.aload_n 0, 1) := by decide +kernel
theorem dX10_setShape_25 : decode cX10_setShape 25 = .ok (.iload_n 1, 1) := by decide +kernel
theorem dX10_setShape_26 : decode cX10_setShape 26 = .ok (.iload_n 2, 1) := by decide +kernel
theorem dX10_setShape_27 : decode cX10_setShape 27 = .ok (.invokevirtual 153, 3) := by decide +kernel
theorem dX10_setShape_30 : decode cX10_setShape 30 = .ok (.aload_n 0, 1) := by decide +kernel
theorem dX10_setShape_31 : decode cX10_setShape 31 = .ok (.iload_n 1, 1) := by decide +kernel
theorem dX10_setShape_32 : decode cX10_setShape 32 = .ok (.iload_n 2, 1) := by decide +kernel
theorem dX10_setShape_33 : decode cX10_setShape 33 = .ok (.invokevirtual 167, 3) := by decide +kernel
theorem dX10_setShape_36 : decode cX10_setShape 36 = .ok (.ifCond .eq 7, 3) := by decide +kernel
theorem dX10_setShape_39 : decode cX10_setShape 39 = .ok (.iconst 1, 1) := by decide +kernel
theorem dX10_setShape_40 : decode cX10_setShape 40 = .ok (.goto 4, 3) := by decide +kernel
theorem dX10_setShape_43 : decode cX10_setShape 43 = .ok (.iconst 0, 1) := by decide +kernel
theorem dX10_setShape_44 : decode cX10_setShape 44 = .ok (.iastore, 1) := by decide +kernel
theorem dX10_setShape_45 : decode cX10_setShape 45 = .ok (.iinc 2 1, 3) := by decide +kernel
theorem dX10_setShape_48 : decode cX10_setShape 48 = .ok (.goto (-36), 3) := by decide +kernel
theorem dX10_setShape_51 : decode cX10_setShape 51 = .ok (.iinc 1 1, 3) := by decide +kernel
theorem dX10_setShape_54 : decode cX10_setShape 54 = .ok (.goto (-52), 3) := by decide +kernel
theorem dX10_setShape_57 : decode cX10_setShape 57 = .ok (.return_, 1) := by decide +kernel
theorem dX10_shapeIn_0 : decode cX10_shapeIn 0 = .ok (.iconst 0, 1) := by decide +kernel
theorem dX10_shapeIn_1 : decode cX10_shapeIn 1 = .ok (.istore_n 3, 1) := by decide +kernel
theorem dX10_shapeIn_2 : decode cX10_shapeIn 2 = .ok (.iload_n 2, 1) := by decide +kernel
theorem dX10_shapeIn_3 : decode cX10_shapeIn 3 = .ok (.aload_n 0, 1) := by decide +kernel
theorem dX10_shapeIn_4 : decode cX10_shapeIn 4 = .ok (.iload_n 1, 1) := by decide +kernel
theorem dX10_shapeIn_5 : decode cX10_shapeIn 5 = .ok (.invokevirtual 170, 3) := by decide +kernel
theorem dX10_shapeIn_8 : decode cX10_shapeIn 8 = .ok (.imul, 1) := by decide +kernel
theorem dX10_shapeIn_9 : decode cX10_shapeIn 9 = .ok (.istore 4, 2) := by decide +kernel
theorem dX10_shapeIn_11 : decode cX10_shapeIn 11 = .ok (.iload 4, 2) := by decide +kernel
theorem dX10_shapeIn_13 : decode cX10_shapeIn 13 = .ok (.iload_n 2, 1) := by decide +kernel
theorem dX10_shapeIn_14 : decode cX10_shapeIn 14 = .ok (.iconst 1, 1) := by decide +kernel
theorem dX10_shapeIn_15 : decode cX10_shapeIn 15 = .ok (.iadd, 1) := by decide +kernel
theorem dX10_shapeIn_16 : decode cX10_shapeIn 16 = .ok (.aload_n 0, 1) := by decide +kernel
theorem dX10_shapeIn_17 : decode cX10_shapeIn 17 = .ok (.iload_n 1, 1) := by decide +kernel
theorem dX10_shapeIn_18 : decode cX10_shapeIn 18 = .ok (.invokevirtual 170, 3) := by decide +kernel
theorem dX10_shapeIn_21 : decode cX10_shapeIn 21 = .ok (.imul, 1) := by decide +kernel
theorem dX10_shapeIn_22 : decode cX10_shapeIn 22 = .ok (.if_icmp .ge 19, 3) := by decide +kernel
theorem dX10_shapeIn_25 : decode cX10_shapeIn 25 = .ok (.iload_n 3, 1) := by decide +kernel
theorem dX10_shapeIn_26 : decode cX10_shapeIn 26 = .ok (.aload_n 0, 1) := by decide +kernel
theorem dX10_shapeIn_27 : decode cX10_shapeIn 27 = .ok (.getfield 44, 3) := by decide +kernel
theorem dX10_shapeIn_30 : decode cX10_shapeIn 30 = .ok (.iload 4, 2) := by decide +kernel
theorem dX10_shapeIn_32 : decode cX10_shapeIn 32 = .ok (.iaload, 1) := by decide +kernel
theorem dX10_shapeIn_33 : decode cX10_shapeIn 33 = .ok (.iadd, 1) := by decide +kernel
theorem dX10_shapeIn_34 : decode cX10_shapeIn 34 = .ok (.istore_n 3, 1) := by decide +kernel
theorem dX10_shapeIn_35 : decode cX10_shapeIn 35 = .ok (.iinc 4 1, 3) := by decide +kernel
theorem dX10_shapeIn_38 : decode cX10_shapeIn 38 = .ok (.goto (-27), 3) := by decide +kernel
theorem dX10_shapeIn_41 : decode cX10_shapeIn 41 = .ok (.iload_n 3, 1) := by decide +kernel
theorem dX10_shapeIn_42 : decode cX10_shapeIn 42 = .ok (.ireturn, 1) := by decide +kernel
theorem dX10_pointsIn_0 : decode cX10_pointsIn 0 = .ok (.iconst 0, 1) := by decide +kernel
theorem dX10_pointsIn_1 : decode cX10_pointsIn 1 = .ok (.istore_n 3, 1) := by decide +kernel
theorem dX10_pointsIn_2 : decode cX10_pointsIn 2 = .ok (.iconst 0, 1) := by decide +kernel
theorem dX10_pointsIn_3 : decode cX10_pointsIn 3 = .ok (.istore 4, 2) := by decide +kernel
theorem dX10_pointsIn_5 : decode cX10_pointsIn 5 = .ok (.iload 4, 2) := by decide +kernel
theorem dX10_pointsIn_7 : decode cX10_pointsIn 7 = .ok (.aload_n 0, 1) := by decide +kernel
theorem dX10_pointsIn_8 : decode cX10_pointsIn 8 = .ok (.getfield 26, 3) := by decide +kernel
theorem dX10_pointsIn_11 : decode cX10_pointsIn 11 = .ok (.if_icmp .ge 45, 3) := by decide +kernel
theorem dX10_pointsIn_14 : decode cX10_pointsIn 14 = .ok (.iload_n 3, 1) := by decide +kernel
theorem dX10_pointsIn_15 : decode cX10_pointsIn 15 = .ok (.aload_n 0, 1) := by decide +kernel
theorem dX10_pointsIn_16 : decode cX10_pointsIn 16 = .ok (.aload_n 0, 1) := by decide +kernel
theorem dX10_pointsIn_17 : decode cX10_pointsIn 17 = .ok (.getfield 29, 3) := by decide +kernel
theorem dX10_pointsIn_20 : decode cX10_pointsIn 20 = .ok (.iload 4, 2) := by decide +kernel
theorem dX10_pointsIn_22 : decode cX10_pointsIn 22 = .ok (.iaload, 1) := by decide +kernel
theorem dX10_pointsIn_23 : decode cX10_pointsIn 23 = .ok (.aload_n 0, 1) := by decide +kernel
theorem dX10_pointsIn_24 : decode cX10_pointsIn 24 = .ok (.getfield 32, 3) := by decide +kernel
theorem dX10_pointsIn_27 : decode cX10_pointsIn 27 = .ok (.iload 4, 2) := by decide +kernel
theorem dX10_pointsIn_29 : decode cX10_pointsIn 29 = .ok (.iaload, 1) := by decide +kernel
theorem dX10_pointsIn_30 : decode cX10_pointsIn 30 = .ok (.invokevirtual 153, 3) := by decide +kernel
theorem dX10_pointsIn_33 : decode cX10_pointsIn 33 = .ok (.aload_n 0, 1) := by decide +kernel
theorem dX10_pointsIn_34 : decode cX10_pointsIn 34 = .ok (.iload_n 1, 1) := by decide +kernel
theorem dX10_pointsIn_35 : decode cX10_pointsIn 35 = .ok (.invokevirtual 170, 3) := by decide +kernel
theorem dX10_pointsIn_38 : decode cX10_pointsIn 38 = .ok (.idiv, 1) := by decide +kernel
theorem dX10_pointsIn_39 : decode cX10_pointsIn 39 = .ok (.iload_n 2, 1) := by decide +kernel
theorem dX10_pointsIn_40 : decode cX10_pointsIn 40 = .ok (.if_icmp .ne 7, 3) := by decide +kernel
theorem dX10_pointsIn_43 : decode cX10_pointsIn 43 = .ok (.iconst 1, 1) := by decide +kernel
theorem dX10_pointsIn_44 : decode cX10_pointsIn 44 = .ok (.goto 4, 3) := by decide +kernel
theorem dX10_pointsIn_47 : decode cX10_pointsIn 47 = .ok (.iconst 0, 1) := by decide +kernel
theorem dX10_pointsIn_48 : decode cX10_pointsIn 48 = .ok (.iadd, 1) := by decide +kernel
theorem dX10_pointsIn_49 : decode cX10_pointsIn 49 = .ok (.istore_n 3, 1) := by decide +kernel
theorem dX10_pointsIn_50 : decode cX10_pointsIn 50 = .ok (.iinc 4 1, 3) := by decide +kernel
theorem dX10_pointsIn_53 : decode cX10_pointsIn 53 = .ok (.goto (-48), 3) := by decide +kernel
theorem dX10_pointsIn_56 : decode cX10_pointsIn 56 = .ok (.iload_n 3, 1) := by decide +kernel
theorem dX10_pointsIn_57 : decode cX10_pointsIn 57 = .ok (.ireturn, 1) := by decide +kernel
theorem dX10_tile_0 : decode cX10_tile 0 = .ok (.aload_n 0, 1) := by decide +kernel
theorem dX10_tile_1 : decode cX10_tile 1 = .ok (.iload_n 1, 1) := by decide +kernel
theorem dX10_tile_2 : decode cX10_tile 2 = .ok (.iload_n 2, 1) := by decide +kernel
theorem dX10_tile_3 : decode cX10_tile 3 = .ok (.invokevirtual 174, 3) := by decide +kernel
theorem dX10_tile_6 : decode cX10_tile 6 = .ok (.ifCond .eq 13, 3) := by decide +kernel
theorem dX10_tile_9 : decode cX10_tile 9 = .ok (.iload_n 3, 1) := by decide +kernel
theorem dX10_tile_10 : decode cX10_tile 10 = .ok (.iconst 0, 1) := by decide +kernel
theorem dX10_tile_11 : decode cX10_tile 11 = .ok (.bipush 6, 2) := by decide +kernel
theorem dX10_tile_13 : decode cX10_tile 13 = .ok (.invokestatic 66, 3) := by decide +kernel
theorem dX10_tile_16 : decode cX10_tile 16 = .ok (.ifCond .ne 5, 3) := by decide +kernel
theorem dX10_tile_19 : decode cX10_tile 19 = .ok (.iconst (-1), 1) := by decide +kernel
theorem dX10_tile_20 : decode cX10_tile 20 = .ok (.ireturn, 1) := by decide +kernel
theorem dX10_tile_21 : decode cX10_tile 21 = .ok (.aload_n 0, 1) := by decide +kernel
theorem dX10_tile_22 : decode cX10_tile 22 = .ok (.iload_n 2, 1) := by decide +kernel
theorem dX10_tile_23 : decode cX10_tile 23 = .ok (.aload_n 0, 1) := by decide +kernel
theorem dX10_tile_24 : decode cX10_tile 24 = .ok (.iload_n 1, 1) := by decide +kernel
theorem dX10_tile_25 : decode cX10_tile 25 = .ok (.invokevirtual 170, 3) := by decide +kernel
theorem dX10_tile_28 : decode cX10_tile 28 = .ok (.imul, 1) := by decide +kernel
theorem dX10_tile_29 : decode cX10_tile 29 = .ok (.invokevirtual 160, 3) := by decide +kernel
theorem dX10_tile_32 : decode cX10_tile 32 = .ok (.iload_n 3, 1) := by decide +kernel
theorem dX10_tile_33 : decode cX10_tile 33 = .ok (.tableswitch 110 0 5 #[39, 56, 73, 79, 87, 99], 39) := by decide +kernel
theorem dX10_tile_72 : decode cX10_tile 72 = .ok (.aload_n 0, 1) := by decide +kernel
theorem dX10_tile_73 : decode cX10_tile 73 = .ok (.getfield 147, 3) := by decide +kernel
theorem dX10_tile_76 : decode cX10_tile 76 = .ok (.aload_n 0, 1) := by decide +kernel
theorem dX10_tile_77 : decode cX10_tile 77 = .ok (.iload_n 1, 1) := by decide +kernel
theorem dX10_tile_78 : decode cX10_tile 78 = .ok (.invokevirtual 177, 3) := by decide +kernel
theorem dX10_tile_81 : decode cX10_tile 81 = .ok (.idiv, 1) := by decide +kernel
theorem dX10_tile_82 : decode cX10_tile 82 = .ok (.aload_n 0, 1) := by decide +kernel
theorem dX10_tile_83 : decode cX10_tile 83 = .ok (.iload_n 1, 1) := by decide +kernel
theorem dX10_tile_84 : decode cX10_tile 84 = .ok (.invokevirtual 177, 3) := by decide +kernel
theorem dX10_tile_87 : decode cX10_tile 87 = .ok (.imul, 1) := by decide +kernel
theorem dX10_tile_88 : decode cX10_tile 88 = .ok (.ireturn, 1) := by decide +kernel
theorem dX10_tile_89 : decode cX10_tile 89 = .ok (.aload_n 0, 1) := by decide +kernel
theorem dX10_tile_90 : decode cX10_tile 90 = .ok (.getfield 150, 3) := by decide +kernel
theorem dX10_tile_93 : decode cX10_tile 93 = .ok (.aload_n 0, 1) := by decide +kernel
theorem dX10_tile_94 : decode cX10_tile 94 = .ok (.iload_n 1, 1) := by decide +kernel
theorem dX10_tile_95 : decode cX10_tile 95 = .ok (.invokevirtual 177, 3) := by decide +kernel
theorem dX10_tile_98 : decode cX10_tile 98 = .ok (.idiv, 1) := by decide +kernel
theorem dX10_tile_99 : decode cX10_tile 99 = .ok (.aload_n 0, 1) := by decide +kernel
theorem dX10_tile_100 : decode cX10_tile 100 = .ok (.iload_n 1, 1) := by decide +kernel
theorem dX10_tile_101 : decode cX10_tile 101 = .ok (.invokevirtual 177, 3) := by decide +kernel
theorem dX10_tile_104 : decode cX10_tile 104 = .ok (.imul, 1) := by decide +kernel
theorem dX10_tile_105 : decode cX10_tile 105 = .ok (.ireturn, 1) := by decide +kernel
theorem dX10_tile_106 : decode cX10_tile 106 = .ok (.aload_n 0, 1) := by decide +kernel
theorem dX10_tile_107 : decode cX10_tile 107 = .ok (.iload_n 1, 1) := by decide +kernel
theorem dX10_tile_108 : decode cX10_tile 108 = .ok (.invokevirtual 177, 3) := by decide +kernel
theorem dX10_tile_111 : decode cX10_tile 111 = .ok (.ireturn, 1) := by decide +kernel
theorem dX10_tile_112 : decode cX10_tile 112 = .ok (.iload_n 2, 1) := by decide +kernel
theorem dX10_tile_113 : decode cX10_tile 113 = .ok (.aload_n 0, 1) := by decide +kernel
theorem dX10_tile_114 : decode cX10_tile 114 = .ok (.iload_n 1, 1) := by decide +kernel
theorem dX10_tile_115 : decode cX10_tile 115 = .ok (.invokevirtual 170, 3) := by decide +kernel
theorem dX10_tile_118 : decode cX10_tile 118 = .ok (.imul, 1) := by decide +kernel
theorem dX10_tile_119 : decode cX10_tile 119 = .ok (.ireturn, 1) := by decide +kernel
theorem dX10_tile_120 : decode cX10_tile 120 = .ok (.iload_n 2, 1) := by decide +kernel
theorem dX10_tile_121 : decode cX10_tile 121 = .ok (.iconst 1, 1) := by decide +kernel
theorem dX10_tile_122 : decode cX10_tile 122 = .ok (.iadd, 1) := by decide +kernel
theorem dX10_tile_123 : decode cX10_tile 123 = .ok (.aload_n 0, 1) := by decide +kernel
theorem dX10_tile_124 : decode cX10_tile 124 = .ok (.iload_n 1, 1) := by decide +kernel
theorem dX10_tile_125 : decode cX10_tile 125 = .ok (.invokevirtual 170, 3) := by decide +kernel
theorem dX10_tile_128 : decode cX10_tile 128 = .ok (.imul, 1) := by decide +kernel
theorem dX10_tile_129 : decode cX10_tile 129 = .ok (.iconst 1, 1) := by decide +kernel
theorem dX10_tile_130 : decode cX10_tile 130 = .ok (.isub, 1) := by decide +kernel
theorem dX10_tile_131 : decode cX10_tile 131 = .ok (.ireturn, 1) := by decide +kernel
theorem dX10_tile_132 : decode cX10_tile 132 = .ok (.aload_n 0, 1) := by decide +kernel
theorem dX10_tile_133 : decode cX10_tile 133 = .ok (.invokevirtual 180, 3) := by decide +kernel
theorem dX10_tile_136 : decode cX10_tile 136 = .ok (.aload_n 0, 1) := by decide +kernel
theorem dX10_tile_137 : decode cX10_tile 137 = .ok (.iload_n 1, 1) := by decide +kernel
theorem dX10_tile_138 : decode cX10_tile 138 = .ok (.iload_n 2, 1) := by decide +kernel
theorem dX10_tile_139 : decode cX10_tile 139 = .ok (.invokevirtual 183, 3) := by decide +kernel
theorem dX10_tile_142 : decode cX10_tile 142 = .ok (.ireturn, 1) := by decide +kernel
theorem dX10_tile_143 : decode cX10_tile 143 = .ok (.aload_n 0, 1) := by decide +kernel
theorem dX10_tile_144 : decode cX10_tile 144 = .ok (.iload_n 1, 1) := by decide +kernel
theorem dX10_tile_145 : decode cX10_tile 145 = .ok (.iload_n 2, 1) := by decide +kernel
theorem dX10_tile_146 : decode cX10_tile 146 = .ok (.invokevirtual 186, 3) := by decide +kernel
theorem dX10_tile_149 : decode cX10_tile 149 = .ok (.ireturn, 1) := by decide +kernel
theorem dX10_beside_0 : decode cX10_beside 0 = .ok (.aload_n 0, 1) := by decide +kernel
theorem dX10_beside_1 : decode cX10_beside 1 = .ok (.iload_n 1, 1) := by decide +kernel
theorem dX10_beside_2 : decode cX10_beside 2 = .ok (.iload_n 2, 1) := by decide +kernel
theorem dX10_beside_3 : decode cX10_beside 3 = .ok (.invokevirtual 174, 3) := by decide +kernel
theorem dX10_beside_6 : decode cX10_beside 6 = .ok (.ifCond .eq 31, 3) := by decide +kernel
theorem dX10_beside_9 : decode cX10_beside 9 = .ok (.iload_n 3, 1) := by decide +kernel
theorem dX10_beside_10 : decode cX10_beside 10 = .ok (.iconst (-1), 1) := by decide +kernel
theorem dX10_beside_11 : decode cX10_beside 11 = .ok (.iconst 1, 1) := by decide +kernel
theorem dX10_beside_12 : decode cX10_beside 12 = .ok (.invokestatic 66, 3) := by decide +kernel
theorem dX10_beside_15 : decode cX10_beside 15 = .ok (.ifCond .eq 22, 3) := by decide +kernel
theorem dX10_beside_18 : decode cX10_beside 18 = .ok (.iload 4, 2) := by decide +kernel
theorem dX10_beside_20 : decode cX10_beside 20 = .ok (.iconst (-1), 1) := by decide +kernel
theorem dX10_beside_21 : decode cX10_beside 21 = .ok (.iconst 1, 1) := by decide +kernel
theorem dX10_beside_22 : decode cX10_beside 22 = .ok (.invokestatic 66, 3) := by decide +kernel
theorem dX10_beside_25 : decode cX10_beside 25 = .ok (.ifCond .eq 12, 3) := by decide +kernel
theorem dX10_beside_28 : decode cX10_beside 28 = .ok (.iload_n 3, 1) := by decide +kernel
theorem dX10_beside_29 : decode cX10_beside 29 = .ok (.ifCond .ne 10, 3) := by decide +kernel
theorem dX10_beside_32 : decode cX10_beside 32 = .ok (.iload 4, 2) := by decide +kernel
theorem dX10_beside_34 : decode cX10_beside 34 = .ok (.ifCond .ne 5, 3) := by decide +kernel
theorem dX10_beside_37 : decode cX10_beside 37 = .ok (.iconst (-1), 1) := by decide +kernel
theorem dX10_beside_38 : decode cX10_beside 38 = .ok (.ireturn, 1) := by decide +kernel
theorem dX10_beside_39 : decode cX10_beside 39 = .ok (.aload_n 0, 1) := by decide +kernel
theorem dX10_beside_40 : decode cX10_beside 40 = .ok (.iload_n 2, 1) := by decide +kernel
theorem dX10_beside_41 : decode cX10_beside 41 = .ok (.aload_n 0, 1) := by decide +kernel
theorem dX10_beside_42 : decode cX10_beside 42 = .ok (.iload_n 1, 1) := by decide +kernel
theorem dX10_beside_43 : decode cX10_beside 43 = .ok (.invokevirtual 170, 3) := by decide +kernel
theorem dX10_beside_46 : decode cX10_beside 46 = .ok (.imul, 1) := by decide +kernel
theorem dX10_beside_47 : decode cX10_beside 47 = .ok (.invokevirtual 160, 3) := by decide +kernel
theorem dX10_beside_50 : decode cX10_beside 50 = .ok (.aload_n 0, 1) := by decide +kernel
theorem dX10_beside_51 : decode cX10_beside 51 = .ok (.getfield 147, 3) := by decide +kernel
theorem dX10_beside_54 : decode cX10_beside 54 = .ok (.iload_n 3, 1) := by decide +kernel
theorem dX10_beside_55 : decode cX10_beside 55 = .ok (.aload_n 0, 1) := by decide +kernel
theorem dX10_beside_56 : decode cX10_beside 56 = .ok (.iload_n 1, 1) := by decide +kernel
theorem dX10_beside_57 : decode cX10_beside 57 = .ok (.invokevirtual 177, 3) := by decide +kernel
theorem dX10_beside_60 : decode cX10_beside 60 = .ok (.imul, 1) := by decide +kernel
theorem dX10_beside_61 : decode cX10_beside 61 = .ok (.iadd, 1) := by decide +kernel
theorem dX10_beside_62 : decode cX10_beside 62 = .ok (.istore 5, 2) := by decide +kernel
theorem dX10_beside_64 : decode cX10_beside 64 = .ok (.aload_n 0, 1) := by decide +kernel
theorem dX10_beside_65 : decode cX10_beside 65 = .ok (.getfield 150, 3) := by decide +kernel
theorem dX10_beside_68 : decode cX10_beside 68 = .ok (.iload 4, 2) := by decide +kernel
theorem dX10_beside_70 : decode cX10_beside 70 = .ok (.aload_n 0, 1) := by decide +kernel
theorem dX10_beside_71 : decode cX10_beside 71 = .ok (.iload_n 1, 1) := by decide +kernel
theorem dX10_beside_72 : decode cX10_beside 72 = .ok (.invokevirtual 177, 3) := by decide +kernel
theorem dX10_beside_75 : decode cX10_beside 75 = .ok (.imul, 1) := by decide +kernel
theorem dX10_beside_76 : decode cX10_beside 76 = .ok (.iadd, 1) := by decide +kernel
theorem dX10_beside_77 : decode cX10_beside 77 = .ok (.istore 6, 2) := by decide +kernel
theorem dX10_beside_79 : decode cX10_beside 79 = .ok (.aload_n 0, 1) := by decide +kernel
theorem dX10_beside_80 : decode cX10_beside 80 = .ok (.iload 5, 2) := by decide +kernel
theorem dX10_beside_82 : decode cX10_beside 82 = .ok (.iload 6, 2) := by decide +kernel
theorem dX10_beside_84 : decode cX10_beside 84 = .ok (.invokevirtual 140, 3) := by decide +kernel
theorem dX10_beside_87 : decode cX10_beside 87 = .ok (.ifCond .eq 20, 3) := by decide +kernel
theorem dX10_beside_90 : decode cX10_beside 90 = .ok (.aload_n 0, 1) := by decide +kernel
theorem dX10_beside_91 : decode cX10_beside 91 = .ok (.iload 5, 2) := by decide +kernel
theorem dX10_beside_93 : decode cX10_beside 93 = .ok (.iload 6, 2) := by decide +kernel
theorem dX10_beside_95 : decode cX10_beside 95 = .ok (.invokevirtual 153, 3) := by decide +kernel
theorem dX10_beside_98 : decode cX10_beside 98 = .ok (.aload_n 0, 1) := by decide +kernel
theorem dX10_beside_99 : decode cX10_beside 99 = .ok (.iload_n 1, 1) := by decide +kernel
theorem dX10_beside_100 : decode cX10_beside 100 = .ok (.invokevirtual 170, 3) := by decide +kernel
theorem dX10_beside_103 : decode cX10_beside 103 = .ok (.idiv, 1) := by decide +kernel
theorem dX10_beside_104 : decode cX10_beside 104 = .ok (.goto 5, 3) := by decide +kernel
theorem dX10_beside_107 : decode cX10_beside 107 = .ok (.bipush (-4), 2) := by decide +kernel
theorem dX10_beside_109 : decode cX10_beside 109 = .ok (.ireturn, 1) := by decide +kernel
theorem dX10_common_0 : decode cX10_common 0 = .ok (.aload_n 0, 1) := by decide +kernel
theorem dX10_common_1 : decode cX10_common 1 = .ok (.iload_n 1, 1) := by decide +kernel
theorem dX10_common_2 : decode cX10_common 2 = .ok (.iload_n 2, 1) := by decide +kernel
theorem dX10_common_3 : decode cX10_common 3 = .ok (.invokevirtual 140, 3) := by decide +kernel
theorem dX10_common_6 : decode cX10_common 6 = .ok (.ifCond .eq 13, 3) := by decide +kernel
theorem dX10_common_9 : decode cX10_common 9 = .ok (.aload_n 0, 1) := by decide +kernel
theorem dX10_common_10 : decode cX10_common 10 = .ok (.iload_n 3, 1) := by decide +kernel
theorem dX10_common_11 : decode cX10_common 11 = .ok (.iload 4, 2) := by decide +kernel
theorem dX10_common_13 : decode cX10_common 13 = .ok (.invokevirtual 140, 3) := by decide +kernel
theorem dX10_common_16 : decode cX10_common 16 = .ok (.ifCond .ne 5, 3) := by decide +kernel
theorem dX10_common_19 : decode cX10_common 19 = .ok (.iconst (-1), 1) := by decide +kernel
theorem dX10_common_20 : decode cX10_common 20 = .ok (.ireturn, 1) := by decide +kernel
theorem dX10_common_21 : decode cX10_common 21 = .ok (.aload_n 0, 1) := by decide +kernel
theorem dX10_common_22 : decode cX10_common 22 = .ok (.iload_n 1, 1) := by decide +kernel
theorem dX10_common_23 : decode cX10_common 23 = .ok (.iload_n 2, 1) := by decide +kernel
theorem dX10_common_24 : decode cX10_common 24 = .ok (.invokevirtual 153, 3) := by decide +kernel
theorem dX10_common_27 : decode cX10_common 27 = .ok (.istore 5, 2) := by decide +kernel
theorem dX10_common_29 : decode cX10_common 29 = .ok (.aload_n 0, 1) := by decide +kernel
theorem dX10_common_30 : decode cX10_common 30 = .ok (.iload_n 3, 1) := by decide +kernel
theorem dX10_common_31 : decode cX10_common 31 = .ok (.iload 4, 2) := by decide +kernel
theorem dX10_common_33 : decode cX10_common 33 = .ok (.invokevirtual 153, 3) := by decide +kernel
theorem dX10_common_36 : decode cX10_common 36 = .ok (.istore 6, 2) := by decide +kernel
theorem dX10_common_38 : decode cX10_common 38 = .ok (.aload_n 0, 1) := by decide +kernel
theorem dX10_common_39 : decode cX10_common 39 = .ok (.getfield 7, 3) := by decide +kernel
theorem dX10_common_42 : decode cX10_common 42 = .ok (.istore 7, 2) := by decide +kernel
theorem dX10_common_44 : decode cX10_common 44 = .ok (.iload 5, 2) := by decide +kernel
theorem dX10_common_46 : decode cX10_common 46 = .ok (.iload 6, 2) := by decide +kernel
theorem dX10_common_48 : decode cX10_common 48 = .ok (.if_icmp .eq 21, 3) := by decide +kernel
theorem dX10_common_51 : decode cX10_common 51 = .ok (.iload 5, 2) := by decide +kernel
theorem dX10_common_53 : decode cX10_common 53 = .ok (.iconst 4, 1) := by decide +kernel
theorem dX10_common_54 : decode cX10_common 54 = .ok (.idiv, 1) := by decide +kernel
theorem dX10_common_55 : decode cX10_common 55 = .ok (.istore 5, 2) := by decide +kernel
theorem dX10_common_57 : decode cX10_common 57 = .ok (.iload 6, 2) := by decide +kernel
theorem dX10_common_59 : decode cX10_common 59 = .ok (.iconst 4, 1) := by decide +kernel
theorem dX10_common_60 : decode cX10_common 60 = .ok (.idiv, 1) := by decide +kernel
theorem dX10_common_61 : decode cX10_common 61 = .ok (.istore 6, 2) := by decide +kernel
theorem dX10_common_63 : decode cX10_common 63 = .ok (.iinc 7 (-1), 3) := by decide +kernel
theorem dX10_common_66 : decode cX10_common 66 = .ok (.goto (-22), 3) := by decide +kernel
theorem dX10_common_69 : decode cX10_common 69 = .ok (.iload 7, 2) := by decide +kernel
theorem dX10_common_71 : decode cX10_common 71 = .ok (.ireturn, 1) := by decide +kernel
theorem dX10_leaps_0 : decode cX10_leaps 0 = .ok (.iconst 0, 1) := by decide +kernel
theorem dX10_leaps_1 : decode cX10_leaps 1 = .ok (.istore_n 1, 1) := by decide +kernel
theorem dX10_leaps_2 : decode cX10_leaps 2 = .ok (.iconst 0, 1) := by decide +kernel
theorem dX10_leaps_3 : decode cX10_leaps 3 = .ok (.istore_n 2, 1) := by decide +kernel
theorem dX10_leaps_4 : decode cX10_leaps 4 = .ok (.iload_n 2, 1) := by decide +kernel
theorem dX10_leaps_5 : decode cX10_leaps 5 = .ok (.aload_n 0, 1) := by decide +kernel
theorem dX10_leaps_6 : decode cX10_leaps 6 = .ok (.invokevirtual 157, 3) := by decide +kernel
theorem dX10_leaps_9 : decode cX10_leaps 9 = .ok (.iconst 1, 1) := by decide +kernel
theorem dX10_leaps_10 : decode cX10_leaps 10 = .ok (.isub, 1) := by decide +kernel
theorem dX10_leaps_11 : decode cX10_leaps 11 = .ok (.if_icmp .ge 77, 3) := by decide +kernel
theorem dX10_leaps_14 : decode cX10_leaps 14 = .ok (.aload_n 0, 1) := by decide +kernel
theorem dX10_leaps_15 : decode cX10_leaps 15 = .ok (.iload_n 2, 1) := by decide +kernel
theorem dX10_leaps_16 : decode cX10_leaps 16 = .ok (.invokevirtual 160, 3) := by decide +kernel
theorem dX10_leaps_19 : decode cX10_leaps 19 = .ok (.aload_n 0, 1) := by decide +kernel
theorem dX10_leaps_20 : decode cX10_leaps 20 = .ok (.getfield 147, 3) := by decide +kernel
theorem dX10_leaps_23 : decode cX10_leaps 23 = .ok (.istore_n 3, 1) := by decide +kernel
theorem dX10_leaps_24 : decode cX10_leaps 24 = .ok (.aload_n 0, 1) := by decide +kernel
theorem dX10_leaps_25 : decode cX10_leaps 25 = .ok (.getfield 150, 3) := by decide +kernel
theorem dX10_leaps_28 : decode cX10_leaps 28 = .ok (.istore 4, 2) := by decide +kernel
theorem dX10_leaps_30 : decode cX10_leaps 30 = .ok (.aload_n 0, 1) := by decide +kernel
theorem dX10_leaps_31 : decode cX10_leaps 31 = .ok (.iload_n 2, 1) := by decide +kernel
theorem dX10_leaps_32 : decode cX10_leaps 32 = .ok (.iconst 1, 1) := by decide +kernel
theorem dX10_leaps_33 : decode cX10_leaps 33 = .ok (.iadd, 1) := by decide +kernel
theorem dX10_leaps_34 : decode cX10_leaps 34 = .ok (.invokevirtual 160, 3) := by decide +kernel
theorem dX10_leaps_37 : decode cX10_leaps 37 = .ok (.iload_n 3, 1) := by decide +kernel
theorem dX10_leaps_38 : decode cX10_leaps 38 = .ok (.aload_n 0, 1) := by decide +kernel
theorem dX10_leaps_39 : decode cX10_leaps 39 = .ok (.getfield 147, 3) := by decide +kernel
theorem dX10_leaps_42 : decode cX10_leaps 42 = .ok (.isub, 1) := by decide +kernel
theorem dX10_leaps_43 : decode cX10_leaps 43 = .ok (.iload_n 3, 1) := by decide +kernel
theorem dX10_leaps_44 : decode cX10_leaps 44 = .ok (.aload_n 0, 1) := by decide +kernel
theorem dX10_leaps_45 : decode cX10_leaps 45 = .ok (.getfield 147, 3) := by decide +kernel
theorem dX10_leaps_48 : decode cX10_leaps 48 = .ok (.isub, 1) := by decide +kernel
theorem dX10_leaps_49 : decode cX10_leaps 49 = .ok (.imul, 1) := by decide +kernel
theorem dX10_leaps_50 : decode cX10_leaps 50 = .ok (.iload 4, 2) := by decide +kernel
theorem dX10_leaps_52 : decode cX10_leaps 52 = .ok (.aload_n 0, 1) := by decide +kernel
theorem dX10_leaps_53 : decode cX10_leaps 53 = .ok (.getfield 150, 3) := by decide +kernel
theorem dX10_leaps_56 : decode cX10_leaps 56 = .ok (.isub, 1) := by decide +kernel
theorem dX10_leaps_57 : decode cX10_leaps 57 = .ok (.iload 4, 2) := by decide +kernel
theorem dX10_leaps_59 : decode cX10_leaps 59 = .ok (.aload_n 0, 1) := by decide +kernel
theorem dX10_leaps_60 : decode cX10_leaps 60 = .ok (.getfield 150, 3) := by decide +kernel
theorem dX10_leaps_63 : decode cX10_leaps 63 = .ok (.isub, 1) := by decide +kernel
theorem dX10_leaps_64 : decode cX10_leaps 64 = .ok (.imul, 1) := by decide +kernel
theorem dX10_leaps_65 : decode cX10_leaps 65 = .ok (.iadd, 1) := by decide +kernel
theorem dX10_leaps_66 : decode cX10_leaps 66 = .ok (.istore 5, 2) := by decide +kernel
theorem dX10_leaps_68 : decode cX10_leaps 68 = .ok (.iload_n 1, 1) := by decide +kernel
theorem dX10_leaps_69 : decode cX10_leaps 69 = .ok (.iload 5, 2) := by decide +kernel
theorem dX10_leaps_71 : decode cX10_leaps 71 = .ok (.iconst 1, 1) := by decide +kernel
theorem dX10_leaps_72 : decode cX10_leaps 72 = .ok (.if_icmp .ne 7, 3) := by decide +kernel
theorem dX10_leaps_75 : decode cX10_leaps 75 = .ok (.iconst 0, 1) := by decide +kernel
theorem dX10_leaps_76 : decode cX10_leaps 76 = .ok (.goto 4, 3) := by decide +kernel
theorem dX10_leaps_79 : decode cX10_leaps 79 = .ok (.iconst 1, 1) := by decide +kernel
theorem dX10_leaps_80 : decode cX10_leaps 80 = .ok (.iadd, 1) := by decide +kernel
theorem dX10_leaps_81 : decode cX10_leaps 81 = .ok (.istore_n 1, 1) := by decide +kernel
theorem dX10_leaps_82 : decode cX10_leaps 82 = .ok (.iinc 2 1, 3) := by decide +kernel
theorem dX10_leaps_85 : decode cX10_leaps 85 = .ok (.goto (-81), 3) := by decide +kernel
theorem dX10_leaps_88 : decode cX10_leaps 88 = .ok (.iload_n 1, 1) := by decide +kernel
theorem dX10_leaps_89 : decode cX10_leaps 89 = .ok (.ireturn, 1) := by decide +kernel
theorem dX10_in_0 : decode cX10_in 0 = .ok (.aload_n 0, 1) := by decide +kernel
theorem dX10_in_1 : decode cX10_in 1 = .ok (.iload_n 1, 1) := by decide +kernel
theorem dX10_in_2 : decode cX10_in 2 = .ok (.iload_n 2, 1) := by decide +kernel
theorem dX10_in_3 : decode cX10_in 3 = .ok (.invokevirtual 140, 3) := by decide +kernel
theorem dX10_in_6 : decode cX10_in 6 = .ok (.ifCond .eq 20, 3) := by decide +kernel
theorem dX10_in_9 : decode cX10_in 9 = .ok (.aload_n 0, 1) := by decide +kernel
theorem dX10_in_10 : decode cX10_in 10 = .ok (.iload_n 1, 1) := by decide +kernel
theorem dX10_in_11 : decode cX10_in 11 = .ok (.iload_n 2, 1) := by decide +kernel
theorem dX10_in_12 : decode cX10_in 12 = .ok (.invokevirtual 167, 3) := by decide +kernel
theorem dX10_in_15 : decode cX10_in 15 = .ok (.ifCond .eq 7, 3) := by decide +kernel
theorem dX10_in_18 : decode cX10_in 18 = .ok (.iconst 1, 1) := by decide +kernel
theorem dX10_in_19 : decode cX10_in 19 = .ok (.goto 8, 3) := by decide +kernel
theorem dX10_in_22 : decode cX10_in 22 = .ok (.iconst 0, 1) := by decide +kernel
theorem dX10_in_23 : decode cX10_in 23 = .ok (.goto 4, 3) := by decide +kernel
theorem dX10_in_26 : decode cX10_in 26 = .ok (.iconst (-1), 1) := by decide +kernel
theorem dX10_in_27 : decode cX10_in 27 = .ok (.ireturn, 1) := by decide +kernel
theorem dX10_setCover_0 : decode cX10_setCover 0 = .ok (.aload_n 0, 1) := by decide +kernel
theorem dX10_setCover_1 : decode cX10_setCover 1 = .ok (.invokevirtual 180, 3) := by decide +kernel
theorem dX10_setCover_4 : decode cX10_setCover 4 = .ok (.iconst 0, 1) := by decide +kernel
theorem dX10_setCover_5 : decode cX10_setCover 5 = .ok (.istore_n 2, 1) := by decide +kernel
theorem dX10_setCover_6 : decode cX10_setCover 6 = .ok (.iload_n 2, 1) := by decide +kernel
theorem dX10_setCover_7 : decode cX10_setCover 7 = .ok (.iconst 1, 1) := by decide +kernel
theorem dX10_setCover_8 : decode cX10_setCover 8 = .ok (.iconst 2, 1) := by decide +kernel
theorem dX10_setCover_9 : decode cX10_setCover 9 = .ok (.aload_n 0, 1) := by decide +kernel
theorem dX10_setCover_10 : decode cX10_setCover 10 = .ok (.getfield 16, 3) := by decide +kernel
theorem dX10_setCover_13 : decode cX10_setCover 13 = .ok (.imul, 1) := by decide +kernel
theorem dX10_setCover_14 : decode cX10_setCover 14 = .ok (.ishl, 1) := by decide +kernel
theorem dX10_setCover_15 : decode cX10_setCover 15 = .ok (.if_icmp .ge 98, 3) := by decide +kernel
theorem dX10_setCover_18 : decode cX10_setCover 18 = .ok (.aload_n 0, 1) := by decide +kernel
theorem dX10_setCover_19 : decode cX10_setCover 19 = .ok (.aload_n 0, 1) := by decide +kernel
theorem dX10_setCover_20 : decode cX10_setCover 20 = .ok (.getfield 16, 3) := by decide +kernel
theorem dX10_setCover_23 : decode cX10_setCover 23 = .ok (.iload_n 2, 1) := by decide +kernel
theorem dX10_setCover_24 : decode cX10_setCover 24 = .ok (.invokevirtual 183, 3) := by decide +kernel
theorem dX10_setCover_27 : decode cX10_setCover 27 = .ok (.istore_n 3, 1) := by decide +kernel
theorem dX10_setCover_28 : decode cX10_setCover 28 = .ok (.iload_n 1, 1) := by decide +kernel
theorem dX10_setCover_29 : decode cX10_setCover 29 = .ok (.ifCond .ne 15, 3) := by decide +kernel
theorem dX10_setCover_32 : decode cX10_setCover 32 = .ok (.iload_n 3, 1) := by decide +kernel
theorem dX10_setCover_33 : decode cX10_setCover 33 = .ok (.ifCond .le 7, 3) := by decide +kernel
theorem dX10_setCover_36 : decode cX10_setCover 36 = .ok (.iconst 1, 1) := by decide +kernel
theorem dX10_setCover_37 : decode cX10_setCover 37 = .ok (.goto 24, 3) := by decide +kernel
theorem dX10_setCover_40 : decode cX10_setCover 40 = .ok (.iconst 0, 1) := by decide +kernel
theorem dX10_setCover_41 : decode cX10_setCover 41 = .ok (.goto 20, 3) := by decide +kernel
theorem dX10_setCover_44 : decode cX10_setCover 44 = .ok (.iload_n 3, 1) := by decide +kernel
theorem dX10_setCover_45 : decode cX10_setCover 45 = .ok (.aload_n 0, 1) := by decide +kernel
theorem dX10_setCover_46 : decode cX10_setCover 46 = .ok (.aload_n 0, 1) := by decide +kernel
theorem dX10_setCover_47 : decode cX10_setCover 47 = .ok (.getfield 16, 3) := by decide +kernel
theorem dX10_setCover_50 : decode cX10_setCover 50 = .ok (.invokevirtual 170, 3) := by decide +kernel
theorem dX10_setCover_53 : decode cX10_setCover 53 = .ok (.if_icmp .ne 7, 3) := by decide +kernel
theorem dX10_setCover_56 : decode cX10_setCover 56 = .ok (.iconst 1, 1) := by decide +kernel
theorem dX10_setCover_57 : decode cX10_setCover 57 = .ok (.goto 4, 3) := by decide +kernel
theorem dX10_setCover_60 : decode cX10_setCover 60 = .ok (.iconst 0, 1) := by decide +kernel
theorem dX10_setCover_61 : decode cX10_setCover 61 = .ok (.istore 4, 2) := by decide +kernel
theorem dX10_setCover_63 : decode cX10_setCover 63 = .ok (.iload_n 2, 1) := by decide +kernel
theorem dX10_setCover_64 : decode cX10_setCover 64 = .ok (.aload_n 0, 1) := by decide +kernel
theorem dX10_setCover_65 : decode cX10_setCover 65 = .ok (.aload_n 0, 1) := by decide +kernel
theorem dX10_setCover_66 : decode cX10_setCover 66 = .ok (.getfield 16, 3) := by decide +kernel
theorem dX10_setCover_69 : decode cX10_setCover 69 = .ok (.invokevirtual 170, 3) := by decide +kernel
theorem dX10_setCover_72 : decode cX10_setCover 72 = .ok (.imul, 1) := by decide +kernel
theorem dX10_setCover_73 : decode cX10_setCover 73 = .ok (.istore 5, 2) := by decide +kernel
theorem dX10_setCover_75 : decode cX10_setCover 75 = .ok (.iload 5, 2) := by decide +kernel
theorem dX10_setCover_77 : decode cX10_setCover 77 = .ok (.iload_n 2, 1) := by decide +kernel
theorem dX10_setCover_78 : decode cX10_setCover 78 = .ok (.iconst 1, 1) := by decide +kernel
theorem dX10_setCover_79 : decode cX10_setCover 79 = .ok (.iadd, 1) := by decide +kernel
theorem dX10_setCover_80 : decode cX10_setCover 80 = .ok (.aload_n 0, 1) := by decide +kernel
theorem dX10_setCover_81 : decode cX10_setCover 81 = .ok (.aload_n 0, 1) := by decide +kernel
theorem dX10_setCover_82 : decode cX10_setCover 82 = .ok (.getfield 16, 3) := by decide +kernel
theorem dX10_setCover_85 : decode cX10_setCover 85 = .ok (.invokevirtual 170, 3) := by decide +kernel
theorem dX10_setCover_88 : decode cX10_setCover 88 = .ok (.imul, 1) := by decide +kernel
theorem dX10_setCover_89 : decode cX10_setCover 89 = .ok (.if_icmp .ge 18, 3) := by decide +kernel
theorem dX10_setCover_92 : decode cX10_setCover 92 = .ok (.aload_n 0, 1) := by decide +kernel
theorem dX10_setCover_93 : decode cX10_setCover 93 = .ok (.getfield 47, 3) := by decide +kernel
theorem dX10_setCover_96 : decode cX10_setCover 96 = .ok (.iload 5, 2) := by decide +kernel
theorem dX10_setCover_98 : decode cX10_setCover 98 = .ok (.iload 4, 2) := by decide +kernel
theorem dX10_setCover_100 : decode cX10_setCover 100 = .ok (.iastore, 1) := by decide +kernel
theorem dX10_setCover_101 : decode cX10_setCover 101 = .ok (.iinc 5 1, 3) := by decide +kernel
theorem dX10_setCover_104 : decode cX10_setCover 104 = .ok (.goto (-29), 3) := by decide +kernel
theorem dX10_setCover_107 : decode cX10_setCover 107 = .ok (.iinc 2 1, 3) := by decide +kernel
theorem dX10_setCover_110 : decode cX10_setCover 110 = .ok (.goto (-104), 3) := by decide +kernel
theorem dX10_setCover_113 : decode cX10_setCover 113 = .ok (.return_, 1) := by decide +kernel
theorem dX10_isWhole_0 : decode cX10_isWhole 0 = .ok (.iconst 1, 1) := by decide +kernel
theorem dX10_isWhole_1 : decode cX10_isWhole 1 = .ok (.istore_n 3, 1) := by decide +kernel
theorem dX10_isWhole_2 : decode cX10_isWhole 2 = .ok (.iload_n 1, 1) := by decide +kernel
theorem dX10_isWhole_3 : decode cX10_isWhole 3 = .ok (.istore 4, 2) := by decide +kernel
theorem dX10_isWhole_5 : decode cX10_isWhole 5 = .ok (.iload 4, 2) := by decide +kernel
theorem dX10_isWhole_7 : decode cX10_isWhole 7 = .ok (.iload_n 1, 1) := by decide +kernel
theorem dX10_isWhole_8 : decode cX10_isWhole 8 = .ok (.iload_n 2, 1) := by decide +kernel
theorem dX10_isWhole_9 : decode cX10_isWhole 9 = .ok (.iadd, 1) := by decide +kernel
theorem dX10_isWhole_10 : decode cX10_isWhole 10 = .ok (.if_icmp .ge 30, 3) := by decide +kernel
theorem dX10_isWhole_13 : decode cX10_isWhole 13 = .ok (.iload_n 3, 1) := by decide +kernel
theorem dX10_isWhole_14 : decode cX10_isWhole 14 = .ok (.ifCond .eq 26, 3) := by decide +kernel
theorem dX10_isWhole_17 : decode cX10_isWhole 17 = .ok (.aload_n 0, 1) := by decide +kernel
theorem dX10_isWhole_18 : decode cX10_isWhole 18 = .ok (.getfield 47, 3) := by decide +kernel
theorem dX10_isWhole_21 : decode cX10_isWhole 21 = .ok (.iload 4, 2) := by decide +kernel
theorem dX10_isWhole_23 : decode cX10_isWhole 23 = .ok (.iaload, 1) := by decide +kernel
theorem dX10_isWhole_24 : decode cX10_isWhole 24 = .ok (.iconst 1, 1) := by decide +kernel
theorem dX10_isWhole_25 : decode cX10_isWhole 25 = .ok (.if_icmp .ne 7, 3) := by decide +kernel
theorem dX10_isWhole_28 : decode cX10_isWhole 28 = .ok (.iconst 1, 1) := by decide +kernel
theorem dX10_isWhole_29 : decode cX10_isWhole 29 = .ok (.goto 4, 3) := by decide +kernel
theorem dX10_isWhole_32 : decode cX10_isWhole 32 = .ok (.iconst 0, 1) := by decide +kernel
theorem dX10_isWhole_33 : decode cX10_isWhole 33 = .ok (.istore_n 3, 1) := by decide +kernel
theorem dX10_isWhole_34 : decode cX10_isWhole 34 = .ok (.iinc 4 1, 3) := by decide +kernel
theorem dX10_isWhole_37 : decode cX10_isWhole 37 = .ok (.goto (-32), 3) := by decide +kernel
theorem dX10_isWhole_40 : decode cX10_isWhole 40 = .ok (.iload_n 3, 1) := by decide +kernel
theorem dX10_isWhole_41 : decode cX10_isWhole 41 = .ok (.ireturn, 1) := by decide +kernel
theorem dX10_levelAt_0 : decode cX10_levelAt 0 = .ok (.aload_n 0, 1) := by decide +kernel
theorem dX10_levelAt_1 : decode cX10_levelAt 1 = .ok (.getfield 105, 3) := by decide +kernel
theorem dX10_levelAt_4 : decode cX10_levelAt 4 = .ok (.istore_n 2, 1) := by decide +kernel
theorem dX10_levelAt_5 : decode cX10_levelAt 5 = .ok (.iload_n 1, 1) := by decide +kernel
theorem dX10_levelAt_6 : decode cX10_levelAt 6 = .ok (.aload_n 0, 1) := by decide +kernel
theorem dX10_levelAt_7 : decode cX10_levelAt 7 = .ok (.iload_n 2, 1) := by decide +kernel
theorem dX10_levelAt_8 : decode cX10_levelAt 8 = .ok (.invokevirtual 170, 3) := by decide +kernel
theorem dX10_levelAt_11 : decode cX10_levelAt 11 = .ok (.irem, 1) := by decide +kernel
theorem dX10_levelAt_12 : decode cX10_levelAt 12 = .ok (.ifCond .ne 16, 3) := by decide +kernel
theorem dX10_levelAt_15 : decode cX10_levelAt 15 = .ok (.aload_n 0, 1) := by decide +kernel
theorem dX10_levelAt_16 : decode cX10_levelAt 16 = .ok (.iload_n 1, 1) := by decide +kernel
theorem dX10_levelAt_17 : decode cX10_levelAt 17 = .ok (.aload_n 0, 1) := by decide +kernel
theorem dX10_levelAt_18 : decode cX10_levelAt 18 = .ok (.iload_n 2, 1) := by decide +kernel
theorem dX10_levelAt_19 : decode cX10_levelAt 19 = .ok (.invokevirtual 170, 3) := by decide +kernel
theorem dX10_levelAt_22 : decode cX10_levelAt 22 = .ok (.invokevirtual 189, 3) := by decide +kernel
theorem dX10_levelAt_25 : decode cX10_levelAt 25 = .ok (.ifCond .ne 9, 3) := by decide +kernel
theorem dX10_levelAt_28 : decode cX10_levelAt 28 = .ok (.iinc 2 1, 3) := by decide +kernel
theorem dX10_levelAt_31 : decode cX10_levelAt 31 = .ok (.goto (-26), 3) := by decide +kernel
theorem dX10_levelAt_34 : decode cX10_levelAt 34 = .ok (.iload_n 2, 1) := by decide +kernel
theorem dX10_levelAt_35 : decode cX10_levelAt 35 = .ok (.ireturn, 1) := by decide +kernel
theorem dX10_tiles_0 : decode cX10_tiles 0 = .ok (.iconst 0, 1) := by decide +kernel
theorem dX10_tiles_1 : decode cX10_tiles 1 = .ok (.istore_n 2, 1) := by decide +kernel
theorem dX10_tiles_2 : decode cX10_tiles 2 = .ok (.iconst 0, 1) := by decide +kernel
theorem dX10_tiles_3 : decode cX10_tiles 3 = .ok (.istore_n 3, 1) := by decide +kernel
theorem dX10_tiles_4 : decode cX10_tiles 4 = .ok (.iload_n 3, 1) := by decide +kernel
theorem dX10_tiles_5 : decode cX10_tiles 5 = .ok (.aload_n 0, 1) := by decide +kernel
theorem dX10_tiles_6 : decode cX10_tiles 6 = .ok (.invokevirtual 157, 3) := by decide +kernel
theorem dX10_tiles_9 : decode cX10_tiles 9 = .ok (.if_icmp .ge 71, 3) := by decide +kernel
theorem dX10_tiles_12 : decode cX10_tiles 12 = .ok (.aload_n 0, 1) := by decide +kernel
theorem dX10_tiles_13 : decode cX10_tiles 13 = .ok (.getfield 47, 3) := by decide +kernel
theorem dX10_tiles_16 : decode cX10_tiles 16 = .ok (.iload_n 3, 1) := by decide +kernel
theorem dX10_tiles_17 : decode cX10_tiles 17 = .ok (.iaload, 1) := by decide +kernel
theorem dX10_tiles_18 : decode cX10_tiles 18 = .ok (.ifCond .ne 17, 3) := by decide +kernel
theorem dX10_tiles_21 : decode cX10_tiles 21 = .ok (.iload_n 3, 1) := by decide +kernel
theorem dX10_tiles_22 : decode cX10_tiles 22 = .ok (.aload_n 0, 1) := by decide +kernel
theorem dX10_tiles_23 : decode cX10_tiles 23 = .ok (.aload_n 0, 1) := by decide +kernel
theorem dX10_tiles_24 : decode cX10_tiles 24 = .ok (.getfield 16, 3) := by decide +kernel
theorem dX10_tiles_27 : decode cX10_tiles 27 = .ok (.invokevirtual 170, 3) := by decide +kernel
theorem dX10_tiles_30 : decode cX10_tiles 30 = .ok (.iadd, 1) := by decide +kernel
theorem dX10_tiles_31 : decode cX10_tiles 31 = .ok (.istore_n 3, 1) := by decide +kernel
theorem dX10_tiles_32 : decode cX10_tiles 32 = .ok (.goto (-28), 3) := by decide +kernel
theorem dX10_tiles_35 : decode cX10_tiles 35 = .ok (.aload_n 0, 1) := by decide +kernel
theorem dX10_tiles_36 : decode cX10_tiles 36 = .ok (.iload_n 3, 1) := by decide +kernel
theorem dX10_tiles_37 : decode cX10_tiles 37 = .ok (.invokevirtual 192, 3) := by decide +kernel
theorem dX10_tiles_40 : decode cX10_tiles 40 = .ok (.istore 4, 2) := by decide +kernel
theorem dX10_tiles_42 : decode cX10_tiles 42 = .ok (.iload_n 2, 1) := by decide +kernel
theorem dX10_tiles_43 : decode cX10_tiles 43 = .ok (.iload_n 1, 1) := by decide +kernel
theorem dX10_tiles_44 : decode cX10_tiles 44 = .ok (.if_icmp .ne 21, 3) := by decide +kernel
theorem dX10_tiles_47 : decode cX10_tiles 47 = .ok (.aload_n 0, 1) := by decide +kernel
theorem dX10_tiles_48 : decode cX10_tiles 48 = .ok (.iload 4, 2) := by decide +kernel
theorem dX10_tiles_50 : decode cX10_tiles 50 = .ok (.putfield 195, 3) := by decide +kernel
theorem dX10_tiles_53 : decode cX10_tiles 53 = .ok (.aload_n 0, 1) := by decide +kernel
theorem dX10_tiles_54 : decode cX10_tiles 54 = .ok (.iload_n 3, 1) := by decide +kernel
theorem dX10_tiles_55 : decode cX10_tiles 55 = .ok (.aload_n 0, 1) := by decide +kernel
theorem dX10_tiles_56 : decode cX10_tiles 56 = .ok (.iload 4, 2) := by decide +kernel
theorem dX10_tiles_58 : decode cX10_tiles 58 = .ok (.invokevirtual 170, 3) := by decide +kernel
theorem dX10_tiles_61 : decode cX10_tiles 61 = .ok (.idiv, 1) := by decide +kernel
theorem dX10_tiles_62 : decode cX10_tiles 62 = .ok (.putfield 198, 3) := by decide +kernel
theorem dX10_tiles_65 : decode cX10_tiles 65 = .ok (.iload_n 3, 1) := by decide +kernel
theorem dX10_tiles_66 : decode cX10_tiles 66 = .ok (.aload_n 0, 1) := by decide +kernel
theorem dX10_tiles_67 : decode cX10_tiles 67 = .ok (.iload 4, 2) := by decide +kernel
theorem dX10_tiles_69 : decode cX10_tiles 69 = .ok (.invokevirtual 170, 3) := by decide +kernel
theorem dX10_tiles_72 : decode cX10_tiles 72 = .ok (.iadd, 1) := by decide +kernel
theorem dX10_tiles_73 : decode cX10_tiles 73 = .ok (.istore_n 3, 1) := by decide +kernel
theorem dX10_tiles_74 : decode cX10_tiles 74 = .ok (.iinc 2 1, 3) := by decide +kernel
theorem dX10_tiles_77 : decode cX10_tiles 77 = .ok (.goto (-73), 3) := by decide +kernel
theorem dX10_tiles_80 : decode cX10_tiles 80 = .ok (.iload_n 2, 1) := by decide +kernel
theorem dX10_tiles_81 : decode cX10_tiles 81 = .ok (.ireturn, 1) := by decide +kernel
theorem dX10_isAsked_0 : decode cX10_isAsked 0 = .ok (.iload_n 0, 1) := by decide +kernel
theorem dX10_isAsked_1 : decode cX10_isAsked 1 = .ok (.iconst 0, 1) := by decide +kernel
theorem dX10_isAsked_2 : decode cX10_isAsked 2 = .ok (.iconst 1, 1) := by decide +kernel
theorem dX10_isAsked_3 : decode cX10_isAsked 3 = .ok (.invokestatic 66, 3) := by decide +kernel
theorem dX10_isAsked_6 : decode cX10_isAsked 6 = .ok (.ifCond .eq 21, 3) := by decide +kernel
theorem dX10_isAsked_9 : decode cX10_isAsked 9 = .ok (.iload_n 1, 1) := by decide +kernel
theorem dX10_isAsked_10 : decode cX10_isAsked 10 = .ok (.iconst (-1), 1) := by decide +kernel
theorem dX10_isAsked_11 : decode cX10_isAsked 11 = .ok (.if_icmp .lt 16, 3) := by decide +kernel
theorem dX10_isAsked_14 : decode cX10_isAsked 14 = .ok (.iload_n 2, 1) := by decide +kernel
theorem dX10_isAsked_15 : decode cX10_isAsked 15 = .ok (.iconst 0, 1) := by decide +kernel
theorem dX10_isAsked_16 : decode cX10_isAsked 16 = .ok (.iconst 1, 1) := by decide +kernel
theorem dX10_isAsked_17 : decode cX10_isAsked 17 = .ok (.invokestatic 66, 3) := by decide +kernel
theorem dX10_isAsked_20 : decode cX10_isAsked 20 = .ok (.ifCond .eq 7, 3) := by decide +kernel
theorem dX10_isAsked_23 : decode cX10_isAsked 23 = .ok (.iconst 1, 1) := by decide +kernel
theorem dX10_isAsked_24 : decode cX10_isAsked 24 = .ok (.goto 4, 3) := by decide +kernel
theorem dX10_isAsked_27 : decode cX10_isAsked 27 = .ok (.iconst 0, 1) := by decide +kernel
theorem dX10_isAsked_28 : decode cX10_isAsked 28 = .ok (.ireturn, 1) := by decide +kernel
theorem dX10_cover_0 : decode cX10_cover 0 = .ok (.iload_n 1, 1) := by decide +kernel
theorem dX10_cover_1 : decode cX10_cover 1 = .ok (.iload_n 2, 1) := by decide +kernel
theorem dX10_cover_2 : decode cX10_cover 2 = .ok (.iload_n 3, 1) := by decide +kernel
theorem dX10_cover_3 : decode cX10_cover 3 = .ok (.invokestatic 201, 3) := by decide +kernel
theorem dX10_cover_6 : decode cX10_cover 6 = .ok (.ifCond .ne 5, 3) := by decide +kernel
theorem dX10_cover_9 : decode cX10_cover 9 = .ok (.iconst (-1), 1) := by decide +kernel
theorem dX10_cover_10 : decode cX10_cover 10 = .ok (.ireturn, 1) := by decide +kernel
theorem dX10_cover_11 : decode cX10_cover 11 = .ok (.aload_n 0, 1) := by decide +kernel
theorem dX10_cover_12 : decode cX10_cover 12 = .ok (.iload_n 1, 1) := by decide +kernel
theorem dX10_cover_13 : decode cX10_cover 13 = .ok (.invokevirtual 204, 3) := by decide +kernel
theorem dX10_cover_16 : decode cX10_cover 16 = .ok (.aload_n 0, 1) := by decide +kernel
theorem dX10_cover_17 : decode cX10_cover 17 = .ok (.iload_n 2, 1) := by decide +kernel
theorem dX10_cover_18 : decode cX10_cover 18 = .ok (.invokevirtual 207, 3) := by decide +kernel
theorem dX10_cover_21 : decode cX10_cover 21 = .ok (.istore 4, 2) := by decide +kernel
theorem dX10_cover_23 : decode cX10_cover 23 = .ok (.iload_n 2, 1) := by decide +kernel
theorem dX10_cover_24 : decode cX10_cover 24 = .ok (.iconst (-1), 1) := by decide +kernel
theorem dX10_cover_25 : decode cX10_cover 25 = .ok (.if_icmp .ne 8, 3) := by decide +kernel
theorem dX10_cover_28 : decode cX10_cover 28 = .ok (.iload 4, 2) := by decide +kernel
theorem dX10_cover_30 : decode cX10_cover 30 = .ok (.goto 29, 3) := by decide +kernel
theorem dX10_cover_33 : decode cX10_cover 33 = .ok (.iload_n 2, 1) := by decide +kernel
theorem dX10_cover_34 : decode cX10_cover 34 = .ok (.iload 4, 2) := by decide +kernel
theorem dX10_cover_36 : decode cX10_cover 36 = .ok (.if_icmp .lt 8, 3) := by decide +kernel
theorem dX10_cover_39 : decode cX10_cover 39 = .ok (.bipush (-4), 2) := by decide +kernel
theorem dX10_cover_41 : decode cX10_cover 41 = .ok (.goto 18, 3) := by decide +kernel
theorem dX10_cover_44 : decode cX10_cover 44 = .ok (.iload_n 3, 1) := by decide +kernel
theorem dX10_cover_45 : decode cX10_cover 45 = .ok (.ifCond .ne 10, 3) := by decide +kernel
theorem dX10_cover_48 : decode cX10_cover 48 = .ok (.aload_n 0, 1) := by decide +kernel
theorem dX10_cover_49 : decode cX10_cover 49 = .ok (.getfield 195, 3) := by decide +kernel
theorem dX10_cover_52 : decode cX10_cover 52 = .ok (.goto 7, 3) := by decide +kernel
theorem dX10_cover_55 : decode cX10_cover 55 = .ok (.aload_n 0, 1) := by decide +kernel
theorem dX10_cover_56 : decode cX10_cover 56 = .ok (.getfield 198, 3) := by decide +kernel
theorem dX10_cover_59 : decode cX10_cover 59 = .ok (.ireturn, 1) := by decide +kernel
theorem dX10_rest_0 : decode cX10_rest 0 = .ok (.iload_n 1, 1) := by decide +kernel
theorem dX10_rest_1 : decode cX10_rest 1 = .ok (.iconst 0, 1) := by decide +kernel
theorem dX10_rest_2 : decode cX10_rest 2 = .ok (.iconst 1, 1) := by decide +kernel
theorem dX10_rest_3 : decode cX10_rest 3 = .ok (.invokestatic 66, 3) := by decide +kernel
theorem dX10_rest_6 : decode cX10_rest 6 = .ok (.ifCond .ne 5, 3) := by decide +kernel
theorem dX10_rest_9 : decode cX10_rest 9 = .ok (.iconst (-1), 1) := by decide +kernel
theorem dX10_rest_10 : decode cX10_rest 10 = .ok (.ireturn, 1) := by decide +kernel
theorem dX10_rest_11 : decode cX10_rest 11 = .ok (.aload_n 0, 1) := by decide +kernel
theorem dX10_rest_12 : decode cX10_rest 12 = .ok (.iload_n 1, 1) := by decide +kernel
theorem dX10_rest_13 : decode cX10_rest 13 = .ok (.invokevirtual 204, 3) := by decide +kernel
theorem dX10_rest_16 : decode cX10_rest 16 = .ok (.iconst 0, 1) := by decide +kernel
theorem dX10_rest_17 : decode cX10_rest 17 = .ok (.istore_n 2, 1) := by decide +kernel
theorem dX10_rest_18 : decode cX10_rest 18 = .ok (.iconst 0, 1) := by decide +kernel
theorem dX10_rest_19 : decode cX10_rest 19 = .ok (.istore_n 3, 1) := by decide +kernel
theorem dX10_rest_20 : decode cX10_rest 20 = .ok (.iload_n 3, 1) := by decide +kernel
theorem dX10_rest_21 : decode cX10_rest 21 = .ok (.aload_n 0, 1) := by decide +kernel
theorem dX10_rest_22 : decode cX10_rest 22 = .ok (.invokevirtual 157, 3) := by decide +kernel
theorem dX10_rest_25 : decode cX10_rest 25 = .ok (.if_icmp .ge 32, 3) := by decide +kernel
theorem dX10_rest_28 : decode cX10_rest 28 = .ok (.iload_n 2, 1) := by decide +kernel
theorem dX10_rest_29 : decode cX10_rest 29 = .ok (.aload_n 0, 1) := by decide +kernel
theorem dX10_rest_30 : decode cX10_rest 30 = .ok (.getfield 47, 3) := by decide +kernel
theorem dX10_rest_33 : decode cX10_rest 33 = .ok (.iload_n 3, 1) := by decide +kernel
theorem dX10_rest_34 : decode cX10_rest 34 = .ok (.iaload, 1) := by decide +kernel
theorem dX10_rest_35 : decode cX10_rest 35 = .ok (.aload_n 0, 1) := by decide +kernel
theorem dX10_rest_36 : decode cX10_rest 36 = .ok (.getfield 44, 3) := by decide +kernel
theorem dX10_rest_39 : decode cX10_rest 39 = .ok (.iload_n 3, 1) := by decide +kernel
theorem dX10_rest_40 : decode cX10_rest 40 = .ok (.iaload, 1) := by decide +kernel
theorem dX10_rest_41 : decode cX10_rest 41 = .ok (.if_icmp .eq 7, 3) := by decide +kernel
theorem dX10_rest_44 : decode cX10_rest 44 = .ok (.iconst 1, 1) := by decide +kernel
theorem dX10_rest_45 : decode cX10_rest 45 = .ok (.goto 4, 3) := by decide +kernel
theorem dX10_rest_48 : decode cX10_rest 48 = .ok (.iconst 0, 1) := by decide +kernel
theorem dX10_rest_49 : decode cX10_rest 49 = .ok (.iadd, 1) := by decide +kernel
theorem dX10_rest_50 : decode cX10_rest 50 = .ok (.istore_n 2, 1) := by decide +kernel
theorem dX10_rest_51 : decode cX10_rest 51 = .ok (.iinc 3 1, 3) := by decide +kernel
theorem dX10_rest_54 : decode cX10_rest 54 = .ok (.goto (-34), 3) := by decide +kernel
theorem dX10_rest_57 : decode cX10_rest 57 = .ok (.iload_n 2, 1) := by decide +kernel
theorem dX10_rest_58 : decode cX10_rest 58 = .ok (.ireturn, 1) := by decide +kernel
theorem dX10_clears_0 : decode cX10_clears 0 = .ok (.iconst 0, 1) := by decide +kernel
theorem dX10_clears_1 : decode cX10_clears 1 = .ok (.istore_n 2, 1) := by decide +kernel
theorem dX10_clears_2 : decode cX10_clears 2 = .ok (.iload_n 2, 1) := by decide +kernel
theorem dX10_clears_3 : decode cX10_clears 3 = .ok (.bipush 13, 2) := by decide +kernel
theorem dX10_clears_5 : decode cX10_clears 5 = .ok (.if_icmp .ge 21, 3) := by decide +kernel
theorem dX10_clears_8 : decode cX10_clears 8 = .ok (.aload_n 0, 1) := by decide +kernel
theorem dX10_clears_9 : decode cX10_clears 9 = .ok (.getfield 50, 3) := by decide +kernel
theorem dX10_clears_12 : decode cX10_clears 12 = .ok (.bipush 13, 2) := by decide +kernel
theorem dX10_clears_14 : decode cX10_clears 14 = .ok (.iload_n 1, 1) := by decide +kernel
theorem dX10_clears_15 : decode cX10_clears 15 = .ok (.imul, 1) := by decide +kernel
theorem dX10_clears_16 : decode cX10_clears 16 = .ok (.iload_n 2, 1) := by decide +kernel
theorem dX10_clears_17 : decode cX10_clears 17 = .ok (.iadd, 1) := by decide +kernel
theorem dX10_clears_18 : decode cX10_clears 18 = .ok (.iconst 0, 1) := by decide +kernel
theorem dX10_clears_19 : decode cX10_clears 19 = .ok (.iastore, 1) := by decide +kernel
theorem dX10_clears_20 : decode cX10_clears 20 = .ok (.iinc 2 1, 3) := by decide +kernel
theorem dX10_clears_23 : decode cX10_clears 23 = .ok (.goto (-21), 3) := by decide +kernel
theorem dX10_clears_26 : decode cX10_clears 26 = .ok (.return_, 1) := by decide +kernel
theorem dX10_comes_0 : decode cX10_comes 0 = .ok (.iconst 0, 1) := by decide +kernel
theorem dX10_comes_1 : decode cX10_comes 1 = .ok (.istore_n 2, 1) := by decide +kernel
theorem dX10_comes_2 : decode cX10_comes 2 = .ok (.iload_n 2, 1) := by decide +kernel
theorem dX10_comes_3 : decode cX10_comes 3 = .ok (.bipush 13, 2) := by decide +kernel
theorem dX10_comes_5 : decode cX10_comes 5 = .ok (.if_icmp .ge 80, 3) := by decide +kernel
theorem dX10_comes_8 : decode cX10_comes 8 = .ok (.aload_n 0, 1) := by decide +kernel
theorem dX10_comes_9 : decode cX10_comes 9 = .ok (.getfield 53, 3) := by decide +kernel
theorem dX10_comes_12 : decode cX10_comes 12 = .ok (.iload_n 2, 1) := by decide +kernel
theorem dX10_comes_13 : decode cX10_comes 13 = .ok (.ldc 210, 2) := by decide +kernel
theorem dX10_comes_15 : decode cX10_comes 15 = .ok (.iastore, 1) := by decide +kernel
theorem dX10_comes_16 : decode cX10_comes 16 = .ok (.iconst 0, 1) := by decide +kernel
theorem dX10_comes_17 : decode cX10_comes 17 = .ok (.istore_n 3, 1) := by decide +kernel
theorem dX10_comes_18 : decode cX10_comes 18 = .ok (.iload_n 3, 1) := by decide +kernel
theorem dX10_comes_19 : decode cX10_comes 19 = .ok (.iload_n 2, 1) := by decide +kernel
theorem dX10_comes_20 : decode cX10_comes 20 = .ok (.if_icmp .gt 59, 3) := by decide +kernel
theorem dX10_comes_23 : decode cX10_comes 23 = .ok (.aload_n 0, 1) := by decide +kernel
theorem dX10_comes_24 : decode cX10_comes 24 = .ok (.getfield 50, 3) := by decide +kernel
theorem dX10_comes_27 : decode cX10_comes 27 = .ok (.bipush 13, 2) := by decide +kernel
theorem dX10_comes_29 : decode cX10_comes 29 = .ok (.iload_n 1, 1) := by decide +kernel
theorem dX10_comes_30 : decode cX10_comes 30 = .ok (.imul, 1) := by decide +kernel
theorem dX10_comes_31 : decode cX10_comes 31 = .ok (.iload_n 3, 1) := by decide +kernel
theorem dX10_comes_32 : decode cX10_comes 32 = .ok (.iadd, 1) := by decide +kernel
theorem dX10_comes_33 : decode cX10_comes 33 = .ok (.iaload, 1) := by decide +kernel
theorem dX10_comes_34 : decode cX10_comes 34 = .ok (.aload_n 0, 1) := by decide +kernel
theorem dX10_comes_35 : decode cX10_comes 35 = .ok (.getfield 56, 3) := by decide +kernel
theorem dX10_comes_38 : decode cX10_comes 38 = .ok (.iload_n 2, 1) := by decide +kernel
theorem dX10_comes_39 : decode cX10_comes 39 = .ok (.iload_n 3, 1) := by decide +kernel
theorem dX10_comes_40 : decode cX10_comes 40 = .ok (.isub, 1) := by decide +kernel
theorem dX10_comes_41 : decode cX10_comes 41 = .ok (.iaload, 1) := by decide +kernel
theorem dX10_comes_42 : decode cX10_comes 42 = .ok (.iadd, 1) := by decide +kernel
theorem dX10_comes_43 : decode cX10_comes 43 = .ok (.istore 4, 2) := by decide +kernel
theorem dX10_comes_45 : decode cX10_comes 45 = .ok (.aload_n 0, 1) := by decide +kernel
theorem dX10_comes_46 : decode cX10_comes 46 = .ok (.getfield 53, 3) := by decide +kernel
theorem dX10_comes_49 : decode cX10_comes 49 = .ok (.iload_n 2, 1) := by decide +kernel
theorem dX10_comes_50 : decode cX10_comes 50 = .ok (.iload 4, 2) := by decide +kernel
theorem dX10_comes_52 : decode cX10_comes 52 = .ok (.aload_n 0, 1) := by decide +kernel
theorem dX10_comes_53 : decode cX10_comes 53 = .ok (.getfield 53, 3) := by decide +kernel
theorem dX10_comes_56 : decode cX10_comes 56 = .ok (.iload_n 2, 1) := by decide +kernel
theorem dX10_comes_57 : decode cX10_comes 57 = .ok (.iaload, 1) := by decide +kernel
theorem dX10_comes_58 : decode cX10_comes 58 = .ok (.if_icmp .ge 8, 3) := by decide +kernel
theorem dX10_comes_61 : decode cX10_comes 61 = .ok (.iload 4, 2) := by decide +kernel
theorem dX10_comes_63 : decode cX10_comes 63 = .ok (.goto 9, 3) := by decide +kernel
theorem dX10_comes_66 : decode cX10_comes 66 = .ok (.aload_n 0, 1) := by decide +kernel
theorem dX10_comes_67 : decode cX10_comes 67 = .ok (.getfield 53, 3) := by decide +kernel
theorem dX10_comes_70 : decode cX10_comes 70 = .ok (.iload_n 2, 1) := by decide +kernel
theorem dX10_comes_71 : decode cX10_comes 71 = .ok (.iaload, 1) := by decide +kernel
theorem dX10_comes_72 : decode cX10_comes 72 = .ok (.iastore, 1) := by decide +kernel
theorem dX10_comes_73 : decode cX10_comes 73 = .ok (.iinc 3 1, 3) := by decide +kernel
theorem dX10_comes_76 : decode cX10_comes 76 = .ok (.goto (-58), 3) := by decide +kernel
theorem dX10_comes_79 : decode cX10_comes 79 = .ok (.iinc 2 1, 3) := by decide +kernel
theorem dX10_comes_82 : decode cX10_comes 82 = .ok (.goto (-80), 3) := by decide +kernel
theorem dX10_comes_85 : decode cX10_comes 85 = .ok (.iconst 0, 1) := by decide +kernel
theorem dX10_comes_86 : decode cX10_comes 86 = .ok (.istore_n 2, 1) := by decide +kernel
theorem dX10_comes_87 : decode cX10_comes 87 = .ok (.iload_n 2, 1) := by decide +kernel
theorem dX10_comes_88 : decode cX10_comes 88 = .ok (.bipush 13, 2) := by decide +kernel
theorem dX10_comes_90 : decode cX10_comes 90 = .ok (.if_icmp .ge 42, 3) := by decide +kernel
theorem dX10_comes_93 : decode cX10_comes 93 = .ok (.aload_n 0, 1) := by decide +kernel
theorem dX10_comes_94 : decode cX10_comes 94 = .ok (.getfield 50, 3) := by decide +kernel
theorem dX10_comes_97 : decode cX10_comes 97 = .ok (.bipush 13, 2) := by decide +kernel
theorem dX10_comes_99 : decode cX10_comes 99 = .ok (.iload_n 1, 1) := by decide +kernel
theorem dX10_comes_100 : decode cX10_comes 100 = .ok (.imul, 1) := by decide +kernel
theorem dX10_comes_101 : decode cX10_comes 101 = .ok (.iload_n 2, 1) := by decide +kernel
theorem dX10_comes_102 : decode cX10_comes 102 = .ok (.iadd, 1) := by decide +kernel
theorem dX10_comes_103 : decode cX10_comes 103 = .ok (.aload_n 0, 1) := by decide +kernel
theorem dX10_comes_104 : decode cX10_comes 104 = .ok (.getfield 53, 3) := by decide +kernel
theorem dX10_comes_107 : decode cX10_comes 107 = .ok (.iload_n 2, 1) := by decide +kernel
theorem dX10_comes_108 : decode cX10_comes 108 = .ok (.iaload, 1) := by decide +kernel
theorem dX10_comes_109 : decode cX10_comes 109 = .ok (.ldc 210, 2) := by decide +kernel
theorem dX10_comes_111 : decode cX10_comes 111 = .ok (.if_icmp .ge 12, 3) := by decide +kernel
theorem dX10_comes_114 : decode cX10_comes 114 = .ok (.aload_n 0, 1) := by decide +kernel
theorem dX10_comes_115 : decode cX10_comes 115 = .ok (.getfield 53, 3) := by decide +kernel
theorem dX10_comes_118 : decode cX10_comes 118 = .ok (.iload_n 2, 1) := by decide +kernel
theorem dX10_comes_119 : decode cX10_comes 119 = .ok (.iaload, 1) := by decide +kernel
theorem dX10_comes_120 : decode cX10_comes 120 = .ok (.goto 5, 3) := by decide +kernel
theorem dX10_comes_123 : decode cX10_comes 123 = .ok (.ldc 210, 2) := by decide +kernel
theorem dX10_comes_125 : decode cX10_comes 125 = .ok (.iastore, 1) := by decide +kernel
theorem dX10_comes_126 : decode cX10_comes 126 = .ok (.iinc 2 1, 3) := by decide +kernel
theorem dX10_comes_129 : decode cX10_comes 129 = .ok (.goto (-42), 3) := by decide +kernel
theorem dX10_comes_132 : decode cX10_comes 132 = .ok (.return_, 1) := by decide +kernel
theorem dX10_closes_0 : decode cX10_closes 0 = .ok (.iconst 0, 1) := by decide +kernel
theorem dX10_closes_1 : decode cX10_closes 1 = .ok (.istore_n 2, 1) := by decide +kernel
theorem dX10_closes_2 : decode cX10_closes 2 = .ok (.iload_n 2, 1) := by decide +kernel
theorem dX10_closes_3 : decode cX10_closes 3 = .ok (.bipush 13, 2) := by decide +kernel
theorem dX10_closes_5 : decode cX10_closes 5 = .ok (.if_icmp .ge 69, 3) := by decide +kernel
theorem dX10_closes_8 : decode cX10_closes 8 = .ok (.aload_n 0, 1) := by decide +kernel
theorem dX10_closes_9 : decode cX10_closes 9 = .ok (.getfield 50, 3) := by decide +kernel
theorem dX10_closes_12 : decode cX10_closes 12 = .ok (.bipush 13, 2) := by decide +kernel
theorem dX10_closes_14 : decode cX10_closes 14 = .ok (.iload_n 1, 1) := by decide +kernel
theorem dX10_closes_15 : decode cX10_closes 15 = .ok (.imul, 1) := by decide +kernel
theorem dX10_closes_16 : decode cX10_closes 16 = .ok (.iload_n 2, 1) := by decide +kernel
theorem dX10_closes_17 : decode cX10_closes 17 = .ok (.iadd, 1) := by decide +kernel
theorem dX10_closes_18 : decode cX10_closes 18 = .ok (.iaload, 1) := by decide +kernel
theorem dX10_closes_19 : decode cX10_closes 19 = .ok (.istore_n 3, 1) := by decide +kernel
theorem dX10_closes_20 : decode cX10_closes 20 = .ok (.iload_n 1, 1) := by decide +kernel
theorem dX10_closes_21 : decode cX10_closes 21 = .ok (.aload_n 0, 1) := by decide +kernel
theorem dX10_closes_22 : decode cX10_closes 22 = .ok (.getfield 105, 3) := by decide +kernel
theorem dX10_closes_25 : decode cX10_closes 25 = .ok (.if_icmp .lt 20, 3) := by decide +kernel
theorem dX10_closes_28 : decode cX10_closes 28 = .ok (.iload_n 2, 1) := by decide +kernel
theorem dX10_closes_29 : decode cX10_closes 29 = .ok (.ifCond .le 16, 3) := by decide +kernel
theorem dX10_closes_32 : decode cX10_closes 32 = .ok (.aload_n 0, 1) := by decide +kernel
theorem dX10_closes_33 : decode cX10_closes 33 = .ok (.iload_n 1, 1) := by decide +kernel
theorem dX10_closes_34 : decode cX10_closes 34 = .ok (.invokevirtual 170, 3) := by decide +kernel
theorem dX10_closes_37 : decode cX10_closes 37 = .ok (.iload_n 3, 1) := by decide +kernel
theorem dX10_closes_38 : decode cX10_closes 38 = .ok (.if_icmp .ge 7, 3) := by decide +kernel
theorem dX10_closes_41 : decode cX10_closes 41 = .ok (.iconst 1, 1) := by decide +kernel
theorem dX10_closes_42 : decode cX10_closes 42 = .ok (.goto 4, 3) := by decide +kernel
theorem dX10_closes_45 : decode cX10_closes 45 = .ok (.iconst 0, 1) := by decide +kernel
theorem dX10_closes_46 : decode cX10_closes 46 = .ok (.istore 4, 2) := by decide +kernel
theorem dX10_closes_48 : decode cX10_closes 48 = .ok (.aload_n 0, 1) := by decide +kernel
theorem dX10_closes_49 : decode cX10_closes 49 = .ok (.getfield 56, 3) := by decide +kernel
theorem dX10_closes_52 : decode cX10_closes 52 = .ok (.iload_n 2, 1) := by decide +kernel
theorem dX10_closes_53 : decode cX10_closes 53 = .ok (.iload 4, 2) := by decide +kernel
theorem dX10_closes_55 : decode cX10_closes 55 = .ok (.ifCond .eq 11, 3) := by decide +kernel
theorem dX10_closes_58 : decode cX10_closes 58 = .ok (.aload_n 0, 1) := by decide +kernel
theorem dX10_closes_59 : decode cX10_closes 59 = .ok (.iload_n 1, 1) := by decide +kernel
theorem dX10_closes_60 : decode cX10_closes 60 = .ok (.invokevirtual 170, 3) := by decide +kernel
theorem dX10_closes_63 : decode cX10_closes 63 = .ok (.goto 4, 3) := by decide +kernel
theorem dX10_closes_66 : decode cX10_closes 66 = .ok (.iload_n 3, 1) := by decide +kernel
theorem dX10_closes_67 : decode cX10_closes 67 = .ok (.iastore, 1) := by decide +kernel
theorem dX10_closes_68 : decode cX10_closes 68 = .ok (.iinc 2 1, 3) := by decide +kernel
theorem dX10_closes_71 : decode cX10_closes 71 = .ok (.goto (-69), 3) := by decide +kernel
theorem dX10_closes_74 : decode cX10_closes 74 = .ok (.return_, 1) := by decide +kernel
theorem dX10_setLeaf_0 : decode cX10_setLeaf 0 = .ok (.aload_n 0, 1) := by decide +kernel
theorem dX10_setLeaf_1 : decode cX10_setLeaf 1 = .ok (.aload_n 0, 1) := by decide +kernel
theorem dX10_setLeaf_2 : decode cX10_setLeaf 2 = .ok (.getfield 16, 3) := by decide +kernel
theorem dX10_setLeaf_5 : decode cX10_setLeaf 5 = .ok (.iload_n 1, 1) := by decide +kernel
theorem dX10_setLeaf_6 : decode cX10_setLeaf 6 = .ok (.invokevirtual 183, 3) := by decide +kernel
theorem dX10_setLeaf_9 : decode cX10_setLeaf 9 = .ok (.ifCond .le 7, 3) := by decide +kernel
theorem dX10_setLeaf_12 : decode cX10_setLeaf 12 = .ok (.iconst 1, 1) := by decide +kernel
theorem dX10_setLeaf_13 : decode cX10_setLeaf 13 = .ok (.goto 4, 3) := by decide +kernel
theorem dX10_setLeaf_16 : decode cX10_setLeaf 16 = .ok (.iconst 0, 1) := by decide +kernel
theorem dX10_setLeaf_17 : decode cX10_setLeaf 17 = .ok (.istore_n 2, 1) := by decide +kernel
theorem dX10_setLeaf_18 : decode cX10_setLeaf 18 = .ok (.iconst 0, 1) := by decide +kernel
theorem dX10_setLeaf_19 : decode cX10_setLeaf 19 = .ok (.istore_n 3, 1) := by decide +kernel
theorem dX10_setLeaf_20 : decode cX10_setLeaf 20 = .ok (.iload_n 3, 1) := by decide +kernel
theorem dX10_setLeaf_21 : decode cX10_setLeaf 21 = .ok (.bipush 13, 2) := by decide +kernel
theorem dX10_setLeaf_23 : decode cX10_setLeaf 23 = .ok (.if_icmp .ge 40, 3) := by decide +kernel
theorem dX10_setLeaf_26 : decode cX10_setLeaf 26 = .ok (.aload_n 0, 1) := by decide +kernel
theorem dX10_setLeaf_27 : decode cX10_setLeaf 27 = .ok (.getfield 56, 3) := by decide +kernel
theorem dX10_setLeaf_30 : decode cX10_setLeaf 30 = .ok (.iload_n 3, 1) := by decide +kernel
theorem dX10_setLeaf_31 : decode cX10_setLeaf 31 = .ok (.iload_n 2, 1) := by decide +kernel
theorem dX10_setLeaf_32 : decode cX10_setLeaf 32 = .ok (.ifCond .ne 7, 3) := by decide +kernel
theorem dX10_setLeaf_35 : decode cX10_setLeaf 35 = .ok (.iconst 0, 1) := by decide +kernel
theorem dX10_setLeaf_36 : decode cX10_setLeaf 36 = .ok (.goto 20, 3) := by decide +kernel
theorem dX10_setLeaf_39 : decode cX10_setLeaf 39 = .ok (.iload_n 3, 1) := by decide +kernel
theorem dX10_setLeaf_40 : decode cX10_setLeaf 40 = .ok (.ifCond .le 14, 3) := by decide +kernel
theorem dX10_setLeaf_43 : decode cX10_setLeaf 43 = .ok (.aload_n 0, 1) := by decide +kernel
theorem dX10_setLeaf_44 : decode cX10_setLeaf 44 = .ok (.aload_n 0, 1) := by decide +kernel
theorem dX10_setLeaf_45 : decode cX10_setLeaf 45 = .ok (.getfield 16, 3) := by decide +kernel
theorem dX10_setLeaf_48 : decode cX10_setLeaf 48 = .ok (.invokevirtual 170, 3) := by decide +kernel
theorem dX10_setLeaf_51 : decode cX10_setLeaf 51 = .ok (.goto 5, 3) := by decide +kernel
theorem dX10_setLeaf_54 : decode cX10_setLeaf 54 = .ok (.ldc 210, 2) := by decide +kernel
theorem dX10_setLeaf_56 : decode cX10_setLeaf 56 = .ok (.iastore, 1) := by decide +kernel
theorem dX10_setLeaf_57 : decode cX10_setLeaf 57 = .ok (.iinc 3 1, 3) := by decide +kernel
theorem dX10_setLeaf_60 : decode cX10_setLeaf 60 = .ok (.goto (-40), 3) := by decide +kernel
theorem dX10_setLeaf_63 : decode cX10_setLeaf 63 = .ok (.return_, 1) := by decide +kernel
theorem dX10_best_0 : decode cX10_best 0 = .ok (.iload_n 1, 1) := by decide +kernel
theorem dX10_best_1 : decode cX10_best 1 = .ok (.iconst 1, 1) := by decide +kernel
theorem dX10_best_2 : decode cX10_best 2 = .ok (.bipush 12, 2) := by decide +kernel
theorem dX10_best_4 : decode cX10_best 4 = .ok (.invokestatic 66, 3) := by decide +kernel
theorem dX10_best_7 : decode cX10_best 7 = .ok (.ifCond .ne 5, 3) := by decide +kernel
theorem dX10_best_10 : decode cX10_best 10 = .ok (.iconst (-1), 1) := by decide +kernel
theorem dX10_best_11 : decode cX10_best 11 = .ok (.ireturn, 1) := by decide +kernel
theorem dX10_best_12 : decode cX10_best 12 = .ok (.aload_n 0, 1) := by decide +kernel
theorem dX10_best_13 : decode cX10_best 13 = .ok (.invokevirtual 180, 3) := by decide +kernel
theorem dX10_best_16 : decode cX10_best 16 = .ok (.iconst 0, 1) := by decide +kernel
theorem dX10_best_17 : decode cX10_best 17 = .ok (.istore_n 2, 1) := by decide +kernel
theorem dX10_best_18 : decode cX10_best 18 = .ok (.iload_n 2, 1) := by decide +kernel
theorem dX10_best_19 : decode cX10_best 19 = .ok (.aload_n 0, 1) := by decide +kernel
theorem dX10_best_20 : decode cX10_best 20 = .ok (.getfield 7, 3) := by decide +kernel
theorem dX10_best_23 : decode cX10_best 23 = .ok (.if_icmp .gt 14, 3) := by decide +kernel
theorem dX10_best_26 : decode cX10_best 26 = .ok (.aload_n 0, 1) := by decide +kernel
theorem dX10_best_27 : decode cX10_best 27 = .ok (.iload_n 2, 1) := by decide +kernel
theorem dX10_best_28 : decode cX10_best 28 = .ok (.invokevirtual 211, 3) := by decide +kernel
theorem dX10_best_31 : decode cX10_best 31 = .ok (.iinc 2 1, 3) := by decide +kernel
theorem dX10_best_34 : decode cX10_best 34 = .ok (.goto (-16), 3) := by decide +kernel
theorem dX10_best_37 : decode cX10_best 37 = .ok (.iconst 0, 1) := by decide +kernel
theorem dX10_best_38 : decode cX10_best 38 = .ok (.istore_n 2, 1) := by decide +kernel
theorem dX10_best_39 : decode cX10_best 39 = .ok (.iload_n 2, 1) := by decide +kernel
theorem dX10_best_40 : decode cX10_best 40 = .ok (.iconst 1, 1) := by decide +kernel
theorem dX10_best_41 : decode cX10_best 41 = .ok (.iconst 2, 1) := by decide +kernel
theorem dX10_best_42 : decode cX10_best 42 = .ok (.aload_n 0, 1) := by decide +kernel
theorem dX10_best_43 : decode cX10_best 43 = .ok (.getfield 16, 3) := by decide +kernel
theorem dX10_best_46 : decode cX10_best 46 = .ok (.imul, 1) := by decide +kernel
theorem dX10_best_47 : decode cX10_best 47 = .ok (.ishl, 1) := by decide +kernel
theorem dX10_best_48 : decode cX10_best 48 = .ok (.if_icmp .ge 64, 3) := by decide +kernel
theorem dX10_best_51 : decode cX10_best 51 = .ok (.aload_n 0, 1) := by decide +kernel
theorem dX10_best_52 : decode cX10_best 52 = .ok (.iload_n 2, 1) := by decide +kernel
theorem dX10_best_53 : decode cX10_best 53 = .ok (.invokevirtual 214, 3) := by decide +kernel
theorem dX10_best_56 : decode cX10_best 56 = .ok (.aload_n 0, 1) := by decide +kernel
theorem dX10_best_57 : decode cX10_best 57 = .ok (.getfield 16, 3) := by decide +kernel
theorem dX10_best_60 : decode cX10_best 60 = .ok (.istore_n 3, 1) := by decide +kernel
theorem dX10_best_61 : decode cX10_best 61 = .ok (.iload_n 2, 1) := by decide +kernel
theorem dX10_best_62 : decode cX10_best 62 = .ok (.istore 4, 2) := by decide +kernel
theorem dX10_best_64 : decode cX10_best 64 = .ok (.iload_n 3, 1) := by decide +kernel
theorem dX10_best_65 : decode cX10_best 65 = .ok (.ifCond .le 41, 3) := by decide +kernel
theorem dX10_best_68 : decode cX10_best 68 = .ok (.iinc 3 (-1), 3) := by decide +kernel
theorem dX10_best_71 : decode cX10_best 71 = .ok (.aload_n 0, 1) := by decide +kernel
theorem dX10_best_72 : decode cX10_best 72 = .ok (.iload_n 3, 1) := by decide +kernel
theorem dX10_best_73 : decode cX10_best 73 = .ok (.invokevirtual 217, 3) := by decide +kernel
theorem dX10_best_76 : decode cX10_best 76 = .ok (.iload 4, 2) := by decide +kernel
theorem dX10_best_78 : decode cX10_best 78 = .ok (.iconst 4, 1) := by decide +kernel
theorem dX10_best_79 : decode cX10_best 79 = .ok (.irem, 1) := by decide +kernel
theorem dX10_best_80 : decode cX10_best 80 = .ok (.iconst 3, 1) := by decide +kernel
theorem dX10_best_81 : decode cX10_best 81 = .ok (.if_icmp .ge 6, 3) := by decide +kernel
theorem dX10_best_84 : decode cX10_best 84 = .ok (.goto 22, 3) := by decide +kernel
theorem dX10_best_87 : decode cX10_best 87 = .ok (.aload_n 0, 1) := by decide +kernel
theorem dX10_best_88 : decode cX10_best 88 = .ok (.iload_n 3, 1) := by decide +kernel
theorem dX10_best_89 : decode cX10_best 89 = .ok (.invokevirtual 220, 3) := by decide +kernel
theorem dX10_best_92 : decode cX10_best 92 = .ok (.aload_n 0, 1) := by decide +kernel
theorem dX10_best_93 : decode cX10_best 93 = .ok (.iload_n 3, 1) := by decide +kernel
theorem dX10_best_94 : decode cX10_best 94 = .ok (.invokevirtual 211, 3) := by decide +kernel
theorem dX10_best_97 : decode cX10_best 97 = .ok (.iload 4, 2) := by decide +kernel
theorem dX10_best_99 : decode cX10_best 99 = .ok (.iconst 4, 1) := by decide +kernel
theorem dX10_best_100 : decode cX10_best 100 = .ok (.idiv, 1) := by decide +kernel
theorem dX10_best_101 : decode cX10_best 101 = .ok (.istore 4, 2) := by decide +kernel
theorem dX10_best_103 : decode cX10_best 103 = .ok (.goto (-39), 3) := by decide +kernel
theorem dX10_best_106 : decode cX10_best 106 = .ok (.iinc 2 1, 3) := by decide +kernel
theorem dX10_best_109 : decode cX10_best 109 = .ok (.goto (-70), 3) := by decide +kernel
theorem dX10_best_112 : decode cX10_best 112 = .ok (.aload_n 0, 1) := by decide +kernel
theorem dX10_best_113 : decode cX10_best 113 = .ok (.getfield 56, 3) := by decide +kernel
theorem dX10_best_116 : decode cX10_best 116 = .ok (.iload_n 1, 1) := by decide +kernel
theorem dX10_best_117 : decode cX10_best 117 = .ok (.iaload, 1) := by decide +kernel
theorem dX10_best_118 : decode cX10_best 118 = .ok (.ldc 210, 2) := by decide +kernel
theorem dX10_best_120 : decode cX10_best 120 = .ok (.if_icmp .lt 8, 3) := by decide +kernel
theorem dX10_best_123 : decode cX10_best 123 = .ok (.bipush (-4), 2) := by decide +kernel
theorem dX10_best_125 : decode cX10_best 125 = .ok (.goto 16, 3) := by decide +kernel
theorem dX10_best_128 : decode cX10_best 128 = .ok (.aload_n 0, 1) := by decide +kernel
theorem dX10_best_129 : decode cX10_best 129 = .ok (.getfield 56, 3) := by decide +kernel
theorem dX10_best_132 : decode cX10_best 132 = .ok (.iload_n 1, 1) := by decide +kernel
theorem dX10_best_133 : decode cX10_best 133 = .ok (.iaload, 1) := by decide +kernel
theorem dX10_best_134 : decode cX10_best 134 = .ok (.aload_n 0, 1) := by decide +kernel
theorem dX10_best_135 : decode cX10_best 135 = .ok (.iconst 0, 1) := by decide +kernel
theorem dX10_best_136 : decode cX10_best 136 = .ok (.iconst 0, 1) := by decide +kernel
theorem dX10_best_137 : decode cX10_best 137 = .ok (.invokevirtual 183, 3) := by decide +kernel
theorem dX10_best_140 : decode cX10_best 140 = .ok (.isub, 1) := by decide +kernel
theorem dX10_best_141 : decode cX10_best 141 = .ok (.ireturn, 1) := by decide +kernel
theorem dX10_spans_0 : decode cX10_spans 0 = .ok (.iconst 0, 1) := by decide +kernel
theorem dX10_spans_1 : decode cX10_spans 1 = .ok (.istore_n 2, 1) := by decide +kernel
theorem dX10_spans_2 : decode cX10_spans 2 = .ok (.bipush (-4), 2) := by decide +kernel
theorem dX10_spans_4 : decode cX10_spans 4 = .ok (.istore_n 3, 1) := by decide +kernel
theorem dX10_spans_5 : decode cX10_spans 5 = .ok (.aload_n 0, 1) := by decide +kernel
theorem dX10_spans_6 : decode cX10_spans 6 = .ok (.iconst 0, 1) := by decide +kernel
theorem dX10_spans_7 : decode cX10_spans 7 = .ok (.putfield 223, 3) := by decide +kernel
theorem dX10_spans_10 : decode cX10_spans 10 = .ok (.iconst 0, 1) := by decide +kernel
theorem dX10_spans_11 : decode cX10_spans 11 = .ok (.istore 4, 2) := by decide +kernel
theorem dX10_spans_13 : decode cX10_spans 13 = .ok (.iload 4, 2) := by decide +kernel
theorem dX10_spans_15 : decode cX10_spans 15 = .ok (.aload_n 0, 1) := by decide +kernel
theorem dX10_spans_16 : decode cX10_spans 16 = .ok (.invokevirtual 157, 3) := by decide +kernel
theorem dX10_spans_19 : decode cX10_spans 19 = .ok (.if_icmp .ge 109, 3) := by decide +kernel
theorem dX10_spans_22 : decode cX10_spans 22 = .ok (.aload_n 0, 1) := by decide +kernel
theorem dX10_spans_23 : decode cX10_spans 23 = .ok (.getfield 47, 3) := by decide +kernel
theorem dX10_spans_26 : decode cX10_spans 26 = .ok (.iload 4, 2) := by decide +kernel
theorem dX10_spans_28 : decode cX10_spans 28 = .ok (.iaload, 1) := by decide +kernel
theorem dX10_spans_29 : decode cX10_spans 29 = .ok (.iconst 1, 1) := by decide +kernel
theorem dX10_spans_30 : decode cX10_spans 30 = .ok (.if_icmp .ne 92, 3) := by decide +kernel
theorem dX10_spans_33 : decode cX10_spans 33 = .ok (.iload_n 3, 1) := by decide +kernel
theorem dX10_spans_34 : decode cX10_spans 34 = .ok (.bipush (-4), 2) := by decide +kernel
theorem dX10_spans_36 : decode cX10_spans 36 = .ok (.if_icmp .eq 11, 3) := by decide +kernel
theorem dX10_spans_39 : decode cX10_spans 39 = .ok (.iload_n 3, 1) := by decide +kernel
theorem dX10_spans_40 : decode cX10_spans 40 = .ok (.iload 4, 2) := by decide +kernel
theorem dX10_spans_42 : decode cX10_spans 42 = .ok (.iconst 1, 1) := by decide +kernel
theorem dX10_spans_43 : decode cX10_spans 43 = .ok (.isub, 1) := by decide +kernel
theorem dX10_spans_44 : decode cX10_spans 44 = .ok (.if_icmp .ge 55, 3) := by decide +kernel
theorem dX10_spans_47 : decode cX10_spans 47 = .ok (.iload_n 3, 1) := by decide +kernel
theorem dX10_spans_48 : decode cX10_spans 48 = .ok (.bipush (-4), 2) := by decide +kernel
theorem dX10_spans_50 : decode cX10_spans 50 = .ok (.if_icmp .eq 28, 3) := by decide +kernel
theorem dX10_spans_53 : decode cX10_spans 53 = .ok (.aload_n 0, 1) := by decide +kernel
theorem dX10_spans_54 : decode cX10_spans 54 = .ok (.getfield 59, 3) := by decide +kernel
theorem dX10_spans_57 : decode cX10_spans 57 = .ok (.aload_n 0, 1) := by decide +kernel
theorem dX10_spans_58 : decode cX10_spans 58 = .ok (.getfield 223, 3) := by decide +kernel
theorem dX10_spans_61 : decode cX10_spans 61 = .ok (.iload 4, 2) := by decide +kernel
theorem dX10_spans_63 : decode cX10_spans 63 = .ok (.iconst 1, 1) := by decide +kernel
theorem dX10_spans_64 : decode cX10_spans 64 = .ok (.isub, 1) := by decide +kernel
theorem dX10_spans_65 : decode cX10_spans 65 = .ok (.iload_n 3, 1) := by decide +kernel
theorem dX10_spans_66 : decode cX10_spans 66 = .ok (.isub, 1) := by decide +kernel
theorem dX10_spans_67 : decode cX10_spans 67 = .ok (.iastore, 1) := by decide +kernel
theorem dX10_spans_68 : decode cX10_spans 68 = .ok (.aload_n 0, 1) := by decide +kernel
theorem dX10_spans_69 : decode cX10_spans 69 = .ok (.dup, 1) := by decide +kernel
theorem dX10_spans_70 : decode cX10_spans 70 = .ok (.getfield 223, 3) := by decide +kernel
theorem dX10_spans_73 : decode cX10_spans 73 = .ok (.iconst 1, 1) := by decide +kernel
theorem dX10_spans_74 : decode cX10_spans 74 = .ok (.iadd, 1) := by decide +kernel
theorem dX10_spans_75 : decode cX10_spans 75 = .ok (.putfield 223, 3) := by decide +kernel
theorem dX10_spans_78 : decode cX10_spans 78 = .ok (.aload_n 0, 1) := by decide +kernel
theorem dX10_spans_79 : decode cX10_spans 79 = .ok (.iload_n 2, 1) := by decide +kernel
theorem dX10_spans_80 : decode cX10_spans 80 = .ok (.iload_n 1, 1) := by decide +kernel
theorem dX10_spans_81 : decode cX10_spans 81 = .ok (.if_icmp .ne 8, 3) := by decide +kernel
theorem dX10_spans_84 : decode cX10_spans 84 = .ok (.iload 4, 2) := by decide +kernel
theorem dX10_spans_86 : decode cX10_spans 86 = .ok (.goto 7, 3) := by decide +kernel
theorem dX10_spans_89 : decode cX10_spans 89 = .ok (.aload_n 0, 1) := by decide +kernel
theorem dX10_spans_90 : decode cX10_spans 90 = .ok (.getfield 195, 3) := by decide +kernel
theorem dX10_spans_93 : decode cX10_spans 93 = .ok (.putfield 195, 3) := by decide +kernel
theorem dX10_spans_96 : decode cX10_spans 96 = .ok (.iinc 2 1, 3) := by decide +kernel
theorem dX10_spans_99 : decode cX10_spans 99 = .ok (.aload_n 0, 1) := by decide +kernel
theorem dX10_spans_100 : decode cX10_spans 100 = .ok (.iload_n 2, 1) := by decide +kernel
theorem dX10_spans_101 : decode cX10_spans 101 = .ok (.iload_n 1, 1) := by decide +kernel
theorem dX10_spans_102 : decode cX10_spans 102 = .ok (.iconst 1, 1) := by decide +kernel
theorem dX10_spans_103 : decode cX10_spans 103 = .ok (.iadd, 1) := by decide +kernel
theorem dX10_spans_104 : decode cX10_spans 104 = .ok (.if_icmp .ne 8, 3) := by decide +kernel
theorem dX10_spans_107 : decode cX10_spans 107 = .ok (.iload 4, 2) := by decide +kernel
theorem dX10_spans_109 : decode cX10_spans 109 = .ok (.goto 7, 3) := by decide +kernel
theorem dX10_spans_112 : decode cX10_spans 112 = .ok (.aload_n 0, 1) := by decide +kernel
theorem dX10_spans_113 : decode cX10_spans 113 = .ok (.getfield 198, 3) := by decide +kernel
theorem dX10_spans_116 : decode cX10_spans 116 = .ok (.putfield 198, 3) := by decide +kernel
theorem dX10_spans_119 : decode cX10_spans 119 = .ok (.iload 4, 2) := by decide +kernel
theorem dX10_spans_121 : decode cX10_spans 121 = .ok (.istore_n 3, 1) := by decide +kernel
theorem dX10_spans_122 : decode cX10_spans 122 = .ok (.iinc 4 1, 3) := by decide +kernel
theorem dX10_spans_125 : decode cX10_spans 125 = .ok (.goto (-112), 3) := by decide +kernel
theorem dX10_spans_128 : decode cX10_spans 128 = .ok (.iload_n 2, 1) := by decide +kernel
theorem dX10_spans_129 : decode cX10_spans 129 = .ok (.ireturn, 1) := by decide +kernel
theorem dX10_span_0 : decode cX10_span 0 = .ok (.iload_n 1, 1) := by decide +kernel
theorem dX10_span_1 : decode cX10_span 1 = .ok (.iload_n 2, 1) := by decide +kernel
theorem dX10_span_2 : decode cX10_span 2 = .ok (.iload_n 3, 1) := by decide +kernel
theorem dX10_span_3 : decode cX10_span 3 = .ok (.invokestatic 201, 3) := by decide +kernel
theorem dX10_span_6 : decode cX10_span 6 = .ok (.ifCond .ne 5, 3) := by decide +kernel
theorem dX10_span_9 : decode cX10_span 9 = .ok (.iconst (-1), 1) := by decide +kernel
theorem dX10_span_10 : decode cX10_span 10 = .ok (.ireturn, 1) := by decide +kernel
theorem dX10_span_11 : decode cX10_span 11 = .ok (.aload_n 0, 1) := by decide +kernel
theorem dX10_span_12 : decode cX10_span 12 = .ok (.iload_n 1, 1) := by decide +kernel
theorem dX10_span_13 : decode cX10_span 13 = .ok (.invokevirtual 204, 3) := by decide +kernel
theorem dX10_span_16 : decode cX10_span 16 = .ok (.aload_n 0, 1) := by decide +kernel
theorem dX10_span_17 : decode cX10_span 17 = .ok (.iload_n 2, 1) := by decide +kernel
theorem dX10_span_18 : decode cX10_span 18 = .ok (.invokevirtual 226, 3) := by decide +kernel
theorem dX10_span_21 : decode cX10_span 21 = .ok (.istore 4, 2) := by decide +kernel
theorem dX10_span_23 : decode cX10_span 23 = .ok (.iload_n 2, 1) := by decide +kernel
theorem dX10_span_24 : decode cX10_span 24 = .ok (.iconst (-1), 1) := by decide +kernel
theorem dX10_span_25 : decode cX10_span 25 = .ok (.if_icmp .ne 8, 3) := by decide +kernel
theorem dX10_span_28 : decode cX10_span 28 = .ok (.iload 4, 2) := by decide +kernel
theorem dX10_span_30 : decode cX10_span 30 = .ok (.goto 29, 3) := by decide +kernel
theorem dX10_span_33 : decode cX10_span 33 = .ok (.iload_n 2, 1) := by decide +kernel
theorem dX10_span_34 : decode cX10_span 34 = .ok (.iload 4, 2) := by decide +kernel
theorem dX10_span_36 : decode cX10_span 36 = .ok (.if_icmp .lt 8, 3) := by decide +kernel
theorem dX10_span_39 : decode cX10_span 39 = .ok (.bipush (-4), 2) := by decide +kernel
theorem dX10_span_41 : decode cX10_span 41 = .ok (.goto 18, 3) := by decide +kernel
theorem dX10_span_44 : decode cX10_span 44 = .ok (.iload_n 3, 1) := by decide +kernel
theorem dX10_span_45 : decode cX10_span 45 = .ok (.ifCond .ne 10, 3) := by decide +kernel
theorem dX10_span_48 : decode cX10_span 48 = .ok (.aload_n 0, 1) := by decide +kernel
theorem dX10_span_49 : decode cX10_span 49 = .ok (.getfield 195, 3) := by decide +kernel
theorem dX10_span_52 : decode cX10_span 52 = .ok (.goto 7, 3) := by decide +kernel
theorem dX10_span_55 : decode cX10_span 55 = .ok (.aload_n 0, 1) := by decide +kernel
theorem dX10_span_56 : decode cX10_span 56 = .ok (.getfield 198, 3) := by decide +kernel
theorem dX10_span_59 : decode cX10_span 59 = .ok (.ireturn, 1) := by decide +kernel
theorem dX10_joined_0 : decode cX10_joined 0 = .ok (.iload_n 1, 1) := by decide +kernel
theorem dX10_joined_1 : decode cX10_joined 1 = .ok (.iconst 0, 1) := by decide +kernel
theorem dX10_joined_2 : decode cX10_joined 2 = .ok (.iconst 1, 1) := by decide +kernel
theorem dX10_joined_3 : decode cX10_joined 3 = .ok (.invokestatic 66, 3) := by decide +kernel
theorem dX10_joined_6 : decode cX10_joined 6 = .ok (.ifCond .eq 13, 3) := by decide +kernel
theorem dX10_joined_9 : decode cX10_joined 9 = .ok (.iload_n 2, 1) := by decide +kernel
theorem dX10_joined_10 : decode cX10_joined 10 = .ok (.iconst 1, 1) := by decide +kernel
theorem dX10_joined_11 : decode cX10_joined 11 = .ok (.bipush 99, 2) := by decide +kernel
theorem dX10_joined_13 : decode cX10_joined 13 = .ok (.invokestatic 66, 3) := by decide +kernel
theorem dX10_joined_16 : decode cX10_joined 16 = .ok (.ifCond .ne 5, 3) := by decide +kernel
theorem dX10_joined_19 : decode cX10_joined 19 = .ok (.iconst (-1), 1) := by decide +kernel
theorem dX10_joined_20 : decode cX10_joined 20 = .ok (.ireturn, 1) := by decide +kernel
theorem dX10_joined_21 : decode cX10_joined 21 = .ok (.aload_n 0, 1) := by decide +kernel
theorem dX10_joined_22 : decode cX10_joined 22 = .ok (.iload_n 1, 1) := by decide +kernel
theorem dX10_joined_23 : decode cX10_joined 23 = .ok (.invokevirtual 204, 3) := by decide +kernel
theorem dX10_joined_26 : decode cX10_joined 26 = .ok (.aload_n 0, 1) := by decide +kernel
theorem dX10_joined_27 : decode cX10_joined 27 = .ok (.bipush (-4), 2) := by decide +kernel
theorem dX10_joined_29 : decode cX10_joined 29 = .ok (.invokevirtual 226, 3) := by decide +kernel
theorem dX10_joined_32 : decode cX10_joined 32 = .ok (.iload_n 2, 1) := by decide +kernel
theorem dX10_joined_33 : decode cX10_joined 33 = .ok (.isub, 1) := by decide +kernel
theorem dX10_joined_34 : decode cX10_joined 34 = .ok (.istore_n 3, 1) := by decide +kernel
theorem dX10_joined_35 : decode cX10_joined 35 = .ok (.iconst 0, 1) := by decide +kernel
theorem dX10_joined_36 : decode cX10_joined 36 = .ok (.istore 4, 2) := by decide +kernel
theorem dX10_joined_38 : decode cX10_joined 38 = .ok (.iconst 1, 1) := by decide +kernel
theorem dX10_joined_39 : decode cX10_joined 39 = .ok (.istore 5, 2) := by decide +kernel
theorem dX10_joined_41 : decode cX10_joined 41 = .ok (.iload 5, 2) := by decide +kernel
theorem dX10_joined_43 : decode cX10_joined 43 = .ok (.aload_n 0, 1) := by decide +kernel
theorem dX10_joined_44 : decode cX10_joined 44 = .ok (.invokevirtual 157, 3) := by decide +kernel
theorem dX10_joined_47 : decode cX10_joined 47 = .ok (.if_icmp .ge 57, 3) := by decide +kernel
theorem dX10_joined_50 : decode cX10_joined 50 = .ok (.iload_n 3, 1) := by decide +kernel
theorem dX10_joined_51 : decode cX10_joined 51 = .ok (.ifCond .le 53, 3) := by decide +kernel
theorem dX10_joined_54 : decode cX10_joined 54 = .ok (.iconst 0, 1) := by decide +kernel
theorem dX10_joined_55 : decode cX10_joined 55 = .ok (.istore 6, 2) := by decide +kernel
theorem dX10_joined_57 : decode cX10_joined 57 = .ok (.iload 6, 2) := by decide +kernel
theorem dX10_joined_59 : decode cX10_joined 59 = .ok (.aload_n 0, 1) := by decide +kernel
theorem dX10_joined_60 : decode cX10_joined 60 = .ok (.getfield 223, 3) := by decide +kernel
theorem dX10_joined_63 : decode cX10_joined 63 = .ok (.if_icmp .ge 35, 3) := by decide +kernel
theorem dX10_joined_66 : decode cX10_joined 66 = .ok (.iload_n 3, 1) := by decide +kernel
theorem dX10_joined_67 : decode cX10_joined 67 = .ok (.ifCond .le 31, 3) := by decide +kernel
theorem dX10_joined_70 : decode cX10_joined 70 = .ok (.aload_n 0, 1) := by decide +kernel
theorem dX10_joined_71 : decode cX10_joined 71 = .ok (.getfield 59, 3) := by decide +kernel
theorem dX10_joined_74 : decode cX10_joined 74 = .ok (.iload 6, 2) := by decide +kernel
theorem dX10_joined_76 : decode cX10_joined 76 = .ok (.iaload, 1) := by decide +kernel
theorem dX10_joined_77 : decode cX10_joined 77 = .ok (.iload 5, 2) := by decide +kernel
theorem dX10_joined_79 : decode cX10_joined 79 = .ok (.if_icmp .ne 13, 3) := by decide +kernel
theorem dX10_joined_82 : decode cX10_joined 82 = .ok (.iload 4, 2) := by decide +kernel
theorem dX10_joined_84 : decode cX10_joined 84 = .ok (.iload 5, 2) := by decide +kernel
