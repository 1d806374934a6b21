theorem dX8_weighTile_128 : decode cX8_weighTile 128 = .ok (.iload 9, 2) := by decide +kernel
theorem dX8_weighTile_130 : decode cX8_weighTile 130 = .ok (.iadd, 1) := by decide +kernel
theorem dX8_weighTile_131 : decode cX8_weighTile 131 = .ok (.invokestatic 16, 3) := by decide +kernel
theorem dX8_weighTile_134 : decode cX8_weighTile 134 = .ok (.aload 7, 2) := by decide +kernel
theorem dX8_weighTile_136 : decode cX8_weighTile 136 = .ok (.aload_n 0, 1) := by decide +kernel
theorem dX8_weighTile_137 : decode cX8_weighTile 137 = .ok (.iload_n 3, 1) := by decide +kernel
theorem dX8_weighTile_138 : decode cX8_weighTile 138 = .ok (.iconst 1, 1) := by decide +kernel
theorem dX8_weighTile_139 : decode cX8_weighTile 139 = .ok (.iadd, 1) := by decide +kernel
theorem dX8_weighTile_140 : decode cX8_weighTile 140 = .ok (.aaload, 1) := by decide +kernel
theorem dX8_weighTile_141 : decode cX8_weighTile 141 = .ok (.invokestatic 46, 3) := by decide +kernel
theorem dX8_weighTile_144 : decode cX8_weighTile 144 = .ok (.iinc 9 1, 3) := by decide +kernel
theorem dX8_weighTile_147 : decode cX8_weighTile 147 = .ok (.goto (-50), 3) := by decide +kernel
theorem dX8_weighTile_150 : decode cX8_weighTile 150 = .ok (.iload_n 3, 1) := by decide +kernel
theorem dX8_weighTile_151 : decode cX8_weighTile 151 = .ok (.aload_n 1, 1) := by decide +kernel
theorem dX8_weighTile_152 : decode cX8_weighTile 152 = .ok (.getfield 43, 3) := by decide +kernel
theorem dX8_weighTile_155 : decode cX8_weighTile 155 = .ok (.if_icmp .lt 10, 3) := by decide +kernel
theorem dX8_weighTile_158 : decode cX8_weighTile 158 = .ok (.aload 7, 2) := by decide +kernel
theorem dX8_weighTile_160 : decode cX8_weighTile 160 = .ok (.iload 5, 2) := by decide +kernel
theorem dX8_weighTile_162 : decode cX8_weighTile 162 = .ok (.invokestatic 50, 3) := by decide +kernel
theorem dX8_weighTile_165 : decode cX8_weighTile 165 = .ok (.return_, 1) := by decide +kernel
theorem dX8_addRow_0 : decode cX8_addRow 0 = .ok (.bipush 12, 2) := by decide +kernel
theorem dX8_addRow_2 : decode cX8_addRow 2 = .ok (.istore_n 2, 1) := by decide +kernel
theorem dX8_addRow_3 : decode cX8_addRow 3 = .ok (.iload_n 2, 1) := by decide +kernel
theorem dX8_addRow_4 : decode cX8_addRow 4 = .ok (.ifCond .lt 47, 3) := by decide +kernel
theorem dX8_addRow_7 : decode cX8_addRow 7 = .ok (.ldc 20, 2) := by decide +kernel
theorem dX8_addRow_9 : decode cX8_addRow 9 = .ok (.istore_n 3, 1) := by decide +kernel
theorem dX8_addRow_10 : decode cX8_addRow 10 = .ok (.iconst 0, 1) := by decide +kernel
theorem dX8_addRow_11 : decode cX8_addRow 11 = .ok (.istore 4, 2) := by decide +kernel
theorem dX8_addRow_13 : decode cX8_addRow 13 = .ok (.iload 4, 2) := by decide +kernel
theorem dX8_addRow_15 : decode cX8_addRow 15 = .ok (.iload_n 2, 1) := by decide +kernel
theorem dX8_addRow_16 : decode cX8_addRow 16 = .ok (.if_icmp .gt 25, 3) := by decide +kernel
theorem dX8_addRow_19 : decode cX8_addRow 19 = .ok (.iload_n 3, 1) := by decide +kernel
theorem dX8_addRow_20 : decode cX8_addRow 20 = .ok (.aload_n 0, 1) := by decide +kernel
theorem dX8_addRow_21 : decode cX8_addRow 21 = .ok (.iload_n 2, 1) := by decide +kernel
theorem dX8_addRow_22 : decode cX8_addRow 22 = .ok (.iload 4, 2) := by decide +kernel
theorem dX8_addRow_24 : decode cX8_addRow 24 = .ok (.isub, 1) := by decide +kernel
theorem dX8_addRow_25 : decode cX8_addRow 25 = .ok (.iaload, 1) := by decide +kernel
theorem dX8_addRow_26 : decode cX8_addRow 26 = .ok (.aload_n 1, 1) := by decide +kernel
theorem dX8_addRow_27 : decode cX8_addRow 27 = .ok (.iload 4, 2) := by decide +kernel
theorem dX8_addRow_29 : decode cX8_addRow 29 = .ok (.iaload, 1) := by decide +kernel
theorem dX8_addRow_30 : decode cX8_addRow 30 = .ok (.iadd, 1) := by decide +kernel
theorem dX8_addRow_31 : decode cX8_addRow 31 = .ok (.invokestatic 53, 3) := by decide +kernel
theorem dX8_addRow_34 : decode cX8_addRow 34 = .ok (.istore_n 3, 1) := by decide +kernel
theorem dX8_addRow_35 : decode cX8_addRow 35 = .ok (.iinc 4 1, 3) := by decide +kernel
theorem dX8_addRow_38 : decode cX8_addRow 38 = .ok (.goto (-25), 3) := by decide +kernel
theorem dX8_addRow_41 : decode cX8_addRow 41 = .ok (.aload_n 0, 1) := by decide +kernel
theorem dX8_addRow_42 : decode cX8_addRow 42 = .ok (.iload_n 2, 1) := by decide +kernel
theorem dX8_addRow_43 : decode cX8_addRow 43 = .ok (.iload_n 3, 1) := by decide +kernel
theorem dX8_addRow_44 : decode cX8_addRow 44 = .ok (.iastore, 1) := by decide +kernel
theorem dX8_addRow_45 : decode cX8_addRow 45 = .ok (.iinc 2 (-1), 3) := by decide +kernel
theorem dX8_addRow_48 : decode cX8_addRow 48 = .ok (.goto (-45), 3) := by decide +kernel
theorem dX8_addRow_51 : decode cX8_addRow 51 = .ok (.return_, 1) := by decide +kernel
theorem dX8_takeWhole_0 : decode cX8_takeWhole 0 = .ok (.iconst 1, 1) := by decide +kernel
theorem dX8_takeWhole_1 : decode cX8_takeWhole 1 = .ok (.istore_n 2, 1) := by decide +kernel
theorem dX8_takeWhole_2 : decode cX8_takeWhole 2 = .ok (.iload_n 2, 1) := by decide +kernel
theorem dX8_takeWhole_3 : decode cX8_takeWhole 3 = .ok (.bipush 12, 2) := by decide +kernel
theorem dX8_takeWhole_5 : decode cX8_takeWhole 5 = .ok (.if_icmp .gt 19, 3) := by decide +kernel
theorem dX8_takeWhole_8 : decode cX8_takeWhole 8 = .ok (.aload_n 0, 1) := by decide +kernel
theorem dX8_takeWhole_9 : decode cX8_takeWhole 9 = .ok (.iload_n 2, 1) := by decide +kernel
theorem dX8_takeWhole_10 : decode cX8_takeWhole 10 = .ok (.aload_n 0, 1) := by decide +kernel
theorem dX8_takeWhole_11 : decode cX8_takeWhole 11 = .ok (.iload_n 2, 1) := by decide +kernel
theorem dX8_takeWhole_12 : decode cX8_takeWhole 12 = .ok (.iaload, 1) := by decide +kernel
theorem dX8_takeWhole_13 : decode cX8_takeWhole 13 = .ok (.iload_n 1, 1) := by decide +kernel
theorem dX8_takeWhole_14 : decode cX8_takeWhole 14 = .ok (.invokestatic 53, 3) := by decide +kernel
theorem dX8_takeWhole_17 : decode cX8_takeWhole 17 = .ok (.iastore, 1) := by decide +kernel
theorem dX8_takeWhole_18 : decode cX8_takeWhole 18 = .ok (.iinc 2 1, 3) := by decide +kernel
theorem dX8_takeWhole_21 : decode cX8_takeWhole 21 = .ok (.goto (-19), 3) := by decide +kernel
theorem dX8_takeWhole_24 : decode cX8_takeWhole 24 = .ok (.return_, 1) := by decide +kernel
theorem dX9_init_0 : decode cX9_init 0 = .ok (.aload_n 0, 1) := by decide +kernel
theorem dX9_init_1 : decode cX9_init 1 = .ok (.invokespecial 1, 3) := by decide +kernel
theorem dX9_init_4 : decode cX9_init 4 = .ok (.aload_n 0, 1) := by decide +kernel
theorem dX9_init_5 : decode cX9_init 5 = .ok (.new 7, 3) := by decide +kernel
theorem dX9_init_8 : decode cX9_init 8 = .ok (.dup, 1) := by decide +kernel
theorem dX9_init_9 : decode cX9_init 9 = .ok (.invokespecial 9, 3) := by decide +kernel
theorem dX9_init_12 : decode cX9_init 12 = .ok (.putfield 10, 3) := by decide +kernel
theorem dX9_init_15 : decode cX9_init 15 = .ok (.aload_n 0, 1) := by decide +kernel
theorem dX9_init_16 : decode cX9_init 16 = .ok (.new 16, 3) := by decide +kernel
theorem dX9_init_19 : decode cX9_init 19 = .ok (.dup, 1) := by decide +kernel
theorem dX9_init_20 : decode cX9_init 20 = .ok (.invokespecial 18, 3) := by decide +kernel
theorem dX9_init_23 : decode cX9_init 23 = .ok (.putfield 19, 3) := by decide +kernel
theorem dX9_init_26 : decode cX9_init 26 = .ok (.aload_n 0, 1) := by decide +kernel
theorem dX9_init_27 : decode cX9_init 27 = .ok (.new 23, 3) := by decide +kernel
theorem dX9_init_30 : decode cX9_init 30 = .ok (.dup, 1) := by decide +kernel
theorem dX9_init_31 : decode cX9_init 31 = .ok (.invokespecial 25, 3) := by decide +kernel
theorem dX9_init_34 : decode cX9_init 34 = .ok (.putfield 26, 3) := by decide +kernel
theorem dX9_init_37 : decode cX9_init 37 = .ok (.aload_n 0, 1) := by decide +kernel
theorem dX9_init_38 : decode cX9_init 38 = .ok (.new 23, 3) := by decide +kernel
theorem dX9_init_41 : decode cX9_init 41 = .ok (.dup, 1) := by decide +kernel
theorem dX9_init_42 : decode cX9_init 42 = .ok (.invokespecial 25, 3) := by decide +kernel
theorem dX9_init_45 : decode cX9_init 45 = .ok (.putfield 30, 3) := by decide +kernel
theorem dX9_init_48 : decode cX9_init 48 = .ok (.iconst 0, 1) := by decide +kernel
theorem dX9_init_49 : decode cX9_init 49 = .ok (.istore_n 1, 1) := by decide +kernel
theorem dX9_init_50 : decode cX9_init 50 = .ok (.iload_n 1, 1) := by decide +kernel
theorem dX9_init_51 : decode cX9_init 51 = .ok (.ldc 33, 2) := by decide +kernel
theorem dX9_init_53 : decode cX9_init 53 = .ok (.invokevirtual 35, 3) := by decide +kernel
theorem dX9_init_56 : decode cX9_init 56 = .ok (.if_icmp .ge 23, 3) := by decide +kernel
theorem dX9_init_59 : decode cX9_init 59 = .ok (.aload_n 0, 1) := by decide +kernel
theorem dX9_init_60 : decode cX9_init 60 = .ok (.getfield 10, 3) := by decide +kernel
theorem dX9_init_63 : decode cX9_init 63 = .ok (.ldc 33, 2) := by decide +kernel
theorem dX9_init_65 : decode cX9_init 65 = .ok (.iload_n 1, 1) := by decide +kernel
theorem dX9_init_66 : decode cX9_init 66 = .ok (.invokevirtual 41, 3) := by decide +kernel
theorem dX9_init_69 : decode cX9_init 69 = .ok (.invokevirtual 45, 3) := by decide +kernel
theorem dX9_init_72 : decode cX9_init 72 = .ok (.pop, 1) := by decide +kernel
theorem dX9_init_73 : decode cX9_init 73 = .ok (.iinc 1 1, 3) := by decide +kernel
theorem dX9_init_76 : decode cX9_init 76 = .ok (.goto (-26), 3) := by decide +kernel
theorem dX9_init_79 : decode cX9_init 79 = .ok (.aload_n 0, 1) := by decide +kernel
theorem dX9_init_80 : decode cX9_init 80 = .ok (.getfield 10, 3) := by decide +kernel
theorem dX9_init_83 : decode cX9_init 83 = .ok (.aload_n 0, 1) := by decide +kernel
theorem dX9_init_84 : decode cX9_init 84 = .ok (.getfield 26, 3) := by decide +kernel
theorem dX9_init_87 : decode cX9_init 87 = .ok (.invokevirtual 49, 3) := by decide +kernel
theorem dX9_init_90 : decode cX9_init 90 = .ok (.pop, 1) := by decide +kernel
theorem dX9_init_91 : decode cX9_init 91 = .ok (.aload_n 0, 1) := by decide +kernel
theorem dX9_init_92 : decode cX9_init 92 = .ok (.getfield 10, 3) := by decide +kernel
theorem dX9_init_95 : decode cX9_init 95 = .ok (.invokevirtual 53, 3) := by decide +kernel
theorem dX9_init_98 : decode cX9_init 98 = .ok (.return_, 1) := by decide +kernel
theorem dX9_write_0 : decode cX9_write 0 = .ok (.iload_n 1, 1) := by decide +kernel
theorem dX9_write_1 : decode cX9_write 1 = .ok (.bipush 32, 2) := by decide +kernel
theorem dX9_write_3 : decode cX9_write 3 = .ok (.if_icmp .lt 9, 3) := by decide +kernel
theorem dX9_write_6 : decode cX9_write 6 = .ok (.iload_n 1, 1) := by decide +kernel
theorem dX9_write_7 : decode cX9_write 7 = .ok (.bipush 126, 2) := by decide +kernel
theorem dX9_write_9 : decode cX9_write 9 = .ok (.if_icmp .le 5, 3) := by decide +kernel
theorem dX9_write_12 : decode cX9_write 12 = .ok (.iconst (-1), 1) := by decide +kernel
theorem dX9_write_13 : decode cX9_write 13 = .ok (.ireturn, 1) := by decide +kernel
theorem dX9_write_14 : decode cX9_write 14 = .ok (.aload_n 0, 1) := by decide +kernel
theorem dX9_write_15 : decode cX9_write 15 = .ok (.getfield 10, 3) := by decide +kernel
theorem dX9_write_18 : decode cX9_write 18 = .ok (.iload_n 1, 1) := by decide +kernel
theorem dX9_write_19 : decode cX9_write 19 = .ok (.i2c, 1) := by decide +kernel
theorem dX9_write_20 : decode cX9_write 20 = .ok (.invokevirtual 45, 3) := by decide +kernel
theorem dX9_write_23 : decode cX9_write 23 = .ok (.ifCond .eq 13, 3) := by decide +kernel
theorem dX9_write_26 : decode cX9_write 26 = .ok (.aload_n 0, 1) := by decide +kernel
theorem dX9_write_27 : decode cX9_write 27 = .ok (.getfield 10, 3) := by decide +kernel
theorem dX9_write_30 : decode cX9_write 30 = .ok (.getfield 56, 3) := by decide +kernel
theorem dX9_write_33 : decode cX9_write 33 = .ok (.goto 5, 3) := by decide +kernel
theorem dX9_write_36 : decode cX9_write 36 = .ok (.bipush (-3), 2) := by decide +kernel
theorem dX9_write_38 : decode cX9_write 38 = .ok (.ireturn, 1) := by decide +kernel
theorem dX9_wipe_0 : decode cX9_wipe 0 = .ok (.aload_n 0, 1) := by decide +kernel
theorem dX9_wipe_1 : decode cX9_wipe 1 = .ok (.getfield 10, 3) := by decide +kernel
theorem dX9_wipe_4 : decode cX9_wipe 4 = .ok (.getfield 56, 3) := by decide +kernel
theorem dX9_wipe_7 : decode cX9_wipe 7 = .ok (.istore_n 1, 1) := by decide +kernel
theorem dX9_wipe_8 : decode cX9_wipe 8 = .ok (.aload_n 0, 1) := by decide +kernel
theorem dX9_wipe_9 : decode cX9_wipe 9 = .ok (.getfield 10, 3) := by decide +kernel
theorem dX9_wipe_12 : decode cX9_wipe 12 = .ok (.invokevirtual 53, 3) := by decide +kernel
theorem dX9_wipe_15 : decode cX9_wipe 15 = .ok (.iload_n 1, 1) := by decide +kernel
theorem dX9_wipe_16 : decode cX9_wipe 16 = .ok (.ireturn, 1) := by decide +kernel
theorem dX9_fault_0 : decode cX9_fault 0 = .ok (.aload_n 0, 1) := by decide +kernel
theorem dX9_fault_1 : decode cX9_fault 1 = .ok (.getfield 10, 3) := by decide +kernel
theorem dX9_fault_4 : decode cX9_fault 4 = .ok (.aload_n 0, 1) := by decide +kernel
theorem dX9_fault_5 : decode cX9_fault 5 = .ok (.getfield 30, 3) := by decide +kernel
theorem dX9_fault_8 : decode cX9_fault 8 = .ok (.invokevirtual 49, 3) := by decide +kernel
theorem dX9_fault_11 : decode cX9_fault 11 = .ok (.ireturn, 1) := by decide +kernel
theorem dX9_lay_0 : decode cX9_lay 0 = .ok (.aload_n 0, 1) := by decide +kernel
theorem dX9_lay_1 : decode cX9_lay 1 = .ok (.getfield 10, 3) := by decide +kernel
theorem dX9_lay_4 : decode cX9_lay 4 = .ok (.aload_n 0, 1) := by decide +kernel
theorem dX9_lay_5 : decode cX9_lay 5 = .ok (.getfield 30, 3) := by decide +kernel
theorem dX9_lay_8 : decode cX9_lay 8 = .ok (.invokevirtual 49, 3) := by decide +kernel
theorem dX9_lay_11 : decode cX9_lay 11 = .ok (.bipush (-4), 2) := by decide +kernel
theorem dX9_lay_13 : decode cX9_lay 13 = .ok (.if_icmp .eq 6, 3) := by decide +kernel
theorem dX9_lay_16 : decode cX9_lay 16 = .ok (.bipush (-2), 2) := by decide +kernel
theorem dX9_lay_18 : decode cX9_lay 18 = .ok (.ireturn, 1) := by decide +kernel
theorem dX9_lay_19 : decode cX9_lay 19 = .ok (.aload_n 0, 1) := by decide +kernel
theorem dX9_lay_20 : decode cX9_lay 20 = .ok (.getfield 10, 3) := by decide +kernel
theorem dX9_lay_23 : decode cX9_lay 23 = .ok (.getfield 56, 3) := by decide +kernel
theorem dX9_lay_26 : decode cX9_lay 26 = .ok (.ifCond .ne 13, 3) := by decide +kernel
theorem dX9_lay_29 : decode cX9_lay 29 = .ok (.aload_n 0, 1) := by decide +kernel
theorem dX9_lay_30 : decode cX9_lay 30 = .ok (.getfield 10, 3) := by decide +kernel
theorem dX9_lay_33 : decode cX9_lay 33 = .ok (.invokevirtual 59, 3) := by decide +kernel
theorem dX9_lay_36 : decode cX9_lay 36 = .ok (.bipush (-2), 2) := by decide +kernel
theorem dX9_lay_38 : decode cX9_lay 38 = .ok (.ireturn, 1) := by decide +kernel
theorem dX9_lay_39 : decode cX9_lay 39 = .ok (.aload_n 0, 1) := by decide +kernel
theorem dX9_lay_40 : decode cX9_lay 40 = .ok (.getfield 26, 3) := by decide +kernel
theorem dX9_lay_43 : decode cX9_lay 43 = .ok (.astore_n 1, 1) := by decide +kernel
theorem dX9_lay_44 : decode cX9_lay 44 = .ok (.aload_n 0, 1) := by decide +kernel
theorem dX9_lay_45 : decode cX9_lay 45 = .ok (.aload_n 0, 1) := by decide +kernel
theorem dX9_lay_46 : decode cX9_lay 46 = .ok (.getfield 30, 3) := by decide +kernel
theorem dX9_lay_49 : decode cX9_lay 49 = .ok (.putfield 26, 3) := by decide +kernel
theorem dX9_lay_52 : decode cX9_lay 52 = .ok (.aload_n 0, 1) := by decide +kernel
theorem dX9_lay_53 : decode cX9_lay 53 = .ok (.aload_n 1, 1) := by decide +kernel
theorem dX9_lay_54 : decode cX9_lay 54 = .ok (.putfield 30, 3) := by decide +kernel
theorem dX9_lay_57 : decode cX9_lay 57 = .ok (.aload_n 0, 1) := by decide +kernel
theorem dX9_lay_58 : decode cX9_lay 58 = .ok (.getfield 19, 3) := by decide +kernel
theorem dX9_lay_61 : decode cX9_lay 61 = .ok (.invokevirtual 62, 3) := by decide +kernel
theorem dX9_lay_64 : decode cX9_lay 64 = .ok (.aload_n 0, 1) := by decide +kernel
theorem dX9_lay_65 : decode cX9_lay 65 = .ok (.getfield 26, 3) := by decide +kernel
theorem dX9_lay_68 : decode cX9_lay 68 = .ok (.invokevirtual 65, 3) := by decide +kernel
theorem dX9_lay_71 : decode cX9_lay 71 = .ok (.ireturn, 1) := by decide +kernel
theorem dX9_cause_0 : decode cX9_cause 0 = .ok (.iload_n 1, 1) := by decide +kernel
theorem dX9_cause_1 : decode cX9_cause 1 = .ok (.ifCond .ge 5, 3) := by decide +kernel
theorem dX9_cause_4 : decode cX9_cause 4 = .ok (.iconst (-1), 1) := by decide +kernel
theorem dX9_cause_5 : decode cX9_cause 5 = .ok (.ireturn, 1) := by decide +kernel
theorem dX9_cause_6 : decode cX9_cause 6 = .ok (.iload_n 1, 1) := by decide +kernel
theorem dX9_cause_7 : decode cX9_cause 7 = .ok (.aload_n 0, 1) := by decide +kernel
theorem dX9_cause_8 : decode cX9_cause 8 = .ok (.getfield 10, 3) := by decide +kernel
theorem dX9_cause_11 : decode cX9_cause 11 = .ok (.getfield 68, 3) := by decide +kernel
theorem dX9_cause_14 : decode cX9_cause 14 = .ok (.if_icmp .ge 15, 3) := by decide +kernel
theorem dX9_cause_17 : decode cX9_cause 17 = .ok (.aload_n 0, 1) := by decide +kernel
theorem dX9_cause_18 : decode cX9_cause 18 = .ok (.getfield 10, 3) := by decide +kernel
theorem dX9_cause_21 : decode cX9_cause 21 = .ok (.getfield 71, 3) := by decide +kernel
theorem dX9_cause_24 : decode cX9_cause 24 = .ok (.iload_n 1, 1) := by decide +kernel
theorem dX9_cause_25 : decode cX9_cause 25 = .ok (.iaload, 1) := by decide +kernel
theorem dX9_cause_26 : decode cX9_cause 26 = .ok (.goto 5, 3) := by decide +kernel
theorem dX9_cause_29 : decode cX9_cause 29 = .ok (.bipush (-4), 2) := by decide +kernel
theorem dX9_cause_31 : decode cX9_cause 31 = .ok (.ireturn, 1) := by decide +kernel
theorem dX9_curve_0 : decode cX9_curve 0 = .ok (.iload_n 1, 1) := by decide +kernel
theorem dX9_curve_1 : decode cX9_curve 1 = .ok (.invokestatic 75, 3) := by decide +kernel
theorem dX9_curve_4 : decode cX9_curve 4 = .ok (.ifCond .ne 5, 3) := by decide +kernel
theorem dX9_curve_7 : decode cX9_curve 7 = .ok (.iconst (-1), 1) := by decide +kernel
theorem dX9_curve_8 : decode cX9_curve 8 = .ok (.ireturn, 1) := by decide +kernel
theorem dX9_curve_9 : decode cX9_curve 9 = .ok (.aload_n 0, 1) := by decide +kernel
theorem dX9_curve_10 : decode cX9_curve 10 = .ok (.getfield 26, 3) := by decide +kernel
theorem dX9_curve_13 : decode cX9_curve 13 = .ok (.getfield 79, 3) := by decide +kernel
theorem dX9_curve_16 : decode cX9_curve 16 = .ok (.istore_n 2, 1) := by decide +kernel
theorem dX9_curve_17 : decode cX9_curve 17 = .ok (.iload_n 1, 1) := by decide +kernel
theorem dX9_curve_18 : decode cX9_curve 18 = .ok (.iload_n 2, 1) := by decide +kernel
theorem dX9_curve_19 : decode cX9_curve 19 = .ok (.if_icmp .ne 6, 3) := by decide +kernel
theorem dX9_curve_22 : decode cX9_curve 22 = .ok (.bipush (-2), 2) := by decide +kernel
theorem dX9_curve_24 : decode cX9_curve 24 = .ok (.ireturn, 1) := by decide +kernel
theorem dX9_curve_25 : decode cX9_curve 25 = .ok (.aload_n 0, 1) := by decide +kernel
theorem dX9_curve_26 : decode cX9_curve 26 = .ok (.getfield 26, 3) := by decide +kernel
theorem dX9_curve_29 : decode cX9_curve 29 = .ok (.iload_n 1, 1) := by decide +kernel
theorem dX9_curve_30 : decode cX9_curve 30 = .ok (.putfield 79, 3) := by decide +kernel
theorem dX9_curve_33 : decode cX9_curve 33 = .ok (.aload_n 0, 1) := by decide +kernel
theorem dX9_curve_34 : decode cX9_curve 34 = .ok (.getfield 19, 3) := by decide +kernel
theorem dX9_curve_37 : decode cX9_curve 37 = .ok (.invokevirtual 62, 3) := by decide +kernel
theorem dX9_curve_40 : decode cX9_curve 40 = .ok (.iload_n 2, 1) := by decide +kernel
theorem dX9_curve_41 : decode cX9_curve 41 = .ok (.ireturn, 1) := by decide +kernel
theorem dX9_levels_0 : decode cX9_levels 0 = .ok (.iload_n 1, 1) := by decide +kernel
theorem dX9_levels_1 : decode cX9_levels 1 = .ok (.ifCond .lt 19, 3) := by decide +kernel
theorem dX9_levels_4 : decode cX9_levels 4 = .ok (.iload_n 1, 1) := by decide +kernel
theorem dX9_levels_5 : decode cX9_levels 5 = .ok (.iload_n 2, 1) := by decide +kernel
theorem dX9_levels_6 : decode cX9_levels 6 = .ok (.if_icmp .gt 14, 3) := by decide +kernel
theorem dX9_levels_9 : decode cX9_levels 9 = .ok (.iload_n 2, 1) := by decide +kernel
theorem dX9_levels_10 : decode cX9_levels 10 = .ok (.aload_n 0, 1) := by decide +kernel
theorem dX9_levels_11 : decode cX9_levels 11 = .ok (.getfield 26, 3) := by decide +kernel
theorem dX9_levels_14 : decode cX9_levels 14 = .ok (.getfield 82, 3) := by decide +kernel
theorem dX9_levels_17 : decode cX9_levels 17 = .ok (.if_icmp .le 5, 3) := by decide +kernel
theorem dX9_levels_20 : decode cX9_levels 20 = .ok (.iconst (-1), 1) := by decide +kernel
theorem dX9_levels_21 : decode cX9_levels 21 = .ok (.ireturn, 1) := by decide +kernel
theorem dX9_levels_22 : decode cX9_levels 22 = .ok (.iload_n 1, 1) := by decide +kernel
theorem dX9_levels_23 : decode cX9_levels 23 = .ok (.aload_n 0, 1) := by decide +kernel
theorem dX9_levels_24 : decode cX9_levels 24 = .ok (.getfield 26, 3) := by decide +kernel
theorem dX9_levels_27 : decode cX9_levels 27 = .ok (.getfield 85, 3) := by decide +kernel
theorem dX9_levels_30 : decode cX9_levels 30 = .ok (.if_icmp .ne 17, 3) := by decide +kernel
theorem dX9_levels_33 : decode cX9_levels 33 = .ok (.iload_n 2, 1) := by decide +kernel
theorem dX9_levels_34 : decode cX9_levels 34 = .ok (.aload_n 0, 1) := by decide +kernel
theorem dX9_levels_35 : decode cX9_levels 35 = .ok (.getfield 26, 3) := by decide +kernel
theorem dX9_levels_38 : decode cX9_levels 38 = .ok (.getfield 88, 3) := by decide +kernel
theorem dX9_levels_41 : decode cX9_levels 41 = .ok (.if_icmp .ne 6, 3) := by decide +kernel
theorem dX9_levels_44 : decode cX9_levels 44 = .ok (.bipush (-2), 2) := by decide +kernel
theorem dX9_levels_46 : decode cX9_levels 46 = .ok (.ireturn, 1) := by decide +kernel
theorem dX9_levels_47 : decode cX9_levels 47 = .ok (.aload_n 0, 1) := by decide +kernel
theorem dX9_levels_48 : decode cX9_levels 48 = .ok (.getfield 26, 3) := by decide +kernel
theorem dX9_levels_51 : decode cX9_levels 51 = .ok (.getfield 85, 3) := by decide +kernel
theorem dX9_levels_54 : decode cX9_levels 54 = .ok (.bipush 10, 2) := by decide +kernel
theorem dX9_levels_56 : decode cX9_levels 56 = .ok (.aload_n 0, 1) := by decide +kernel
theorem dX9_levels_57 : decode cX9_levels 57 = .ok (.getfield 26, 3) := by decide +kernel
theorem dX9_levels_60 : decode cX9_levels 60 = .ok (.getfield 88, 3) := by decide +kernel
theorem dX9_levels_63 : decode cX9_levels 63 = .ok (.imul, 1) := by decide +kernel
theorem dX9_levels_64 : decode cX9_levels 64 = .ok (.iadd, 1) := by decide +kernel
theorem dX9_levels_65 : decode cX9_levels 65 = .ok (.istore_n 3, 1) := by decide +kernel
theorem dX9_levels_66 : decode cX9_levels 66 = .ok (.aload_n 0, 1) := by decide +kernel
theorem dX9_levels_67 : decode cX9_levels 67 = .ok (.getfield 26, 3) := by decide +kernel
theorem dX9_levels_70 : decode cX9_levels 70 = .ok (.iload_n 1, 1) := by decide +kernel
theorem dX9_levels_71 : decode cX9_levels 71 = .ok (.putfield 85, 3) := by decide +kernel
theorem dX9_levels_74 : decode cX9_levels 74 = .ok (.aload_n 0, 1) := by decide +kernel
theorem dX9_levels_75 : decode cX9_levels 75 = .ok (.getfield 26, 3) := by decide +kernel
theorem dX9_levels_78 : decode cX9_levels 78 = .ok (.iload_n 2, 1) := by decide +kernel
theorem dX9_levels_79 : decode cX9_levels 79 = .ok (.putfield 88, 3) := by decide +kernel
theorem dX9_levels_82 : decode cX9_levels 82 = .ok (.aload_n 0, 1) := by decide +kernel
theorem dX9_levels_83 : decode cX9_levels 83 = .ok (.getfield 19, 3) := by decide +kernel
theorem dX9_levels_86 : decode cX9_levels 86 = .ok (.invokevirtual 62, 3) := by decide +kernel
theorem dX9_levels_89 : decode cX9_levels 89 = .ok (.iload_n 3, 1) := by decide +kernel
theorem dX9_levels_90 : decode cX9_levels 90 = .ok (.ireturn, 1) := by decide +kernel
theorem dX9_box_0 : decode cX9_box 0 = .ok (.iload_n 1, 1) := by decide +kernel
theorem dX9_box_1 : decode cX9_box 1 = .ok (.invokestatic 75, 3) := by decide +kernel
theorem dX9_box_4 : decode cX9_box 4 = .ok (.ifCond .eq 41, 3) := by decide +kernel
theorem dX9_box_7 : decode cX9_box 7 = .ok (.aload_n 0, 1) := by decide +kernel
theorem dX9_box_8 : decode cX9_box 8 = .ok (.getfield 26, 3) := by decide +kernel
theorem dX9_box_11 : decode cX9_box 11 = .ok (.iload_n 2, 1) := by decide +kernel
theorem dX9_box_12 : decode cX9_box 12 = .ok (.iload_n 3, 1) := by decide +kernel
theorem dX9_box_13 : decode cX9_box 13 = .ok (.invokevirtual 91, 3) := by decide +kernel
theorem dX9_box_16 : decode cX9_box 16 = .ok (.ifCond .eq 29, 3) := by decide +kernel
theorem dX9_box_19 : decode cX9_box 19 = .ok (.aload_n 0, 1) := by decide +kernel
theorem dX9_box_20 : decode cX9_box 20 = .ok (.getfield 26, 3) := by decide +kernel
theorem dX9_box_23 : decode cX9_box 23 = .ok (.iload 4, 2) := by decide +kernel
theorem dX9_box_25 : decode cX9_box 25 = .ok (.iload 5, 2) := by decide +kernel
theorem dX9_box_27 : decode cX9_box 27 = .ok (.invokevirtual 91, 3) := by decide +kernel
theorem dX9_box_30 : decode cX9_box 30 = .ok (.ifCond .eq 15, 3) := by decide +kernel
theorem dX9_box_33 : decode cX9_box 33 = .ok (.iload 4, 2) := by decide +kernel
theorem dX9_box_35 : decode cX9_box 35 = .ok (.iload_n 2, 1) := by decide +kernel
theorem dX9_box_36 : decode cX9_box 36 = .ok (.if_icmp .lt 9, 3) := by decide +kernel
theorem dX9_box_39 : decode cX9_box 39 = .ok (.iload 5, 2) := by decide +kernel
theorem dX9_box_41 : decode cX9_box 41 = .ok (.iload_n 3, 1) := by decide +kernel
theorem dX9_box_42 : decode cX9_box 42 = .ok (.if_icmp .ge 5, 3) := by decide +kernel
theorem dX9_box_45 : decode cX9_box 45 = .ok (.iconst (-1), 1) := by decide +kernel
theorem dX9_box_46 : decode cX9_box 46 = .ok (.ireturn, 1) := by decide +kernel
theorem dX9_box_47 : decode cX9_box 47 = .ok (.aload_n 0, 1) := by decide +kernel
theorem dX9_box_48 : decode cX9_box 48 = .ok (.getfield 26, 3) := by decide +kernel
theorem dX9_box_51 : decode cX9_box 51 = .ok (.iload_n 1, 1) := by decide +kernel
theorem dX9_box_52 : decode cX9_box 52 = .ok (.iconst 1, 1) := by decide +kernel
theorem dX9_box_53 : decode cX9_box 53 = .ok (.if_icmp .ne 7, 3) := by decide +kernel
theorem dX9_box_56 : decode cX9_box 56 = .ok (.iconst 1, 1) := by decide +kernel
theorem dX9_box_57 : decode cX9_box 57 = .ok (.goto 4, 3) := by decide +kernel
theorem dX9_box_60 : decode cX9_box 60 = .ok (.iconst 0, 1) := by decide +kernel
theorem dX9_box_61 : decode cX9_box 61 = .ok (.iload_n 2, 1) := by decide +kernel
theorem dX9_box_62 : decode cX9_box 62 = .ok (.iload_n 3, 1) := by decide +kernel
theorem dX9_box_63 : decode cX9_box 63 = .ok (.iload 4, 2) := by decide +kernel
theorem dX9_box_65 : decode cX9_box 65 = .ok (.iload 5, 2) := by decide +kernel
theorem dX9_box_67 : decode cX9_box 67 = .ok (.invokevirtual 95, 3) := by decide +kernel
theorem dX9_box_70 : decode cX9_box 70 = .ok (.ifCond .ne 6, 3) := by decide +kernel
theorem dX9_box_73 : decode cX9_box 73 = .ok (.bipush (-3), 2) := by decide +kernel
theorem dX9_box_75 : decode cX9_box 75 = .ok (.ireturn, 1) := by decide +kernel
theorem dX9_box_76 : decode cX9_box 76 = .ok (.aload_n 0, 1) := by decide +kernel
theorem dX9_box_77 : decode cX9_box 77 = .ok (.getfield 19, 3) := by decide +kernel
theorem dX9_box_80 : decode cX9_box 80 = .ok (.invokevirtual 62, 3) := by decide +kernel
theorem dX9_box_83 : decode cX9_box 83 = .ok (.aload_n 0, 1) := by decide +kernel
theorem dX9_box_84 : decode cX9_box 84 = .ok (.getfield 26, 3) := by decide +kernel
theorem dX9_box_87 : decode cX9_box 87 = .ok (.getfield 99, 3) := by decide +kernel
theorem dX9_box_90 : decode cX9_box 90 = .ok (.ireturn, 1) := by decide +kernel
theorem dX9_disc_0 : decode cX9_disc 0 = .ok (.iload_n 1, 1) := by decide +kernel
theorem dX9_disc_1 : decode cX9_disc 1 = .ok (.invokestatic 75, 3) := by decide +kernel
theorem dX9_disc_4 : decode cX9_disc 4 = .ok (.ifCond .eq 27, 3) := by decide +kernel
theorem dX9_disc_7 : decode cX9_disc 7 = .ok (.aload_n 0, 1) := by decide +kernel
theorem dX9_disc_8 : decode cX9_disc 8 = .ok (.getfield 26, 3) := by decide +kernel
theorem dX9_disc_11 : decode cX9_disc 11 = .ok (.iload_n 2, 1) := by decide +kernel
theorem dX9_disc_12 : decode cX9_disc 12 = .ok (.iload_n 3, 1) := by decide +kernel
theorem dX9_disc_13 : decode cX9_disc 13 = .ok (.invokevirtual 91, 3) := by decide +kernel
theorem dX9_disc_16 : decode cX9_disc 16 = .ok (.ifCond .eq 15, 3) := by decide +kernel
theorem dX9_disc_19 : decode cX9_disc 19 = .ok (.iload 4, 2) := by decide +kernel
theorem dX9_disc_21 : decode cX9_disc 21 = .ok (.ifCond .lt 10, 3) := by decide +kernel
theorem dX9_disc_24 : decode cX9_disc 24 = .ok (.iload 4, 2) := by decide +kernel
theorem dX9_disc_26 : decode cX9_disc 26 = .ok (.bipush 63, 2) := by decide +kernel
theorem dX9_disc_28 : decode cX9_disc 28 = .ok (.if_icmp .le 5, 3) := by decide +kernel
theorem dX9_disc_31 : decode cX9_disc 31 = .ok (.iconst (-1), 1) := by decide +kernel
theorem dX9_disc_32 : decode cX9_disc 32 = .ok (.ireturn, 1) := by decide +kernel
theorem dX9_disc_33 : decode cX9_disc 33 = .ok (.aload_n 0, 1) := by decide +kernel
theorem dX9_disc_34 : decode cX9_disc 34 = .ok (.getfield 26, 3) := by decide +kernel
theorem dX9_disc_37 : decode cX9_disc 37 = .ok (.iload_n 1, 1) := by decide +kernel
theorem dX9_disc_38 : decode cX9_disc 38 = .ok (.iconst 1, 1) := by decide +kernel
theorem dX9_disc_39 : decode cX9_disc 39 = .ok (.if_icmp .ne 7, 3) := by decide +kernel
theorem dX9_disc_42 : decode cX9_disc 42 = .ok (.iconst 1, 1) := by decide +kernel
theorem dX9_disc_43 : decode cX9_disc 43 = .ok (.goto 4, 3) := by decide +kernel
theorem dX9_disc_46 : decode cX9_disc 46 = .ok (.iconst 0, 1) := by decide +kernel
theorem dX9_disc_47 : decode cX9_disc 47 = .ok (.iload_n 2, 1) := by decide +kernel
theorem dX9_disc_48 : decode cX9_disc 48 = .ok (.iload_n 3, 1) := by decide +kernel
theorem dX9_disc_49 : decode cX9_disc 49 = .ok (.iload 4, 2) := by decide +kernel
theorem dX9_disc_51 : decode cX9_disc 51 = .ok (.invokevirtual 102, 3) := by decide +kernel
theorem dX9_disc_54 : decode cX9_disc 54 = .ok (.ifCond .ne 6, 3) := by decide +kernel
theorem dX9_disc_57 : decode cX9_disc 57 = .ok (.bipush (-3), 2) := by decide +kernel
theorem dX9_disc_59 : decode cX9_disc 59 = .ok (.ireturn, 1) := by decide +kernel
theorem dX9_disc_60 : decode cX9_disc 60 = .ok (.aload_n 0, 1) := by decide +kernel
theorem dX9_disc_61 : decode cX9_disc 61 = .ok (.getfield 19, 3) := by decide +kernel
theorem dX9_disc_64 : decode cX9_disc 64 = .ok (.invokevirtual 62, 3) := by decide +kernel
theorem dX9_disc_67 : decode cX9_disc 67 = .ok (.aload_n 0, 1) := by decide +kernel
theorem dX9_disc_68 : decode cX9_disc 68 = .ok (.getfield 26, 3) := by decide +kernel
theorem dX9_disc_71 : decode cX9_disc 71 = .ok (.getfield 99, 3) := by decide +kernel
theorem dX9_disc_74 : decode cX9_disc 74 = .ok (.ireturn, 1) := by decide +kernel
theorem dX9_drop_0 : decode cX9_drop 0 = .ok (.aload_n 0, 1) := by decide +kernel
theorem dX9_drop_1 : decode cX9_drop 1 = .ok (.getfield 26, 3) := by decide +kernel
theorem dX9_drop_4 : decode cX9_drop 4 = .ok (.iload_n 1, 1) := by decide +kernel
theorem dX9_drop_5 : decode cX9_drop 5 = .ok (.invokevirtual 106, 3) := by decide +kernel
theorem dX9_drop_8 : decode cX9_drop 8 = .ok (.ifCond .ne 5, 3) := by decide +kernel
theorem dX9_drop_11 : decode cX9_drop 11 = .ok (.iconst (-1), 1) := by decide +kernel
theorem dX9_drop_12 : decode cX9_drop 12 = .ok (.ireturn, 1) := by decide +kernel
theorem dX9_drop_13 : decode cX9_drop 13 = .ok (.aload_n 0, 1) := by decide +kernel
theorem dX9_drop_14 : decode cX9_drop 14 = .ok (.getfield 19, 3) := by decide +kernel
theorem dX9_drop_17 : decode cX9_drop 17 = .ok (.invokevirtual 62, 3) := by decide +kernel
theorem dX9_drop_20 : decode cX9_drop 20 = .ok (.aload_n 0, 1) := by decide +kernel
theorem dX9_drop_21 : decode cX9_drop 21 = .ok (.getfield 26, 3) := by decide +kernel
theorem dX9_drop_24 : decode cX9_drop 24 = .ok (.getfield 99, 3) := by decide +kernel
theorem dX9_drop_27 : decode cX9_drop 27 = .ok (.ireturn, 1) := by decide +kernel
theorem dX9_point_0 : decode cX9_point 0 = .ok (.aload_n 0, 1) := by decide +kernel
theorem dX9_point_1 : decode cX9_point 1 = .ok (.getfield 26, 3) := by decide +kernel
theorem dX9_point_4 : decode cX9_point 4 = .ok (.iload_n 1, 1) := by decide +kernel
theorem dX9_point_5 : decode cX9_point 5 = .ok (.iload_n 2, 1) := by decide +kernel
theorem dX9_point_6 : decode cX9_point 6 = .ok (.invokevirtual 91, 3) := by decide +kernel
theorem dX9_point_9 : decode cX9_point 9 = .ok (.ifCond .ne 5, 3) := by decide +kernel
theorem dX9_point_12 : decode cX9_point 12 = .ok (.iconst (-1), 1) := by decide +kernel
theorem dX9_point_13 : decode cX9_point 13 = .ok (.ireturn, 1) := by decide +kernel
theorem dX9_point_14 : decode cX9_point 14 = .ok (.aload_n 0, 1) := by decide +kernel
theorem dX9_point_15 : decode cX9_point 15 = .ok (.getfield 26, 3) := by decide +kernel
theorem dX9_point_18 : decode cX9_point 18 = .ok (.getfield 109, 3) := by decide +kernel
theorem dX9_point_21 : decode cX9_point 21 = .ok (.iload_n 1, 1) := by decide +kernel
theorem dX9_point_22 : decode cX9_point 22 = .ok (.iload_n 2, 1) := by decide +kernel
theorem dX9_point_23 : decode cX9_point 23 = .ok (.invokevirtual 113, 3) := by decide +kernel
theorem dX9_point_26 : decode cX9_point 26 = .ok (.ifCond .eq 18, 3) := by decide +kernel
theorem dX9_point_29 : decode cX9_point 29 = .ok (.aload_n 0, 1) := by decide +kernel
theorem dX9_point_30 : decode cX9_point 30 = .ok (.getfield 26, 3) := by decide +kernel
theorem dX9_point_33 : decode cX9_point 33 = .ok (.getfield 109, 3) := by decide +kernel
theorem dX9_point_36 : decode cX9_point 36 = .ok (.getfield 118, 3) := by decide +kernel
theorem dX9_point_39 : decode cX9_point 39 = .ok (.iconst 1, 1) := by decide +kernel
theorem dX9_point_40 : decode cX9_point 40 = .ok (.isub, 1) := by decide +kernel
theorem dX9_point_41 : decode cX9_point 41 = .ok (.goto 5, 3) := by decide +kernel
theorem dX9_point_44 : decode cX9_point 44 = .ok (.bipush (-3), 2) := by decide +kernel
theorem dX9_point_46 : decode cX9_point 46 = .ok (.ireturn, 1) := by decide +kernel
theorem dX9_lift_0 : decode cX9_lift 0 = .ok (.aload_n 0, 1) := by decide +kernel
theorem dX9_lift_1 : decode cX9_lift 1 = .ok (.getfield 26, 3) := by decide +kernel
theorem dX9_lift_4 : decode cX9_lift 4 = .ok (.getfield 109, 3) := by decide +kernel
theorem dX9_lift_7 : decode cX9_lift 7 = .ok (.iload_n 1, 1) := by decide +kernel
theorem dX9_lift_8 : decode cX9_lift 8 = .ok (.invokevirtual 121, 3) := by decide +kernel
theorem dX9_lift_11 : decode cX9_lift 11 = .ok (.ifCond .eq 16, 3) := by decide +kernel
theorem dX9_lift_14 : decode cX9_lift 14 = .ok (.aload_n 0, 1) := by decide +kernel
theorem dX9_lift_15 : decode cX9_lift 15 = .ok (.getfield 26, 3) := by decide +kernel
theorem dX9_lift_18 : decode cX9_lift 18 = .ok (.getfield 109, 3) := by decide +kernel
theorem dX9_lift_21 : decode cX9_lift 21 = .ok (.getfield 118, 3) := by decide +kernel
theorem dX9_lift_24 : decode cX9_lift 24 = .ok (.goto 4, 3) := by decide +kernel
theorem dX9_lift_27 : decode cX9_lift 27 = .ok (.iconst (-1), 1) := by decide +kernel
theorem dX9_lift_28 : decode cX9_lift 28 = .ok (.ireturn, 1) := by decide +kernel
theorem dX9_key_0 : decode cX9_key 0 = .ok (.aload_n 0, 1) := by decide +kernel
theorem dX9_key_1 : decode cX9_key 1 = .ok (.getfield 26, 3) := by decide +kernel
theorem dX9_key_4 : decode cX9_key 4 = .ok (.iload_n 1, 1) := by decide +kernel
theorem dX9_key_5 : decode cX9_key 5 = .ok (.iload_n 2, 1) := by decide +kernel
theorem dX9_key_6 : decode cX9_key 6 = .ok (.invokevirtual 91, 3) := by decide +kernel
theorem dX9_key_9 : decode cX9_key 9 = .ok (.ifCond .eq 25, 3) := by decide +kernel
theorem dX9_key_12 : decode cX9_key 12 = .ok (.aload_n 0, 1) := by decide +kernel
theorem dX9_key_13 : decode cX9_key 13 = .ok (.getfield 26, 3) := by decide +kernel
theorem dX9_key_16 : decode cX9_key 16 = .ok (.getfield 82, 3) := by decide +kernel
theorem dX9_key_19 : decode cX9_key 19 = .ok (.aload_n 0, 1) := by decide +kernel
theorem dX9_key_20 : decode cX9_key 20 = .ok (.getfield 26, 3) := by decide +kernel
theorem dX9_key_23 : decode cX9_key 23 = .ok (.getfield 79, 3) := by decide +kernel
theorem dX9_key_26 : decode cX9_key 26 = .ok (.iload_n 1, 1) := by decide +kernel
theorem dX9_key_27 : decode cX9_key 27 = .ok (.iload_n 2, 1) := by decide +kernel
theorem dX9_key_28 : decode cX9_key 28 = .ok (.invokestatic 124, 3) := by decide +kernel
theorem dX9_key_31 : decode cX9_key 31 = .ok (.goto 4, 3) := by decide +kernel
theorem dX9_key_34 : decode cX9_key 34 = .ok (.iconst (-1), 1) := by decide +kernel
theorem dX9_key_35 : decode cX9_key 35 = .ok (.ireturn, 1) := by decide +kernel
theorem dX9_cell_0 : decode cX9_cell 0 = .ok (.aload_n 0, 1) := by decide +kernel
theorem dX9_cell_1 : decode cX9_cell 1 = .ok (.getfield 26, 3) := by decide +kernel
theorem dX9_cell_4 : decode cX9_cell 4 = .ok (.aload_n 0, 1) := by decide +kernel
theorem dX9_cell_5 : decode cX9_cell 5 = .ok (.getfield 26, 3) := by decide +kernel
theorem dX9_cell_8 : decode cX9_cell 8 = .ok (.getfield 82, 3) := by decide +kernel
theorem dX9_cell_11 : decode cX9_cell 11 = .ok (.iload_n 1, 1) := by decide +kernel
theorem dX9_cell_12 : decode cX9_cell 12 = .ok (.invokevirtual 130, 3) := by decide +kernel
theorem dX9_cell_15 : decode cX9_cell 15 = .ok (.ifCond .eq 10, 3) := by decide +kernel
theorem dX9_cell_18 : decode cX9_cell 18 = .ok (.iload_n 2, 1) := by decide +kernel
theorem dX9_cell_19 : decode cX9_cell 19 = .ok (.invokestatic 75, 3) := by decide +kernel
theorem dX9_cell_22 : decode cX9_cell 22 = .ok (.ifCond .ne 5, 3) := by decide +kernel
theorem dX9_cell_25 : decode cX9_cell 25 = .ok (.iconst (-1), 1) := by decide +kernel
theorem dX9_cell_26 : decode cX9_cell 26 = .ok (.ireturn, 1) := by decide +kernel
theorem dX9_cell_27 : decode cX9_cell 27 = .ok (.aload_n 0, 1) := by decide +kernel
theorem dX9_cell_28 : decode cX9_cell 28 = .ok (.getfield 26, 3) := by decide +kernel
theorem dX9_cell_31 : decode cX9_cell 31 = .ok (.getfield 82, 3) := by decide +kernel
theorem dX9_cell_34 : decode cX9_cell 34 = .ok (.aload_n 0, 1) := by decide +kernel
theorem dX9_cell_35 : decode cX9_cell 35 = .ok (.getfield 26, 3) := by decide +kernel
theorem dX9_cell_38 : decode cX9_cell 38 = .ok (.getfield 79, 3) := by decide +kernel
theorem dX9_cell_41 : decode cX9_cell 41 = .ok (.iload_n 1, 1) := by decide +kernel
theorem dX9_cell_42 : decode cX9_cell 42 = .ok (.invokestatic 133, 3) := by decide +kernel
theorem dX9_cell_45 : decode cX9_cell 45 = .ok (.iload_n 2, 1) := by decide +kernel
theorem dX9_cell_46 : decode cX9_cell 46 = .ok (.invokestatic 137, 3) := by decide +kernel
theorem dX9_cell_49 : decode cX9_cell 49 = .ok (.ireturn, 1) := by decide +kernel
theorem dX9_tile_0 : decode cX9_tile 0 = .ok (.aload_n 0, 1) := by decide +kernel
theorem dX9_tile_1 : decode cX9_tile 1 = .ok (.getfield 26, 3) := by decide +kernel
theorem dX9_tile_4 : decode cX9_tile 4 = .ok (.iload_n 1, 1) := by decide +kernel
theorem dX9_tile_5 : decode cX9_tile 5 = .ok (.iload_n 2, 1) := by decide +kernel
theorem dX9_tile_6 : decode cX9_tile 6 = .ok (.invokevirtual 130, 3) := by decide +kernel
theorem dX9_tile_9 : decode cX9_tile 9 = .ok (.ifCond .eq 13, 3) := by decide +kernel
theorem dX9_tile_12 : decode cX9_tile 12 = .ok (.iload_n 3, 1) := by decide +kernel
theorem dX9_tile_13 : decode cX9_tile 13 = .ok (.ifCond .lt 9, 3) := by decide +kernel
theorem dX9_tile_16 : decode cX9_tile 16 = .ok (.iload_n 3, 1) := by decide +kernel
theorem dX9_tile_17 : decode cX9_tile 17 = .ok (.bipush 6, 2) := by decide +kernel
theorem dX9_tile_19 : decode cX9_tile 19 = .ok (.if_icmp .le 5, 3) := by decide +kernel
theorem dX9_tile_22 : decode cX9_tile 22 = .ok (.iconst (-1), 1) := by decide +kernel
theorem dX9_tile_23 : decode cX9_tile 23 = .ok (.ireturn, 1) := by decide +kernel
theorem dX9_tile_24 : decode cX9_tile 24 = .ok (.iconst 1, 1) := by decide +kernel
theorem dX9_tile_25 : decode cX9_tile 25 = .ok (.aload_n 0, 1) := by decide +kernel
theorem dX9_tile_26 : decode cX9_tile 26 = .ok (.getfield 26, 3) := by decide +kernel
theorem dX9_tile_29 : decode cX9_tile 29 = .ok (.getfield 82, 3) := by decide +kernel
theorem dX9_tile_32 : decode cX9_tile 32 = .ok (.iload_n 1, 1) := by decide +kernel
theorem dX9_tile_33 : decode cX9_tile 33 = .ok (.isub, 1) := by decide +kernel
theorem dX9_tile_34 : decode cX9_tile 34 = .ok (.ishl, 1) := by decide +kernel
theorem dX9_tile_35 : decode cX9_tile 35 = .ok (.istore 4, 2) := by decide +kernel
theorem dX9_tile_37 : decode cX9_tile 37 = .ok (.aload_n 0, 1) := by decide +kernel
theorem dX9_tile_38 : decode cX9_tile 38 = .ok (.getfield 26, 3) := by decide +kernel
theorem dX9_tile_41 : decode cX9_tile 41 = .ok (.iload_n 1, 1) := by decide +kernel
theorem dX9_tile_42 : decode cX9_tile 42 = .ok (.invokevirtual 141, 3) := by decide +kernel
theorem dX9_tile_45 : decode cX9_tile 45 = .ok (.istore 5, 2) := by decide +kernel
theorem dX9_tile_47 : decode cX9_tile 47 = .ok (.iload_n 3, 1) := by decide +kernel
theorem dX9_tile_48 : decode cX9_tile 48 = .ok (.tableswitch 106 0 5 #[40, 40, 60, 63, 68, 78], 40) := by decide +kernel
theorem dX9_tile_88 : decode cX9_tile 88 = .ok (.iload_n 1, 1) := by decide +kernel
theorem dX9_tile_89 : decode cX9_tile 89 = .ok (.aload_n 0, 1) := by decide +kernel
theorem dX9_tile_90 : decode cX9_tile 90 = .ok (.getfield 26, 3) := by decide +kernel
theorem dX9_tile_93 : decode cX9_tile 93 = .ok (.getfield 79, 3) := by decide +kernel
theorem dX9_tile_96 : decode cX9_tile 96 = .ok (.iload_n 2, 1) := by decide +kernel
theorem dX9_tile_97 : decode cX9_tile 97 = .ok (.invokestatic 133, 3) := by decide +kernel
theorem dX9_tile_100 : decode cX9_tile 100 = .ok (.iload_n 3, 1) := by decide +kernel
theorem dX9_tile_101 : decode cX9_tile 101 = .ok (.invokestatic 137, 3) := by decide +kernel
theorem dX9_tile_104 : decode cX9_tile 104 = .ok (.iload 4, 2) := by decide +kernel
theorem dX9_tile_106 : decode cX9_tile 106 = .ok (.imul, 1) := by decide +kernel
theorem dX9_tile_107 : decode cX9_tile 107 = .ok (.ireturn, 1) := by decide +kernel
theorem dX9_tile_108 : decode cX9_tile 108 = .ok (.iload 4, 2) := by decide +kernel
theorem dX9_tile_110 : decode cX9_tile 110 = .ok (.ireturn, 1) := by decide +kernel
theorem dX9_tile_111 : decode cX9_tile 111 = .ok (.iload_n 2, 1) := by decide +kernel
theorem dX9_tile_112 : decode cX9_tile 112 = .ok (.iload 5, 2) := by decide +kernel
theorem dX9_tile_114 : decode cX9_tile 114 = .ok (.imul, 1) := by decide +kernel
theorem dX9_tile_115 : decode cX9_tile 115 = .ok (.ireturn, 1) := by decide +kernel
theorem dX9_tile_116 : decode cX9_tile 116 = .ok (.iload_n 2, 1) := by decide +kernel
theorem dX9_tile_117 : decode cX9_tile 117 = .ok (.iload 5, 2) := by decide +kernel
theorem dX9_tile_119 : decode cX9_tile 119 = .ok (.imul, 1) := by decide +kernel
theorem dX9_tile_120 : decode cX9_tile 120 = .ok (.iload 5, 2) := by decide +kernel
theorem dX9_tile_122 : decode cX9_tile 122 = .ok (.iadd, 1) := by decide +kernel
theorem dX9_tile_123 : decode cX9_tile 123 = .ok (.iconst 1, 1) := by decide +kernel
theorem dX9_tile_124 : decode cX9_tile 124 = .ok (.isub, 1) := by decide +kernel
theorem dX9_tile_125 : decode cX9_tile 125 = .ok (.ireturn, 1) := by decide +kernel
theorem dX9_tile_126 : decode cX9_tile 126 = .ok (.aload_n 0, 1) := by decide +kernel
theorem dX9_tile_127 : decode cX9_tile 127 = .ok (.getfield 19, 3) := by decide +kernel
theorem dX9_tile_130 : decode cX9_tile 130 = .ok (.aload_n 0, 1) := by decide +kernel
theorem dX9_tile_131 : decode cX9_tile 131 = .ok (.getfield 26, 3) := by decide +kernel
theorem dX9_tile_134 : decode cX9_tile 134 = .ok (.invokevirtual 145, 3) := by decide +kernel
theorem dX9_tile_137 : decode cX9_tile 137 = .ok (.aload_n 0, 1) := by decide +kernel
theorem dX9_tile_138 : decode cX9_tile 138 = .ok (.getfield 19, 3) := by decide +kernel
theorem dX9_tile_141 : decode cX9_tile 141 = .ok (.getfield 149, 3) := by decide +kernel
theorem dX9_tile_144 : decode cX9_tile 144 = .ok (.iload_n 2, 1) := by decide +kernel
theorem dX9_tile_145 : decode cX9_tile 145 = .ok (.iload 5, 2) := by decide +kernel
theorem dX9_tile_147 : decode cX9_tile 147 = .ok (.imul, 1) := by decide +kernel
theorem dX9_tile_148 : decode cX9_tile 148 = .ok (.iload 5, 2) := by decide +kernel
theorem dX9_tile_150 : decode cX9_tile 150 = .ok (.invokevirtual 153, 3) := by decide +kernel
theorem dX9_tile_153 : decode cX9_tile 153 = .ok (.ireturn, 1) := by decide +kernel
theorem dX9_tile_154 : decode cX9_tile 154 = .ok (.aload_n 0, 1) := by decide +kernel
theorem dX9_tile_155 : decode cX9_tile 155 = .ok (.getfield 26, 3) := by decide +kernel
theorem dX9_tile_158 : decode cX9_tile 158 = .ok (.iload_n 1, 1) := by decide +kernel
theorem dX9_tile_159 : decode cX9_tile 159 = .ok (.iload_n 2, 1) := by decide +kernel
theorem dX9_tile_160 : decode cX9_tile 160 = .ok (.invokevirtual 158, 3) := by decide +kernel
theorem dX9_tile_163 : decode cX9_tile 163 = .ok (.ireturn, 1) := by decide +kernel
theorem dX9_beside_0 : decode cX9_beside 0 = .ok (.aload_n 0, 1) := by decide +kernel
theorem dX9_beside_1 : decode cX9_beside 1 = .ok (.getfield 26, 3) := by decide +kernel
theorem dX9_beside_4 : decode cX9_beside 4 = .ok (.iload_n 1, 1) := by decide +kernel
theorem dX9_beside_5 : decode cX9_beside 5 = .ok (.iload_n 2, 1) := by decide +kernel
theorem dX9_beside_6 : decode cX9_beside 6 = .ok (.invokevirtual 130, 3) := by decide +kernel
theorem dX9_beside_9 : decode cX9_beside 9 = .ok (.ifCond .eq 27, 3) := by decide +kernel
theorem dX9_beside_12 : decode cX9_beside 12 = .ok (.iload_n 3, 1) := by decide +kernel
theorem dX9_beside_13 : decode cX9_beside 13 = .ok (.invokestatic 161, 3) := by decide +kernel
theorem dX9_beside_16 : decode cX9_beside 16 = .ok (.ifCond .eq 20, 3) := by decide +kernel
theorem dX9_beside_19 : decode cX9_beside 19 = .ok (.iload 4, 2) := by decide +kernel
theorem dX9_beside_21 : decode cX9_beside 21 = .ok (.invokestatic 161, 3) := by decide +kernel
theorem dX9_beside_24 : decode cX9_beside 24 = .ok (.ifCond .eq 12, 3) := by decide +kernel
theorem dX9_beside_27 : decode cX9_beside 27 = .ok (.iload_n 3, 1) := by decide +kernel
theorem dX9_beside_28 : decode cX9_beside 28 = .ok (.ifCond .ne 10, 3) := by decide +kernel
theorem dX9_beside_31 : decode cX9_beside 31 = .ok (.iload 4, 2) := by decide +kernel
theorem dX9_beside_33 : decode cX9_beside 33 = .ok (.ifCond .ne 5, 3) := by decide +kernel
theorem dX9_beside_36 : decode cX9_beside 36 = .ok (.iconst (-1), 1) := by decide +kernel
theorem dX9_beside_37 : decode cX9_beside 37 = .ok (.ireturn, 1) := by decide +kernel
theorem dX9_beside_38 : decode cX9_beside 38 = .ok (.iload_n 1, 1) := by decide +kernel
theorem dX9_beside_39 : decode cX9_beside 39 = .ok (.aload_n 0, 1) := by decide +kernel
theorem dX9_beside_40 : decode cX9_beside 40 = .ok (.getfield 26, 3) := by decide +kernel
theorem dX9_beside_43 : decode cX9_beside 43 = .ok (.getfield 79, 3) := by decide +kernel
theorem dX9_beside_46 : decode cX9_beside 46 = .ok (.iload_n 2, 1) := by decide +kernel
theorem dX9_beside_47 : decode cX9_beside 47 = .ok (.invokestatic 133, 3) := by decide +kernel
theorem dX9_beside_50 : decode cX9_beside 50 = .ok (.istore 5, 2) := by decide +kernel
theorem dX9_beside_52 : decode cX9_beside 52 = .ok (.iload 5, 2) := by decide +kernel
theorem dX9_beside_54 : decode cX9_beside 54 = .ok (.iconst 0, 1) := by decide +kernel
theorem dX9_beside_55 : decode cX9_beside 55 = .ok (.invokestatic 137, 3) := by decide +kernel
theorem dX9_beside_58 : decode cX9_beside 58 = .ok (.iload_n 3, 1) := by decide +kernel
theorem dX9_beside_59 : decode cX9_beside 59 = .ok (.iadd, 1) := by decide +kernel
theorem dX9_beside_60 : decode cX9_beside 60 = .ok (.istore 6, 2) := by decide +kernel
theorem dX9_beside_62 : decode cX9_beside 62 = .ok (.iload 5, 2) := by decide +kernel
theorem dX9_beside_64 : decode cX9_beside 64 = .ok (.iconst 1, 1) := by decide +kernel
theorem dX9_beside_65 : decode cX9_beside 65 = .ok (.invokestatic 137, 3) := by decide +kernel
theorem dX9_beside_68 : decode cX9_beside 68 = .ok (.iload 4, 2) := by decide +kernel
theorem dX9_beside_70 : decode cX9_beside 70 = .ok (.iadd, 1) := by decide +kernel
theorem dX9_beside_71 : decode cX9_beside 71 = .ok (.istore 7, 2) := by decide +kernel
theorem dX9_beside_73 : decode cX9_beside 73 = .ok (.iconst 1, 1) := by decide +kernel
theorem dX9_beside_74 : decode cX9_beside 74 = .ok (.iload_n 1, 1) := by decide +kernel
theorem dX9_beside_75 : decode cX9_beside 75 = .ok (.ishl, 1) := by decide +kernel
theorem dX9_beside_76 : decode cX9_beside 76 = .ok (.istore 8, 2) := by decide +kernel
theorem dX9_beside_78 : decode cX9_beside 78 = .ok (.iload 6, 2) := by decide +kernel
theorem dX9_beside_80 : decode cX9_beside 80 = .ok (.ifCond .lt 22, 3) := by decide +kernel
theorem dX9_beside_83 : decode cX9_beside 83 = .ok (.iload 6, 2) := by decide +kernel
theorem dX9_beside_85 : decode cX9_beside 85 = .ok (.iload 8, 2) := by decide +kernel
theorem dX9_beside_87 : decode cX9_beside 87 = .ok (.if_icmp .ge 15, 3) := by decide +kernel
theorem dX9_beside_90 : decode cX9_beside 90 = .ok (.iload 7, 2) := by decide +kernel
theorem dX9_beside_92 : decode cX9_beside 92 = .ok (.ifCond .lt 10, 3) := by decide +kernel
theorem dX9_beside_95 : decode cX9_beside 95 = .ok (.iload 7, 2) := by decide +kernel
theorem dX9_beside_97 : decode cX9_beside 97 = .ok (.iload 8, 2) := by decide +kernel
theorem dX9_beside_99 : decode cX9_beside 99 = .ok (.if_icmp .lt 6, 3) := by decide +kernel
theorem dX9_beside_102 : decode cX9_beside 102 = .ok (.bipush (-4), 2) := by decide +kernel
theorem dX9_beside_104 : decode cX9_beside 104 = .ok (.ireturn, 1) := by decide +kernel
theorem dX9_beside_105 : decode cX9_beside 105 = .ok (.iload_n 1, 1) := by decide +kernel
theorem dX9_beside_106 : decode cX9_beside 106 = .ok (.aload_n 0, 1) := by decide +kernel
theorem dX9_beside_107 : decode cX9_beside 107 = .ok (.getfield 26, 3) := by decide +kernel
theorem dX9_beside_110 : decode cX9_beside 110 = .ok (.getfield 79, 3) := by decide +kernel
theorem dX9_beside_113 : decode cX9_beside 113 = .ok (.iload 6, 2) := by decide +kernel
theorem dX9_beside_115 : decode cX9_beside 115 = .ok (.iload 7, 2) := by decide +kernel
theorem dX9_beside_117 : decode cX9_beside 117 = .ok (.invokestatic 124, 3) := by decide +kernel
theorem dX9_beside_120 : decode cX9_beside 120 = .ok (.ireturn, 1) := by decide +kernel
theorem dX9_common_0 : decode cX9_common 0 = .ok (.aload_n 0, 1) := by decide +kernel
theorem dX9_common_1 : decode cX9_common 1 = .ok (.getfield 26, 3) := by decide +kernel
theorem dX9_common_4 : decode cX9_common 4 = .ok (.iload_n 1, 1) := by decide +kernel
theorem dX9_common_5 : decode cX9_common 5 = .ok (.iload_n 2, 1) := by decide +kernel
theorem dX9_common_6 : decode cX9_common 6 = .ok (.invokevirtual 91, 3) := by decide +kernel
theorem dX9_common_9 : decode cX9_common 9 = .ok (.ifCond .eq 16, 3) := by decide +kernel
theorem dX9_common_12 : decode cX9_common 12 = .ok (.aload_n 0, 1) := by decide +kernel
theorem dX9_common_13 : decode cX9_common 13 = .ok (.getfield 26, 3) := by decide +kernel
theorem dX9_common_16 : decode cX9_common 16 = .ok (.iload_n 3, 1) := by decide +kernel
theorem dX9_common_17 : decode cX9_common 17 = .ok (.iload 4, 2) := by decide +kernel
theorem dX9_common_19 : decode cX9_common 19 = .ok (.invokevirtual 91, 3) := by decide +kernel
theorem dX9_common_22 : decode cX9_common 22 = .ok (.ifCond .ne 5, 3) := by decide +kernel
theorem dX9_common_25 : decode cX9_common 25 = .ok (.iconst (-1), 1) := by decide +kernel
theorem dX9_common_26 : decode cX9_common 26 = .ok (.ireturn, 1) := by decide +kernel
theorem dX9_common_27 : decode cX9_common 27 = .ok (.iconst 0, 1) := by decide +kernel
theorem dX9_common_28 : decode cX9_common 28 = .ok (.istore 5, 2) := by decide +kernel
theorem dX9_common_30 : decode cX9_common 30 = .ok (.iconst 1, 1) := by decide +kernel
theorem dX9_common_31 : decode cX9_common 31 = .ok (.istore 6, 2) := by decide +kernel
theorem dX9_common_33 : decode cX9_common 33 = .ok (.iload 6, 2) := by decide +kernel
theorem dX9_common_35 : decode cX9_common 35 = .ok (.aload_n 0, 1) := by decide +kernel
theorem dX9_common_36 : decode cX9_common 36 = .ok (.getfield 26, 3) := by decide +kernel
theorem dX9_common_39 : decode cX9_common 39 = .ok (.getfield 82, 3) := by decide +kernel
theorem dX9_common_42 : decode cX9_common 42 = .ok (.if_icmp .gt 48, 3) := by decide +kernel
theorem dX9_common_45 : decode cX9_common 45 = .ok (.aload_n 0, 1) := by decide +kernel
theorem dX9_common_46 : decode cX9_common 46 = .ok (.getfield 26, 3) := by decide +kernel
theorem dX9_common_49 : decode cX9_common 49 = .ok (.getfield 82, 3) := by decide +kernel
theorem dX9_common_52 : decode cX9_common 52 = .ok (.iload 6, 2) := by decide +kernel
theorem dX9_common_54 : decode cX9_common 54 = .ok (.isub, 1) := by decide +kernel
theorem dX9_common_55 : decode cX9_common 55 = .ok (.istore 7, 2) := by decide +kernel
theorem dX9_common_57 : decode cX9_common 57 = .ok (.iload_n 1, 1) := by decide +kernel
theorem dX9_common_58 : decode cX9_common 58 = .ok (.iload 7, 2) := by decide +kernel
theorem dX9_common_60 : decode cX9_common 60 = .ok (.ishr, 1) := by decide +kernel
theorem dX9_common_61 : decode cX9_common 61 = .ok (.iload_n 3, 1) := by decide +kernel
theorem dX9_common_62 : decode cX9_common 62 = .ok (.iload 7, 2) := by decide +kernel
theorem dX9_common_64 : decode cX9_common 64 = .ok (.ishr, 1) := by decide +kernel
theorem dX9_common_65 : decode cX9_common 65 = .ok (.if_icmp .ne 19, 3) := by decide +kernel
theorem dX9_common_68 : decode cX9_common 68 = .ok (.iload_n 2, 1) := by decide +kernel
theorem dX9_common_69 : decode cX9_common 69 = .ok (.iload 7, 2) := by decide +kernel
theorem dX9_common_71 : decode cX9_common 71 = .ok (.ishr, 1) := by decide +kernel
theorem dX9_common_72 : decode cX9_common 72 = .ok (.iload 4, 2) := by decide +kernel
theorem dX9_common_74 : decode cX9_common 74 = .ok (.iload 7, 2) := by decide +kernel
theorem dX9_common_76 : decode cX9_common 76 = .ok (.ishr, 1) := by decide +kernel
theorem dX9_common_77 : decode cX9_common 77 = .ok (.if_icmp .ne 7, 3) := by decide +kernel
theorem dX9_common_80 : decode cX9_common 80 = .ok (.iload 6, 2) := by decide +kernel
theorem dX9_common_82 : decode cX9_common 82 = .ok (.istore 5, 2) := by decide +kernel
theorem dX9_common_84 : decode cX9_common 84 = .ok (.iinc 6 1, 3) := by decide +kernel
theorem dX9_common_87 : decode cX9_common 87 = .ok (.goto (-54), 3) := by decide +kernel
theorem dX9_common_90 : decode cX9_common 90 = .ok (.iload 5, 2) := by decide +kernel
theorem dX9_common_92 : decode cX9_common 92 = .ok (.ireturn, 1) := by decide +kernel
theorem dX9_leaps_0 : decode cX9_leaps 0 = .ok (.iconst 0, 1) := by decide +kernel
theorem dX9_leaps_1 : decode cX9_leaps 1 = .ok (.istore_n 1, 1) := by decide +kernel
theorem dX9_leaps_2 : decode cX9_leaps 2 = .ok (.aload_n 0, 1) := by decide +kernel
theorem dX9_leaps_3 : decode cX9_leaps 3 = .ok (.getfield 26, 3) := by decide +kernel
theorem dX9_leaps_6 : decode cX9_leaps 6 = .ok (.iconst 0, 1) := by decide +kernel
theorem dX9_leaps_7 : decode cX9_leaps 7 = .ok (.invokevirtual 141, 3) := by decide +kernel
theorem dX9_leaps_10 : decode cX9_leaps 10 = .ok (.istore_n 2, 1) := by decide +kernel
theorem dX9_leaps_11 : decode cX9_leaps 11 = .ok (.aload_n 0, 1) := by decide +kernel
theorem dX9_leaps_12 : decode cX9_leaps 12 = .ok (.getfield 26, 3) := by decide +kernel
theorem dX9_leaps_15 : decode cX9_leaps 15 = .ok (.getfield 82, 3) := by decide +kernel
theorem dX9_leaps_18 : decode cX9_leaps 18 = .ok (.aload_n 0, 1) := by decide +kernel
theorem dX9_leaps_19 : decode cX9_leaps 19 = .ok (.getfield 26, 3) := by decide +kernel
theorem dX9_leaps_22 : decode cX9_leaps 22 = .ok (.getfield 79, 3) := by decide +kernel
theorem dX9_leaps_25 : decode cX9_leaps 25 = .ok (.iconst 0, 1) := by decide +kernel
theorem dX9_leaps_26 : decode cX9_leaps 26 = .ok (.invokestatic 133, 3) := by decide +kernel
theorem dX9_leaps_29 : decode cX9_leaps 29 = .ok (.istore_n 3, 1) := by decide +kernel
theorem dX9_leaps_30 : decode cX9_leaps 30 = .ok (.iconst 1, 1) := by decide +kernel
theorem dX9_leaps_31 : decode cX9_leaps 31 = .ok (.istore 4, 2) := by decide +kernel
theorem dX9_leaps_33 : decode cX9_leaps 33 = .ok (.iload 4, 2) := by decide +kernel
theorem dX9_leaps_35 : decode cX9_leaps 35 = .ok (.iload_n 2, 1) := by decide +kernel
theorem dX9_leaps_36 : decode cX9_leaps 36 = .ok (.if_icmp .ge 79, 3) := by decide +kernel
theorem dX9_leaps_39 : decode cX9_leaps 39 = .ok (.aload_n 0, 1) := by decide +kernel
theorem dX9_leaps_40 : decode cX9_leaps 40 = .ok (.getfield 26, 3) := by decide +kernel
theorem dX9_leaps_43 : decode cX9_leaps 43 = .ok (.getfield 82, 3) := by decide +kernel
theorem dX9_leaps_46 : decode cX9_leaps 46 = .ok (.aload_n 0, 1) := by decide +kernel
theorem dX9_leaps_47 : decode cX9_leaps 47 = .ok (.getfield 26, 3) := by decide +kernel
theorem dX9_leaps_50 : decode cX9_leaps 50 = .ok (.getfield 79, 3) := by decide +kernel
theorem dX9_leaps_53 : decode cX9_leaps 53 = .ok (.iload 4, 2) := by decide +kernel
theorem dX9_leaps_55 : decode cX9_leaps 55 = .ok (.invokestatic 133, 3) := by decide +kernel
theorem dX9_leaps_58 : decode cX9_leaps 58 = .ok (.istore 5, 2) := by decide +kernel
theorem dX9_leaps_60 : decode cX9_leaps 60 = .ok (.iload 5, 2) := by decide +kernel
theorem dX9_leaps_62 : decode cX9_leaps 62 = .ok (.iconst 0, 1) := by decide +kernel
theorem dX9_leaps_63 : decode cX9_leaps 63 = .ok (.invokestatic 137, 3) := by decide +kernel
theorem dX9_leaps_66 : decode cX9_leaps 66 = .ok (.iload_n 3, 1) := by decide +kernel
theorem dX9_leaps_67 : decode cX9_leaps 67 = .ok (.iconst 0, 1) := by decide +kernel
theorem dX9_leaps_68 : decode cX9_leaps 68 = .ok (.invokestatic 137, 3) := by decide +kernel
theorem dX9_leaps_71 : decode cX9_leaps 71 = .ok (.isub, 1) := by decide +kernel
theorem dX9_leaps_72 : decode cX9_leaps 72 = .ok (.istore 6, 2) := by decide +kernel
theorem dX9_leaps_74 : decode cX9_leaps 74 = .ok (.iload 5, 2) := by decide +kernel
theorem dX9_leaps_76 : decode cX9_leaps 76 = .ok (.iconst 1, 1) := by decide +kernel
theorem dX9_leaps_77 : decode cX9_leaps 77 = .ok (.invokestatic 137, 3) := by decide +kernel
theorem dX9_leaps_80 : decode cX9_leaps 80 = .ok (.iload_n 3, 1) := by decide +kernel
theorem dX9_leaps_81 : decode cX9_leaps 81 = .ok (.iconst 1, 1) := by decide +kernel
theorem dX9_leaps_82 : decode cX9_leaps 82 = .ok (.invokestatic 137, 3) := by decide +kernel
theorem dX9_leaps_85 : decode cX9_leaps 85 = .ok (.isub, 1) := by decide +kernel
theorem dX9_leaps_86 : decode cX9_leaps 86 = .ok (.istore 7, 2) := by decide +kernel
theorem dX9_leaps_88 : decode cX9_leaps 88 = .ok (.iload 6, 2) := by decide +kernel
theorem dX9_leaps_90 : decode cX9_leaps 90 = .ok (.iload 6, 2) := by decide +kernel
theorem dX9_leaps_92 : decode cX9_leaps 92 = .ok (.imul, 1) := by decide +kernel
theorem dX9_leaps_93 : decode cX9_leaps 93 = .ok (.iload 7, 2) := by decide +kernel
theorem dX9_leaps_95 : decode cX9_leaps 95 = .ok (.iload 7, 2) := by decide +kernel
theorem dX9_leaps_97 : decode cX9_leaps 97 = .ok (.imul, 1) := by decide +kernel
theorem dX9_leaps_98 : decode cX9_leaps 98 = .ok (.iadd, 1) := by decide +kernel
theorem dX9_leaps_99 : decode cX9_leaps 99 = .ok (.iconst 1, 1) := by decide +kernel
theorem dX9_leaps_100 : decode cX9_leaps 100 = .ok (.if_icmp .eq 6, 3) := by decide +kernel
theorem dX9_leaps_103 : decode cX9_leaps 103 = .ok (.iinc 1 1, 3) := by decide +kernel
theorem dX9_leaps_106 : decode cX9_leaps 106 = .ok (.iload 5, 2) := by decide +kernel
theorem dX9_leaps_108 : decode cX9_leaps 108 = .ok (.istore_n 3, 1) := by decide +kernel
theorem dX9_leaps_109 : decode cX9_leaps 109 = .ok (.iinc 4 1, 3) := by decide +kernel
theorem dX9_leaps_112 : decode cX9_leaps 112 = .ok (.goto (-79), 3) := by decide +kernel
theorem dX9_leaps_115 : decode cX9_leaps 115 = .ok (.iload_n 1, 1) := by decide +kernel
theorem dX9_leaps_116 : decode cX9_leaps 116 = .ok (.ireturn, 1) := by decide +kernel
theorem dX9_in_0 : decode cX9_in 0 = .ok (.aload_n 0, 1) := by decide +kernel
theorem dX9_in_1 : decode cX9_in 1 = .ok (.getfield 26, 3) := by decide +kernel
theorem dX9_in_4 : decode cX9_in 4 = .ok (.iload_n 1, 1) := by decide +kernel
theorem dX9_in_5 : decode cX9_in 5 = .ok (.iload_n 2, 1) := by decide +kernel
theorem dX9_in_6 : decode cX9_in 6 = .ok (.invokevirtual 91, 3) := by decide +kernel
theorem dX9_in_9 : decode cX9_in 9 = .ok (.ifCond .ne 5, 3) := by decide +kernel
theorem dX9_in_12 : decode cX9_in 12 = .ok (.iconst (-1), 1) := by decide +kernel
theorem dX9_in_13 : decode cX9_in 13 = .ok (.ireturn, 1) := by decide +kernel
theorem dX9_in_14 : decode cX9_in 14 = .ok (.aload_n 0, 1) := by decide +kernel
theorem dX9_in_15 : decode cX9_in 15 = .ok (.getfield 26, 3) := by decide +kernel
theorem dX9_in_18 : decode cX9_in 18 = .ok (.iload_n 1, 1) := by decide +kernel
theorem dX9_in_19 : decode cX9_in 19 = .ok (.iload_n 2, 1) := by decide +kernel
theorem dX9_in_20 : decode cX9_in 20 = .ok (.invokevirtual 164, 3) := by decide +kernel
theorem dX9_in_23 : decode cX9_in 23 = .ok (.ifCond .eq 7, 3) := by decide +kernel
theorem dX9_in_26 : decode cX9_in 26 = .ok (.iconst 1, 1) := by decide +kernel
theorem dX9_in_27 : decode cX9_in 27 = .ok (.goto 4, 3) := by decide +kernel
theorem dX9_in_30 : decode cX9_in 30 = .ok (.iconst 0, 1) := by decide +kernel
theorem dX9_in_31 : decode cX9_in 31 = .ok (.ireturn, 1) := by decide +kernel
theorem dX9_cover_0 : decode cX9_cover 0 = .ok (.iload_n 1, 1) := by decide +kernel
theorem dX9_cover_1 : decode cX9_cover 1 = .ok (.invokestatic 75, 3) := by decide +kernel
theorem dX9_cover_4 : decode cX9_cover 4 = .ok (.ifCond .eq 15, 3) := by decide +kernel
theorem dX9_cover_7 : decode cX9_cover 7 = .ok (.iload_n 2, 1) := by decide +kernel
theorem dX9_cover_8 : decode cX9_cover 8 = .ok (.iconst (-1), 1) := by decide +kernel
theorem dX9_cover_9 : decode cX9_cover 9 = .ok (.if_icmp .lt 10, 3) := by decide +kernel
theorem dX9_cover_12 : decode cX9_cover 12 = .ok (.iload_n 3, 1) := by decide +kernel
theorem dX9_cover_13 : decode cX9_cover 13 = .ok (.invokestatic 75, 3) := by decide +kernel
theorem dX9_cover_16 : decode cX9_cover 16 = .ok (.ifCond .ne 5, 3) := by decide +kernel
theorem dX9_cover_19 : decode cX9_cover 19 = .ok (.iconst (-1), 1) := by decide +kernel
theorem dX9_cover_20 : decode cX9_cover 20 = .ok (.ireturn, 1) := by decide +kernel
theorem dX9_cover_21 : decode cX9_cover 21 = .ok (.aload_n 0, 1) := by decide +kernel
theorem dX9_cover_22 : decode cX9_cover 22 = .ok (.getfield 19, 3) := by decide +kernel
theorem dX9_cover_25 : decode cX9_cover 25 = .ok (.aload_n 0, 1) := by decide +kernel
theorem dX9_cover_26 : decode cX9_cover 26 = .ok (.getfield 26, 3) := by decide +kernel
theorem dX9_cover_29 : decode cX9_cover 29 = .ok (.invokevirtual 145, 3) := by decide +kernel
theorem dX9_cover_32 : decode cX9_cover 32 = .ok (.aload_n 0, 1) := by decide +kernel
theorem dX9_cover_33 : decode cX9_cover 33 = .ok (.getfield 19, 3) := by decide +kernel
theorem dX9_cover_36 : decode cX9_cover 36 = .ok (.aload_n 0, 1) := by decide +kernel
theorem dX9_cover_37 : decode cX9_cover 37 = .ok (.getfield 26, 3) := by decide +kernel
theorem dX9_cover_40 : decode cX9_cover 40 = .ok (.aload_n 0, 1) := by decide +kernel
theorem dX9_cover_41 : decode cX9_cover 41 = .ok (.getfield 19, 3) := by decide +kernel
theorem dX9_cover_44 : decode cX9_cover 44 = .ok (.iload_n 1, 1) := by decide +kernel
theorem dX9_cover_45 : decode cX9_cover 45 = .ok (.invokevirtual 167, 3) := by decide +kernel
theorem dX9_cover_48 : decode cX9_cover 48 = .ok (.iload_n 2, 1) := by decide +kernel
theorem dX9_cover_49 : decode cX9_cover 49 = .ok (.iload_n 3, 1) := by decide +kernel
theorem dX9_cover_50 : decode cX9_cover 50 = .ok (.invokevirtual 171, 3) := by decide +kernel
theorem dX9_cover_53 : decode cX9_cover 53 = .ok (.ireturn, 1) := by decide +kernel
theorem dX9_rest_0 : decode cX9_rest 0 = .ok (.iload_n 1, 1) := by decide +kernel
theorem dX9_rest_1 : decode cX9_rest 1 = .ok (.invokestatic 75, 3) := by decide +kernel
theorem dX9_rest_4 : decode cX9_rest 4 = .ok (.ifCond .ne 5, 3) := by decide +kernel
theorem dX9_rest_7 : decode cX9_rest 7 = .ok (.iconst (-1), 1) := by decide +kernel
theorem dX9_rest_8 : decode cX9_rest 8 = .ok (.ireturn, 1) := by decide +kernel
theorem dX9_rest_9 : decode cX9_rest 9 = .ok (.aload_n 0, 1) := by decide +kernel
theorem dX9_rest_10 : decode cX9_rest 10 = .ok (.getfield 19, 3) := by decide +kernel
theorem dX9_rest_13 : decode cX9_rest 13 = .ok (.aload_n 0, 1) := by decide +kernel
theorem dX9_rest_14 : decode cX9_rest 14 = .ok (.getfield 26, 3) := by decide +kernel
theorem dX9_rest_17 : decode cX9_rest 17 = .ok (.invokevirtual 145, 3) := by decide +kernel
theorem dX9_rest_20 : decode cX9_rest 20 = .ok (.aload_n 0, 1) := by decide +kernel
theorem dX9_rest_21 : decode cX9_rest 21 = .ok (.getfield 26, 3) := by decide +kernel
theorem dX9_rest_24 : decode cX9_rest 24 = .ok (.iconst 0, 1) := by decide +kernel
theorem dX9_rest_25 : decode cX9_rest 25 = .ok (.invokevirtual 141, 3) := by decide +kernel
theorem dX9_rest_28 : decode cX9_rest 28 = .ok (.istore_n 2, 1) := by decide +kernel
theorem dX9_rest_29 : decode cX9_rest 29 = .ok (.aload_n 0, 1) := by decide +kernel
theorem dX9_rest_30 : decode cX9_rest 30 = .ok (.getfield 19, 3) := by decide +kernel
theorem dX9_rest_33 : decode cX9_rest 33 = .ok (.iload_n 1, 1) := by decide +kernel
theorem dX9_rest_34 : decode cX9_rest 34 = .ok (.invokevirtual 167, 3) := by decide +kernel
theorem dX9_rest_37 : decode cX9_rest 37 = .ok (.iconst 0, 1) := by decide +kernel
theorem dX9_rest_38 : decode cX9_rest 38 = .ok (.iload_n 2, 1) := by decide +kernel
theorem dX9_rest_39 : decode cX9_rest 39 = .ok (.invokevirtual 153, 3) := by decide +kernel
theorem dX9_rest_42 : decode cX9_rest 42 = .ok (.aload_n 0, 1) := by decide +kernel
theorem dX9_rest_43 : decode cX9_rest 43 = .ok (.getfield 19, 3) := by decide +kernel
theorem dX9_rest_46 : decode cX9_rest 46 = .ok (.getfield 149, 3) := by decide +kernel
theorem dX9_rest_49 : decode cX9_rest 49 = .ok (.iconst 0, 1) := by decide +kernel
theorem dX9_rest_50 : decode cX9_rest 50 = .ok (.iload_n 2, 1) := by decide +kernel
theorem dX9_rest_51 : decode cX9_rest 51 = .ok (.invokevirtual 153, 3) := by decide +kernel
theorem dX9_rest_54 : decode cX9_rest 54 = .ok (.isub, 1) := by decide +kernel
theorem dX9_rest_55 : decode cX9_rest 55 = .ok (.invokestatic 175, 3) := by decide +kernel
theorem dX9_rest_58 : decode cX9_rest 58 = .ok (.ireturn, 1) := by decide +kernel
theorem dX9_best_0 : decode cX9_best 0 = .ok (.iload_n 1, 1) := by decide +kernel
theorem dX9_best_1 : decode cX9_best 1 = .ok (.iconst 1, 1) := by decide +kernel
theorem dX9_best_2 : decode cX9_best 2 = .ok (.if_icmp .lt 9, 3) := by decide +kernel
theorem dX9_best_5 : decode cX9_best 5 = .ok (.iload_n 1, 1) := by decide +kernel
theorem dX9_best_6 : decode cX9_best 6 = .ok (.bipush 12, 2) := by decide +kernel
theorem dX9_best_8 : decode cX9_best 8 = .ok (.if_icmp .le 5, 3) := by decide +kernel
theorem dX9_best_11 : decode cX9_best 11 = .ok (.iconst (-1), 1) := by decide +kernel
theorem dX9_best_12 : decode cX9_best 12 = .ok (.ireturn, 1) := by decide +kernel
theorem dX9_best_13 : decode cX9_best 13 = .ok (.aload_n 0, 1) := by decide +kernel
theorem dX9_best_14 : decode cX9_best 14 = .ok (.getfield 19, 3) := by decide +kernel
theorem dX9_best_17 : decode cX9_best 17 = .ok (.aload_n 0, 1) := by decide +kernel
theorem dX9_best_18 : decode cX9_best 18 = .ok (.getfield 26, 3) := by decide +kernel
theorem dX9_best_21 : decode cX9_best 21 = .ok (.invokevirtual 145, 3) := by decide +kernel
theorem dX9_best_24 : decode cX9_best 24 = .ok (.aload_n 0, 1) := by decide +kernel
theorem dX9_best_25 : decode cX9_best 25 = .ok (.getfield 19, 3) := by decide +kernel
theorem dX9_best_28 : decode cX9_best 28 = .ok (.aload_n 0, 1) := by decide +kernel
theorem dX9_best_29 : decode cX9_best 29 = .ok (.getfield 26, 3) := by decide +kernel
theorem dX9_best_32 : decode cX9_best 32 = .ok (.iload_n 1, 1) := by decide +kernel
theorem dX9_best_33 : decode cX9_best 33 = .ok (.invokevirtual 180, 3) := by decide +kernel
theorem dX9_best_36 : decode cX9_best 36 = .ok (.istore_n 2, 1) := by decide +kernel
theorem dX9_best_37 : decode cX9_best 37 = .ok (.iload_n 2, 1) := by decide +kernel
theorem dX9_best_38 : decode cX9_best 38 = .ok (.ldc 186, 2) := by decide +kernel
theorem dX9_best_40 : decode cX9_best 40 = .ok (.if_icmp .lt 6, 3) := by decide +kernel
theorem dX9_best_43 : decode cX9_best 43 = .ok (.bipush (-4), 2) := by decide +kernel
theorem dX9_best_45 : decode cX9_best 45 = .ok (.ireturn, 1) := by decide +kernel
theorem dX9_best_46 : decode cX9_best 46 = .ok (.iload_n 2, 1) := by decide +kernel
theorem dX9_best_47 : decode cX9_best 47 = .ok (.aload_n 0, 1) := by decide +kernel
theorem dX9_best_48 : decode cX9_best 48 = .ok (.getfield 19, 3) := by decide +kernel
theorem dX9_best_51 : decode cX9_best 51 = .ok (.getfield 149, 3) := by decide +kernel
theorem dX9_best_54 : decode cX9_best 54 = .ok (.iconst 0, 1) := by decide +kernel
theorem dX9_best_55 : decode cX9_best 55 = .ok (.aload_n 0, 1) := by decide +kernel
theorem dX9_best_56 : decode cX9_best 56 = .ok (.getfield 26, 3) := by decide +kernel
theorem dX9_best_59 : decode cX9_best 59 = .ok (.iconst 0, 1) := by decide +kernel
theorem dX9_best_60 : decode cX9_best 60 = .ok (.invokevirtual 141, 3) := by decide +kernel
theorem dX9_best_63 : decode cX9_best 63 = .ok (.invokevirtual 153, 3) := by decide +kernel
theorem dX9_best_66 : decode cX9_best 66 = .ok (.isub, 1) := by decide +kernel
theorem dX9_best_67 : decode cX9_best 67 = .ok (.ireturn, 1) := by decide +kernel
theorem dX9_span_0 : decode cX9_span 0 = .ok (.iload_n 1, 1) := by decide +kernel
theorem dX9_span_1 : decode cX9_span 1 = .ok (.invokestatic 75, 3) := by decide +kernel
theorem dX9_span_4 : decode cX9_span 4 = .ok (.ifCond .eq 15, 3) := by decide +kernel
theorem dX9_span_7 : decode cX9_span 7 = .ok (.iload_n 2, 1) := by decide +kernel
theorem dX9_span_8 : decode cX9_span 8 = .ok (.iconst (-1), 1) := by decide +kernel
theorem dX9_span_9 : decode cX9_span 9 = .ok (.if_icmp .lt 10, 3) := by decide +kernel
theorem dX9_span_12 : decode cX9_span 12 = .ok (.iload_n 3, 1) := by decide +kernel
theorem dX9_span_13 : decode cX9_span 13 = .ok (.invokestatic 75, 3) := by decide +kernel
theorem dX9_span_16 : decode cX9_span 16 = .ok (.ifCond .ne 5, 3) := by decide +kernel
theorem dX9_span_19 : decode cX9_span 19 = .ok (.iconst (-1), 1) := by decide +kernel
theorem dX9_span_20 : decode cX9_span 20 = .ok (.ireturn, 1) := by decide +kernel
theorem dX9_span_21 : decode cX9_span 21 = .ok (.aload_n 0, 1) := by decide +kernel
theorem dX9_span_22 : decode cX9_span 22 = .ok (.getfield 19, 3) := by decide +kernel
theorem dX9_span_25 : decode cX9_span 25 = .ok (.aload_n 0, 1) := by decide +kernel
theorem dX9_span_26 : decode cX9_span 26 = .ok (.getfield 26, 3) := by decide +kernel
theorem dX9_span_29 : decode cX9_span 29 = .ok (.invokevirtual 145, 3) := by decide +kernel
theorem dX9_span_32 : decode cX9_span 32 = .ok (.aload_n 0, 1) := by decide +kernel
theorem dX9_span_33 : decode cX9_span 33 = .ok (.getfield 19, 3) := by decide +kernel
theorem dX9_span_36 : decode cX9_span 36 = .ok (.iload_n 1, 1) := by decide +kernel
theorem dX9_span_37 : decode cX9_span 37 = .ok (.invokevirtual 167, 3) := by decide +kernel
theorem dX9_span_40 : decode cX9_span 40 = .ok (.iload_n 2, 1) := by decide +kernel
theorem dX9_span_41 : decode cX9_span 41 = .ok (.iload_n 3, 1) := by decide +kernel
theorem dX9_span_42 : decode cX9_span 42 = .ok (.invokevirtual 187, 3) := by decide +kernel
theorem dX9_span_45 : decode cX9_span 45 = .ok (.ireturn, 1) := by decide +kernel
theorem dX9_joined_0 : decode cX9_joined 0 = .ok (.iload_n 1, 1) := by decide +kernel
theorem dX9_joined_1 : decode cX9_joined 1 = .ok (.invokestatic 75, 3) := by decide +kernel
theorem dX9_joined_4 : decode cX9_joined 4 = .ok (.ifCond .eq 14, 3) := by decide +kernel
theorem dX9_joined_7 : decode cX9_joined 7 = .ok (.iload_n 2, 1) := by decide +kernel
theorem dX9_joined_8 : decode cX9_joined 8 = .ok (.iconst 1, 1) := by decide +kernel
theorem dX9_joined_9 : decode cX9_joined 9 = .ok (.if_icmp .lt 9, 3) := by decide +kernel
theorem dX9_joined_12 : decode cX9_joined 12 = .ok (.iload_n 2, 1) := by decide +kernel
theorem dX9_joined_13 : decode cX9_joined 13 = .ok (.bipush 99, 2) := by decide +kernel
theorem dX9_joined_15 : decode cX9_joined 15 = .ok (.if_icmp .le 5, 3) := by decide +kernel
theorem dX9_joined_18 : decode cX9_joined 18 = .ok (.iconst (-1), 1) := by decide +kernel
theorem dX9_joined_19 : decode cX9_joined 19 = .ok (.ireturn, 1) := by decide +kernel
theorem dX9_joined_20 : decode cX9_joined 20 = .ok (.aload_n 0, 1) := by decide +kernel
theorem dX9_joined_21 : decode cX9_joined 21 = .ok (.getfield 19, 3) := by decide +kernel
theorem dX9_joined_24 : decode cX9_joined 24 = .ok (.aload_n 0, 1) := by decide +kernel
theorem dX9_joined_25 : decode cX9_joined 25 = .ok (.getfield 26, 3) := by decide +kernel
theorem dX9_joined_28 : decode cX9_joined 28 = .ok (.invokevirtual 145, 3) := by decide +kernel
theorem dX9_joined_31 : decode cX9_joined 31 = .ok (.aload_n 0, 1) := by decide +kernel
theorem dX9_joined_32 : decode cX9_joined 32 = .ok (.getfield 19, 3) := by decide +kernel
theorem dX9_joined_35 : decode cX9_joined 35 = .ok (.getfield 190, 3) := by decide +kernel
theorem dX9_joined_38 : decode cX9_joined 38 = .ok (.aload_n 0, 1) := by decide +kernel
theorem dX9_joined_39 : decode cX9_joined 39 = .ok (.getfield 19, 3) := by decide +kernel
theorem dX9_joined_42 : decode cX9_joined 42 = .ok (.iload_n 1, 1) := by decide +kernel
theorem dX9_joined_43 : decode cX9_joined 43 = .ok (.invokevirtual 167, 3) := by decide +kernel
theorem dX9_joined_46 : decode cX9_joined 46 = .ok (.iload_n 2, 1) := by decide +kernel
theorem dX9_joined_47 : decode cX9_joined 47 = .ok (.invokevirtual 194, 3) := by decide +kernel
theorem dX9_joined_50 : decode cX9_joined 50 = .ok (.ireturn, 1) := by decide +kernel
theorem dX9_at_0 : decode cX9_at 0 = .ok (.aload_n 0, 1) := by decide +kernel
theorem dX9_at_1 : decode cX9_at 1 = .ok (.getfield 26, 3) := by decide +kernel
theorem dX9_at_4 : decode cX9_at 4 = .ok (.getfield 109, 3) := by decide +kernel
theorem dX9_at_7 : decode cX9_at 7 = .ok (.astore_n 3, 1) := by decide +kernel
theorem dX9_at_8 : decode cX9_at 8 = .ok (.aload_n 3, 1) := by decide +kernel
theorem dX9_at_9 : decode cX9_at 9 = .ok (.iload_n 1, 1) := by decide +kernel
theorem dX9_at_10 : decode cX9_at 10 = .ok (.invokevirtual 200, 3) := by decide +kernel
theorem dX9_at_13 : decode cX9_at 13 = .ok (.ifCond .eq 12, 3) := by decide +kernel
theorem dX9_at_16 : decode cX9_at 16 = .ok (.iload_n 2, 1) := by decide +kernel
theorem dX9_at_17 : decode cX9_at 17 = .ok (.ifCond .lt 8, 3) := by decide +kernel
theorem dX9_at_20 : decode cX9_at 20 = .ok (.iload_n 2, 1) := by decide +kernel
theorem dX9_at_21 : decode cX9_at 21 = .ok (.iconst 2, 1) := by decide +kernel
theorem dX9_at_22 : decode cX9_at 22 = .ok (.if_icmp .le 5, 3) := by decide +kernel
theorem dX9_at_25 : decode cX9_at 25 = .ok (.iconst (-1), 1) := by decide +kernel
theorem dX9_at_26 : decode cX9_at 26 = .ok (.ireturn, 1) := by decide +kernel
theorem dX9_at_27 : decode cX9_at 27 = .ok (.iload_n 2, 1) := by decide +kernel
theorem dX9_at_28 : decode cX9_at 28 = .ok (.iconst 2, 1) := by decide +kernel
theorem dX9_at_29 : decode cX9_at 29 = .ok (.if_icmp .ne 27, 3) := by decide +kernel
theorem dX9_at_32 : decode cX9_at 32 = .ok (.aload_n 3, 1) := by decide +kernel
theorem dX9_at_33 : decode cX9_at 33 = .ok (.aload_n 0, 1) := by decide +kernel
theorem dX9_at_34 : decode cX9_at 34 = .ok (.getfield 26, 3) := by decide +kernel
theorem dX9_at_37 : decode cX9_at 37 = .ok (.getfield 82, 3) := by decide +kernel
theorem dX9_at_40 : decode cX9_at 40 = .ok (.aload_n 0, 1) := by decide +kernel
theorem dX9_at_41 : decode cX9_at 41 = .ok (.getfield 26, 3) := by decide +kernel
theorem dX9_at_44 : decode cX9_at 44 = .ok (.getfield 79, 3) := by decide +kernel
theorem dX9_at_47 : decode cX9_at 47 = .ok (.invokevirtual 203, 3) := by decide +kernel
theorem dX9_at_50 : decode cX9_at 50 = .ok (.aload_n 3, 1) := by decide +kernel
theorem dX9_at_51 : decode cX9_at 51 = .ok (.iload_n 1, 1) := by decide +kernel
theorem dX9_at_52 : decode cX9_at 52 = .ok (.invokevirtual 207, 3) := by decide +kernel
theorem dX9_at_55 : decode cX9_at 55 = .ok (.ireturn, 1) := by decide +kernel
theorem dX9_at_56 : decode cX9_at 56 = .ok (.iload_n 2, 1) := by decide +kernel
theorem dX9_at_57 : decode cX9_at 57 = .ok (.ifCond .ne 12, 3) := by decide +kernel
theorem dX9_at_60 : decode cX9_at 60 = .ok (.aload_n 3, 1) := by decide +kernel
theorem dX9_at_61 : decode cX9_at 61 = .ok (.getfield 210, 3) := by decide +kernel
theorem dX9_at_64 : decode cX9_at 64 = .ok (.iload_n 1, 1) := by decide +kernel
theorem dX9_at_65 : decode cX9_at 65 = .ok (.iaload, 1) := by decide +kernel
theorem dX9_at_66 : decode cX9_at 66 = .ok (.goto 9, 3) := by decide +kernel
theorem dX9_at_69 : decode cX9_at 69 = .ok (.aload_n 3, 1) := by decide +kernel
theorem dX9_at_70 : decode cX9_at 70 = .ok (.getfield 213, 3) := by decide +kernel
theorem dX9_at_73 : decode cX9_at 73 = .ok (.iload_n 1, 1) := by decide +kernel
theorem dX9_at_74 : decode cX9_at 74 = .ok (.iaload, 1) := by decide +kernel
theorem dX9_at_75 : decode cX9_at 75 = .ok (.ireturn, 1) := by decide +kernel
theorem dX9_ordered_0 : decode cX9_ordered 0 = .ok (.iload_n 1, 1) := by decide +kernel
theorem dX9_ordered_1 : decode cX9_ordered 1 = .ok (.ifCond .ge 5, 3) := by decide +kernel
theorem dX9_ordered_4 : decode cX9_ordered 4 = .ok (.iconst (-1), 1) := by decide +kernel
theorem dX9_ordered_5 : decode cX9_ordered 5 = .ok (.ireturn, 1) := by decide +kernel
theorem dX9_ordered_6 : decode cX9_ordered 6 = .ok (.aload_n 0, 1) := by decide +kernel
theorem dX9_ordered_7 : decode cX9_ordered 7 = .ok (.getfield 26, 3) := by decide +kernel
theorem dX9_ordered_10 : decode cX9_ordered 10 = .ok (.getfield 109, 3) := by decide +kernel
theorem dX9_ordered_13 : decode cX9_ordered 13 = .ok (.iload_n 1, 1) := by decide +kernel
theorem dX9_ordered_14 : decode cX9_ordered 14 = .ok (.invokevirtual 200, 3) := by decide +kernel
theorem dX9_ordered_17 : decode cX9_ordered 17 = .ok (.ifCond .ne 6, 3) := by decide +kernel
theorem dX9_ordered_20 : decode cX9_ordered 20 = .ok (.bipush (-4), 2) := by decide +kernel
theorem dX9_ordered_22 : decode cX9_ordered 22 = .ok (.ireturn, 1) := by decide +kernel
theorem dX9_ordered_23 : decode cX9_ordered 23 = .ok (.aload_n 0, 1) := by decide +kernel
theorem dX9_ordered_24 : decode cX9_ordered 24 = .ok (.getfield 26, 3) := by decide +kernel
theorem dX9_ordered_27 : decode cX9_ordered 27 = .ok (.getfield 109, 3) := by decide +kernel
theorem dX9_ordered_30 : decode cX9_ordered 30 = .ok (.aload_n 0, 1) := by decide +kernel
theorem dX9_ordered_31 : decode cX9_ordered 31 = .ok (.getfield 26, 3) := by decide +kernel
theorem dX9_ordered_34 : decode cX9_ordered 34 = .ok (.getfield 82, 3) := by decide +kernel
theorem dX9_ordered_37 : decode cX9_ordered 37 = .ok (.aload_n 0, 1) := by decide +kernel
theorem dX9_ordered_38 : decode cX9_ordered 38 = .ok (.getfield 26, 3) := by decide +kernel
theorem dX9_ordered_41 : decode cX9_ordered 41 = .ok (.getfield 79, 3) := by decide +kernel
theorem dX9_ordered_44 : decode cX9_ordered 44 = .ok (.invokevirtual 203, 3) := by decide +kernel
theorem dX9_ordered_47 : decode cX9_ordered 47 = .ok (.aload_n 0, 1) := by decide +kernel
theorem dX9_ordered_48 : decode cX9_ordered 48 = .ok (.getfield 26, 3) := by decide +kernel
theorem dX9_ordered_51 : decode cX9_ordered 51 = .ok (.getfield 109, 3) := by decide +kernel
theorem dX9_ordered_54 : decode cX9_ordered 54 = .ok (.getfield 216, 3) := by decide +kernel
theorem dX9_ordered_57 : decode cX9_ordered 57 = .ok (.iload_n 1, 1) := by decide +kernel
theorem dX9_ordered_58 : decode cX9_ordered 58 = .ok (.iaload, 1) := by decide +kernel
theorem dX9_ordered_59 : decode cX9_ordered 59 = .ok (.ireturn, 1) := by decide +kernel
theorem dX9_search_0 : decode cX9_search 0 = .ok (.iload_n 1, 1) := by decide +kernel
theorem dX9_search_1 : decode cX9_search 1 = .ok (.invokestatic 75, 3) := by decide +kernel
theorem dX9_search_4 : decode cX9_search 4 = .ok (.ifCond .ne 5, 3) := by decide +kernel
theorem dX9_search_7 : decode cX9_search 7 = .ok (.iconst (-1), 1) := by decide +kernel
theorem dX9_search_8 : decode cX9_search 8 = .ok (.ireturn, 1) := by decide +kernel
theorem dX9_search_9 : decode cX9_search 9 = .ok (.iload_n 1, 1) := by decide +kernel
theorem dX9_search_10 : decode cX9_search 10 = .ok (.iconst 1, 1) := by decide +kernel
theorem dX9_search_11 : decode cX9_search 11 = .ok (.if_icmp .ne 11, 3) := by decide +kernel
theorem dX9_search_14 : decode cX9_search 14 = .ok (.aload_n 0, 1) := by decide +kernel
theorem dX9_search_15 : decode cX9_search 15 = .ok (.getfield 26, 3) := by decide +kernel
theorem dX9_search_18 : decode cX9_search 18 = .ok (.invokevirtual 219, 3) := by decide +kernel
theorem dX9_search_21 : decode cX9_search 21 = .ok (.ireturn, 1) := by decide +kernel
theorem dX9_search_22 : decode cX9_search 22 = .ok (.aload_n 0, 1) := by decide +kernel
theorem dX9_search_23 : decode cX9_search 23 = .ok (.getfield 19, 3) := by decide +kernel
theorem dX9_search_26 : decode cX9_search 26 = .ok (.aload_n 0, 1) := by decide +kernel
theorem dX9_search_27 : decode cX9_search 27 = .ok (.getfield 26, 3) := by decide +kernel
theorem dX9_search_30 : decode cX9_search 30 = .ok (.invokevirtual 145, 3) := by decide +kernel
theorem dX9_search_33 : decode cX9_search 33 = .ok (.aload_n 0, 1) := by decide +kernel
theorem dX9_search_34 : decode cX9_search 34 = .ok (.getfield 26, 3) := by decide +kernel
theorem dX9_search_37 : decode cX9_search 37 = .ok (.aload_n 0, 1) := by decide +kernel
theorem dX9_search_38 : decode cX9_search 38 = .ok (.getfield 19, 3) := by decide +kernel
theorem dX9_search_41 : decode cX9_search 41 = .ok (.getfield 222, 3) := by decide +kernel
theorem dX9_search_44 : decode cX9_search 44 = .ok (.invokevirtual 225, 3) := by decide +kernel
theorem dX9_search_47 : decode cX9_search 47 = .ok (.ireturn, 1) := by decide +kernel
theorem dX9_found_0 : decode cX9_found 0 = .ok (.iload_n 1, 1) := by decide +kernel
theorem dX9_found_1 : decode cX9_found 1 = .ok (.ifCond .ge 7, 3) := by decide +kernel
theorem dX9_found_4 : decode cX9_found 4 = .ok (.iconst (-1), 1) := by decide +kernel
theorem dX9_found_5 : decode cX9_found 5 = .ok (.goto 11, 3) := by decide +kernel
theorem dX9_found_8 : decode cX9_found 8 = .ok (.aload_n 0, 1) := by decide +kernel
theorem dX9_found_9 : decode cX9_found 9 = .ok (.getfield 26, 3) := by decide +kernel
theorem dX9_found_12 : decode cX9_found 12 = .ok (.iload_n 1, 1) := by decide +kernel
theorem dX9_found_13 : decode cX9_found 13 = .ok (.invokevirtual 229, 3) := by decide +kernel
theorem dX9_found_16 : decode cX9_found 16 = .ok (.ireturn, 1) := by decide +kernel
theorem dX9_nearest_0 : decode cX9_nearest 0 = .ok (.aload_n 0, 1) := by decide +kernel
theorem dX9_nearest_1 : decode cX9_nearest 1 = .ok (.getfield 26, 3) := by decide +kernel
theorem dX9_nearest_4 : decode cX9_nearest 4 = .ok (.iload_n 1, 1) := by decide +kernel
theorem dX9_nearest_5 : decode cX9_nearest 5 = .ok (.iload_n 2, 1) := by decide +kernel
theorem dX9_nearest_6 : decode cX9_nearest 6 = .ok (.invokevirtual 91, 3) := by decide +kernel
theorem dX9_nearest_9 : decode cX9_nearest 9 = .ok (.ifCond .eq 18, 3) := by decide +kernel
theorem dX9_nearest_12 : decode cX9_nearest 12 = .ok (.aload_n 0, 1) := by decide +kernel
theorem dX9_nearest_13 : decode cX9_nearest 13 = .ok (.getfield 26, 3) := by decide +kernel
theorem dX9_nearest_16 : decode cX9_nearest 16 = .ok (.getfield 109, 3) := by decide +kernel
theorem dX9_nearest_19 : decode cX9_nearest 19 = .ok (.iload_n 1, 1) := by decide +kernel
theorem dX9_nearest_20 : decode cX9_nearest 20 = .ok (.iload_n 2, 1) := by decide +kernel
theorem dX9_nearest_21 : decode cX9_nearest 21 = .ok (.invokevirtual 232, 3) := by decide +kernel
theorem dX9_nearest_24 : decode cX9_nearest 24 = .ok (.goto 4, 3) := by decide +kernel
theorem dX9_nearest_27 : decode cX9_nearest 27 = .ok (.iconst (-1), 1) := by decide +kernel
theorem dX9_nearest_28 : decode cX9_nearest 28 = .ok (.ireturn, 1) := by decide +kernel
theorem dX9_count_0 : decode cX9_count 0 = .ok (.iload_n 1, 1) := by decide +kernel
theorem dX9_count_1 : decode cX9_count 1 = .ok (.tableswitch 149 0 8 #[51, 59, 67, 75, 83, 91, 102, 133, 141], 51) := by decide +kernel
theorem dX9_count_52 : decode cX9_count 52 = .ok (.aload_n 0, 1) := by decide +kernel
theorem dX9_count_53 : decode cX9_count 53 = .ok (.getfield 26, 3) := by decide +kernel
theorem dX9_count_56 : decode cX9_count 56 = .ok (.getfield 82, 3) := by decide +kernel
theorem dX9_count_59 : decode cX9_count 59 = .ok (.ireturn, 1) := by decide +kernel
theorem dX9_count_60 : decode cX9_count 60 = .ok (.aload_n 0, 1) := by decide +kernel
theorem dX9_count_61 : decode cX9_count 61 = .ok (.getfield 26, 3) := by decide +kernel
theorem dX9_count_64 : decode cX9_count 64 = .ok (.getfield 79, 3) := by decide +kernel
theorem dX9_count_67 : decode cX9_count 67 = .ok (.ireturn, 1) := by decide +kernel
theorem dX9_count_68 : decode cX9_count 68 = .ok (.aload_n 0, 1) := by decide +kernel
theorem dX9_count_69 : decode cX9_count 69 = .ok (.getfield 26, 3) := by decide +kernel
theorem dX9_count_72 : decode cX9_count 72 = .ok (.getfield 85, 3) := by decide +kernel
theorem dX9_count_75 : decode cX9_count 75 = .ok (.ireturn, 1) := by decide +kernel
theorem dX9_count_76 : decode cX9_count 76 = .ok (.aload_n 0, 1) := by decide +kernel
theorem dX9_count_77 : decode cX9_count 77 = .ok (.getfield 26, 3) := by decide +kernel
theorem dX9_count_80 : decode cX9_count 80 = .ok (.getfield 88, 3) := by decide +kernel
theorem dX9_count_83 : decode cX9_count 83 = .ok (.ireturn, 1) := by decide +kernel
theorem dX9_count_84 : decode cX9_count 84 = .ok (.aload_n 0, 1) := by decide +kernel
theorem dX9_count_85 : decode cX9_count 85 = .ok (.getfield 26, 3) := by decide +kernel
theorem dX9_count_88 : decode cX9_count 88 = .ok (.getfield 99, 3) := by decide +kernel
theorem dX9_count_91 : decode cX9_count 91 = .ok (.ireturn, 1) := by decide +kernel
theorem dX9_count_92 : decode cX9_count 92 = .ok (.aload_n 0, 1) := by decide +kernel
theorem dX9_count_93 : decode cX9_count 93 = .ok (.getfield 26, 3) := by decide +kernel
theorem dX9_count_96 : decode cX9_count 96 = .ok (.getfield 109, 3) := by decide +kernel
theorem dX9_count_99 : decode cX9_count 99 = .ok (.getfield 118, 3) := by decide +kernel
theorem dX9_count_102 : decode cX9_count 102 = .ok (.ireturn, 1) := by decide +kernel
theorem dX9_count_103 : decode cX9_count 103 = .ok (.aload_n 0, 1) := by decide +kernel
theorem dX9_count_104 : decode cX9_count 104 = .ok (.getfield 19, 3) := by decide +kernel
theorem dX9_count_107 : decode cX9_count 107 = .ok (.aload_n 0, 1) := by decide +kernel
theorem dX9_count_108 : decode cX9_count 108 = .ok (.getfield 26, 3) := by decide +kernel
theorem dX9_count_111 : decode cX9_count 111 = .ok (.invokevirtual 145, 3) := by decide +kernel
theorem dX9_count_114 : decode cX9_count 114 = .ok (.aload_n 0, 1) := by decide +kernel
theorem dX9_count_115 : decode cX9_count 115 = .ok (.getfield 19, 3) := by decide +kernel
theorem dX9_count_118 : decode cX9_count 118 = .ok (.getfield 149, 3) := by decide +kernel
theorem dX9_count_121 : decode cX9_count 121 = .ok (.iconst 0, 1) := by decide +kernel
theorem dX9_count_122 : decode cX9_count 122 = .ok (.aload_n 0, 1) := by decide +kernel
theorem dX9_count_123 : decode cX9_count 123 = .ok (.getfield 26, 3) := by decide +kernel
theorem dX9_count_126 : decode cX9_count 126 = .ok (.iconst 0, 1) := by decide +kernel
theorem dX9_count_127 : decode cX9_count 127 = .ok (.invokevirtual 141, 3) := by decide +kernel
theorem dX9_count_130 : decode cX9_count 130 = .ok (.invokevirtual 153, 3) := by decide +kernel
theorem dX9_count_133 : decode cX9_count 133 = .ok (.ireturn, 1) := by decide +kernel
theorem dX9_count_134 : decode cX9_count 134 = .ok (.aload_n 0, 1) := by decide +kernel
theorem dX9_count_135 : decode cX9_count 135 = .ok (.getfield 10, 3) := by decide +kernel
theorem dX9_count_138 : decode cX9_count 138 = .ok (.getfield 56, 3) := by decide +kernel
theorem dX9_count_141 : decode cX9_count 141 = .ok (.ireturn, 1) := by decide +kernel
theorem dX9_count_142 : decode cX9_count 142 = .ok (.aload_n 0, 1) := by decide +kernel
theorem dX9_count_143 : decode cX9_count 143 = .ok (.getfield 10, 3) := by decide +kernel
theorem dX9_count_146 : decode cX9_count 146 = .ok (.getfield 68, 3) := by decide +kernel
theorem dX9_count_149 : decode cX9_count 149 = .ok (.ireturn, 1) := by decide +kernel
theorem dX9_count_150 : decode cX9_count 150 = .ok (.iconst (-1), 1) := by decide +kernel
theorem dX9_count_151 : decode cX9_count 151 = .ok (.ireturn, 1) := by decide +kernel
theorem dX9_isBit_0 : decode cX9_isBit 0 = .ok (.iload_n 0, 1) := by decide +kernel
theorem dX9_isBit_1 : decode cX9_isBit 1 = .ok (.ifCond .eq 8, 3) := by decide +kernel
theorem dX9_isBit_4 : decode cX9_isBit 4 = .ok (.iload_n 0, 1) := by decide +kernel
theorem dX9_isBit_5 : decode cX9_isBit 5 = .ok (.iconst 1, 1) := by decide +kernel
theorem dX9_isBit_6 : decode cX9_isBit 6 = .ok (.if_icmp .ne 7, 3) := by decide +kernel
theorem dX9_isBit_9 : decode cX9_isBit 9 = .ok (.iconst 1, 1) := by decide +kernel
theorem dX9_isBit_10 : decode cX9_isBit 10 = .ok (.goto 4, 3) := by decide +kernel
theorem dX9_isBit_13 : decode cX9_isBit 13 = .ok (.iconst 0, 1) := by decide +kernel
theorem dX9_isBit_14 : decode cX9_isBit 14 = .ok (.ireturn, 1) := by decide +kernel
theorem dX9_isStep_0 : decode cX9_isStep 0 = .ok (.iload_n 0, 1) := by decide +kernel
theorem dX9_isStep_1 : decode cX9_isStep 1 = .ok (.iconst (-1), 1) := by decide +kernel
theorem dX9_isStep_2 : decode cX9_isStep 2 = .ok (.if_icmp .lt 12, 3) := by decide +kernel
theorem dX9_isStep_5 : decode cX9_isStep 5 = .ok (.iload_n 0, 1) := by decide +kernel
theorem dX9_isStep_6 : decode cX9_isStep 6 = .ok (.iconst 1, 1) := by decide +kernel
theorem dX9_isStep_7 : decode cX9_isStep 7 = .ok (.if_icmp .gt 7, 3) := by decide +kernel
theorem dX9_isStep_10 : decode cX9_isStep 10 = .ok (.iconst 1, 1) := by decide +kernel
theorem dX9_isStep_11 : decode cX9_isStep 11 = .ok (.goto 4, 3) := by decide +kernel
theorem dX9_isStep_14 : decode cX9_isStep 14 = .ok (.iconst 0, 1) := by decide +kernel
theorem dX9_isStep_15 : decode cX9_isStep 15 = .ok (.ireturn, 1) := by decide +kernel
theorem dX10_init_0 : decode cX10_init 0 = .ok (.aload_n 0, 1) := by decide +kernel
theorem dX10_init_1 : decode cX10_init 1 = .ok (.invokespecial 1, 3) := by decide +kernel
theorem dX10_init_4 : decode cX10_init 4 = .ok (.aload_n 0, 1) := by decide +kernel
theorem dX10_init_5 : decode cX10_init 5 = .ok (.iconst 4, 1) := by decide +kernel
theorem dX10_init_6 : decode cX10_init 6 = .ok (.putfield 7, 3) := by decide +kernel
theorem dX10_init_9 : decode cX10_init 9 = .ok (.aload_n 0, 1) := by decide +kernel
theorem dX10_init_10 : decode cX10_init 10 = .ok (.iconst 1, 1) := by decide +kernel
theorem dX10_init_11 : decode cX10_init 11 = .ok (.putfield 13, 3) := by decide +kernel
theorem dX10_init_14 : decode cX10_init 14 = .ok (.aload_n 0, 1) := by decide +kernel
theorem dX10_init_15 : decode cX10_init 15 = .ok (.iconst 4, 1) := by decide +kernel
theorem dX10_init_16 : decode cX10_init 16 = .ok (.putfield 16, 3) := by decide +kernel
theorem dX10_init_19 : decode cX10_init 19 = .ok (.aload_n 0, 1) := by decide +kernel
theorem dX10_init_20 : decode cX10_init 20 = .ok (.iconst 3, 1) := by decide +kernel
theorem dX10_init_21 : decode cX10_init 21 = .ok (.putfield 19, 3) := by decide +kernel
theorem dX10_init_24 : decode cX10_init 24 = .ok (.aload_n 0, 1) := by decide +kernel
theorem dX10_init_25 : decode cX10_init 25 = .ok (.bipush 48, 2) := by decide +kernel
theorem dX10_init_27 : decode cX10_init 27 = .ok (.newarray .int, 2) := by decide +kernel
theorem dX10_init_29 : decode cX10_init 29 = .ok (.dup, 1) := by decide +kernel
theorem dX10_init_30 : decode cX10_init 30 = .ok (.iconst 0, 1) := by decide +kernel
theorem dX10_init_31 : decode cX10_init 31 = .ok (.iconst 1, 1) := by decide +kernel
theorem dX10_init_32 : decode cX10_init 32 = .ok (.iastore, 1) := by decide +kernel
theorem dX10_init_33 : decode cX10_init 33 = .ok (.dup, 1) := by decide +kernel
theorem dX10_init_34 : decode cX10_init 34 = .ok (.iconst 1, 1) := by decide +kernel
theorem dX10_init_35 : decode cX10_init 35 = .ok (.iconst 0, 1) := by decide +kernel
theorem dX10_init_36 : decode cX10_init 36 = .ok (.iastore, 1) := by decide +kernel
theorem dX10_init_37 : decode cX10_init 37 = .ok (.dup, 1) := by decide +kernel
theorem dX10_init_38 : decode cX10_init 38 = .ok (.iconst 2, 1) := by decide +kernel
theorem dX10_init_39 : decode cX10_init 39 = .ok (.iconst 2, 1) := by decide +kernel
theorem dX10_init_40 : decode cX10_init 40 = .ok (.iastore, 1) := by decide +kernel
theorem dX10_init_41 : decode cX10_init 41 = .ok (.dup, 1) := by decide +kernel
theorem dX10_init_42 : decode cX10_init 42 = .ok (.iconst 3, 1) := by decide +kernel
theorem dX10_init_43 : decode cX10_init 43 = .ok (.iconst 3, 1) := by decide +kernel
theorem dX10_init_44 : decode cX10_init 44 = .ok (.iastore, 1) := by decide +kernel
theorem dX10_init_45 : decode cX10_init 45 = .ok (.dup, 1) := by decide +kernel
theorem dX10_init_46 : decode cX10_init 46 = .ok (.iconst 4, 1) := by decide +kernel
theorem dX10_init_47 : decode cX10_init 47 = .ok (.bipush 9, 2) := by decide +kernel
theorem dX10_init_49 : decode cX10_init 49 = .ok (.iastore, 1) := by decide +kernel
theorem dX10_init_50 : decode cX10_init 50 = .ok (.dup, 1) := by decide +kernel
theorem dX10_init_51 : decode cX10_init 51 = .ok (.iconst 5, 1) := by decide +kernel
theorem dX10_init_52 : decode cX10_init 52 = .ok (.bipush 8, 2) := by decide +kernel
theorem dX10_init_54 : decode cX10_init 54 = .ok (.iastore, 1) := by decide +kernel
theorem dX10_init_55 : decode cX10_init 55 = .ok (.dup, 1) := by decide +kernel
theorem dX10_init_56 : decode cX10_init 56 = .ok (.bipush 6, 2) := by decide +kernel
theorem dX10_init_58 : decode cX10_init 58 = .ok (.iconst 1, 1) := by decide +kernel
theorem dX10_init_59 : decode cX10_init 59 = .ok (.iastore, 1) := by decide +kernel
theorem dX10_init_60 : decode cX10_init 60 = .ok (.dup, 1) := by decide +kernel
theorem dX10_init_61 : decode cX10_init 61 = .ok (.bipush 7, 2) := by decide +kernel
theorem dX10_init_63 : decode cX10_init 63 = .ok (.iconst 1, 1) := by decide +kernel
theorem dX10_init_64 : decode cX10_init 64 = .ok (.iastore, 1) := by decide +kernel
theorem dX10_init_65 : decode cX10_init 65 = .ok (.dup, 1) := by decide +kernel
theorem dX10_init_66 : decode cX10_init 66 = .ok (.bipush 8, 2) := by decide +kernel
theorem dX10_init_68 : decode cX10_init 68 = .ok (.bipush 10, 2) := by decide +kernel
theorem dX10_init_70 : decode cX10_init 70 = .ok (.iastore, 1) := by decide +kernel
theorem dX10_init_71 : decode cX10_init 71 = .ok (.dup, 1) := by decide +kernel
theorem dX10_init_72 : decode cX10_init 72 = .ok (.bipush 9, 2) := by decide +kernel
theorem dX10_init_74 : decode cX10_init 74 = .ok (.bipush 9, 2) := by decide +kernel
theorem dX10_init_76 : decode cX10_init 76 = .ok (.iastore, 1) := by decide +kernel
theorem dX10_init_77 : decode cX10_init 77 = .ok (.dup, 1) := by decide +kernel
theorem dX10_init_78 : decode cX10_init 78 = .ok (.bipush 10, 2) := by decide +kernel
theorem dX10_init_80 : decode cX10_init 80 = .ok (.iconst 4, 1) := by decide +kernel
theorem dX10_init_81 : decode cX10_init 81 = .ok (.iastore, 1) := by decide +kernel
theorem dX10_init_82 : decode cX10_init 82 = .ok (.dup, 1) := by decide +kernel
theorem dX10_init_83 : decode cX10_init 83 = .ok (.bipush 11, 2) := by decide +kernel
theorem dX10_init_85 : decode cX10_init 85 = .ok (.iconst 0, 1) := by decide +kernel
theorem dX10_init_86 : decode cX10_init 86 = .ok (.iastore, 1) := by decide +kernel
theorem dX10_init_87 : decode cX10_init 87 = .ok (.dup, 1) := by decide +kernel
theorem dX10_init_88 : decode cX10_init 88 = .ok (.bipush 12, 2) := by decide +kernel
theorem dX10_init_90 : decode cX10_init 90 = .ok (.iconst 0, 1) := by decide +kernel
theorem dX10_init_91 : decode cX10_init 91 = .ok (.iastore, 1) := by decide +kernel
theorem dX10_init_92 : decode cX10_init 92 = .ok (.dup, 1) := by decide +kernel
theorem dX10_init_93 : decode cX10_init 93 = .ok (.bipush 13, 2) := by decide +kernel
theorem dX10_init_95 : decode cX10_init 95 = .ok (.iconst 0, 1) := by decide +kernel
theorem dX10_init_96 : decode cX10_init 96 = .ok (.iastore, 1) := by decide +kernel
theorem dX10_init_97 : decode cX10_init 97 = .ok (.dup, 1) := by decide +kernel
theorem dX10_init_98 : decode cX10_init 98 = .ok (.bipush 14, 2) := by decide +kernel
theorem dX10_init_100 : decode cX10_init 100 = .ok (.iconst 5, 1) := by decide +kernel
theorem dX10_init_101 : decode cX10_init 101 = .ok (.iastore, 1) := by decide +kernel
theorem dX10_init_102 : decode cX10_init 102 = .ok (.dup, 1) := by decide +kernel
theorem dX10_init_103 : decode cX10_init 103 = .ok (.bipush 15, 2) := by decide +kernel
theorem dX10_init_105 : decode cX10_init 105 = .ok (.iconst 5, 1) := by decide +kernel
theorem dX10_init_106 : decode cX10_init 106 = .ok (.iastore, 1) := by decide +kernel
theorem dX10_init_107 : decode cX10_init 107 = .ok (.dup, 1) := by decide +kernel
theorem dX10_init_108 : decode cX10_init 108 = .ok (.bipush 16, 2) := by decide +kernel
theorem dX10_init_110 : decode cX10_init 110 = .ok (.bipush 6, 2) := by decide +kernel
theorem dX10_init_112 : decode cX10_init 112 = .ok (.iastore, 1) := by decide +kernel
theorem dX10_init_113 : decode cX10_init 113 = .ok (.dup, 1) := by decide +kernel
theorem dX10_init_114 : decode cX10_init 114 = .ok (.bipush 17, 2) := by decide +kernel
theorem dX10_init_116 : decode cX10_init 116 = .ok (.bipush 12, 2) := by decide +kernel
theorem dX10_init_118 : decode cX10_init 118 = .ok (.iastore, 1) := by decide +kernel
theorem dX10_init_119 : decode cX10_init 119 = .ok (.dup, 1) := by decide +kernel
theorem dX10_init_120 : decode cX10_init 120 = .ok (.bipush 18, 2) := by decide +kernel
theorem dX10_init_122 : decode cX10_init 122 = .ok (.iconst 0, 1) := by decide +kernel
theorem dX10_init_123 : decode cX10_init 123 = .ok (.iastore, 1) := by decide +kernel
theorem dX10_init_124 : decode cX10_init 124 = .ok (.dup, 1) := by decide +kernel
theorem dX10_init_125 : decode cX10_init 125 = .ok (.bipush 19, 2) := by decide +kernel
theorem dX10_init_127 : decode cX10_init 127 = .ok (.iconst 0, 1) := by decide +kernel
theorem dX10_init_128 : decode cX10_init 128 = .ok (.iastore, 1) := by decide +kernel
theorem dX10_init_129 : decode cX10_init 129 = .ok (.dup, 1) := by decide +kernel
theorem dX10_init_130 : decode cX10_init 130 = .ok (.bipush 20, 2) := by decide +kernel
theorem dX10_init_132 : decode cX10_init 132 = .ok (.iconst 0, 1) := by decide +kernel
theorem dX10_init_133 : decode cX10_init 133 = .ok (.iastore, 1) := by decide +kernel
theorem dX10_init_134 : decode cX10_init 134 = .ok (.dup, 1) := by decide +kernel
theorem dX10_init_135 : decode cX10_init 135 = .ok (.bipush 21, 2) := by decide +kernel
theorem dX10_init_137 : decode cX10_init 137 = .ok (.iconst 0, 1) := by decide +kernel
theorem dX10_init_138 : decode cX10_init 138 = .ok (.iastore, 1) := by decide +kernel
theorem dX10_init_139 : decode cX10_init 139 = .ok (.dup, 1) := by decide +kernel
theorem dX10_init_140 : decode cX10_init 140 = .ok (.bipush 22, 2) := by decide +kernel
theorem dX10_init_142 : decode cX10_init 142 = .ok (.iconst 0, 1) := by decide +kernel
theorem dX10_init_143 : decode cX10_init 143 = .ok (.iastore, 1) := by decide +kernel
theorem dX10_init_144 : decode cX10_init 144 = .ok (.dup, 1) := by decide +kernel
theorem dX10_init_145 : decode cX10_init 145 = .ok (.bipush 23, 2) := by decide +kernel
theorem dX10_init_147 : decode cX10_init 147 = .ok (.iconst 0, 1) := by decide +kernel
theorem dX10_init_148 : decode cX10_init 148 = .ok (.iastore, 1) := by decide +kernel
theorem dX10_init_149 : decode cX10_init 149 = .ok (.dup, 1) := by decide +kernel
theorem dX10_init_150 : decode cX10_init 150 = .ok (.bipush 24, 2) := by decide +kernel
theorem dX10_init_152 : decode cX10_init 152 = .ok (.iconst 0, 1) := by decide +kernel
theorem dX10_init_153 : decode cX10_init 153 = .ok (.iastore, 1) := by decide +kernel
theorem dX10_init_154 : decode cX10_init 154 = .ok (.dup, 1) := by decide +kernel
theorem dX10_init_155 : decode cX10_init 155 = .ok (.bipush 25, 2) := by decide +kernel
theorem dX10_init_157 : decode cX10_init 157 = .ok (.iconst 0, 1) := by decide +kernel
theorem dX10_init_158 : decode cX10_init 158 = .ok (.iastore, 1) := by decide +kernel
theorem dX10_init_159 : decode cX10_init 159 = .ok (.dup, 1) := by decide +kernel
theorem dX10_init_160 : decode cX10_init 160 = .ok (.bipush 26, 2) := by decide +kernel
theorem dX10_init_162 : decode cX10_init 162 = .ok (.iconst 0, 1) := by decide +kernel
theorem dX10_init_163 : decode cX10_init 163 = .ok (.iastore, 1) := by decide +kernel
theorem dX10_init_164 : decode cX10_init 164 = .ok (.dup, 1) := by decide +kernel
theorem dX10_init_165 : decode cX10_init 165 = .ok (.bipush 27, 2) := by decide +kernel
theorem dX10_init_167 : decode cX10_init 167 = .ok (.iconst 0, 1) := by decide +kernel
theorem dX10_init_168 : decode cX10_init 168 = .ok (.iastore, 1) := by decide +kernel
theorem dX10_init_169 : decode cX10_init 169 = .ok (.dup, 1) := by decide +kernel
theorem dX10_init_170 : decode cX10_init 170 = .ok (.bipush 28, 2) := by decide +kernel
theorem dX10_init_172 : decode cX10_init 172 = .ok (.iconst 0, 1) := by decide +kernel
theorem dX10_init_173 : decode cX10_init 173 = .ok (.iastore, 1) := by decide +kernel
theorem dX10_init_174 : decode cX10_init 174 = .ok (.dup, 1) := by decide +kernel
theorem dX10_init_175 : decode cX10_init 175 = .ok (.bipush 29, 2) := by decide +kernel
theorem dX10_init_177 : decode cX10_init 177 = .ok (.iconst 0, 1) := by decide +kernel
theorem dX10_init_178 : decode cX10_init 178 = .ok (.iastore, 1) := by decide +kernel
theorem dX10_init_179 : decode cX10_init 179 = .ok (.dup, 1) := by decide +kernel
theorem dX10_init_180 : decode cX10_init 180 = .ok (.bipush 30, 2) := by decide +kernel
theorem dX10_init_182 : decode cX10_init 182 = .ok (.iconst 0, 1) := by decide +kernel
theorem dX10_init_183 : decode cX10_init 183 = .ok (.iastore, 1) := by decide +kernel
theorem dX10_init_184 : decode cX10_init 184 = .ok (.dup, 1) := by decide +kernel
theorem dX10_init_185 : decode cX10_init 185 = .ok (.bipush 31, 2) := by decide +kernel
theorem dX10_init_187 : decode cX10_init 187 = .ok (.iconst 0, 1) := by decide +kernel
theorem dX10_init_188 : decode cX10_init 188 = .ok (.iastore, 1) := by decide +kernel
theorem dX10_init_189 : decode cX10_init 189 = .ok (.dup, 1) := by decide +kernel
theorem dX10_init_190 : decode cX10_init 190 = .ok (.bipush 32, 2) := by decide +kernel
theorem dX10_init_192 : decode cX10_init 192 = .ok (.iconst 0, 1) := by decide +kernel
theorem dX10_init_193 : decode cX10_init 193 = .ok (.iastore, 1) := by decide +kernel
theorem dX10_init_194 : decode cX10_init 194 = .ok (.dup, 1) := by decide +kernel
theorem dX10_init_195 : decode cX10_init 195 = .ok (.bipush 33, 2) := by decide +kernel
theorem dX10_init_197 : decode cX10_init 197 = .ok (.iconst 0, 1) := by decide +kernel
theorem dX10_init_198 : decode cX10_init 198 = .ok (.iastore, 1) := by decide +kernel
theorem dX10_init_199 : decode cX10_init 199 = .ok (.dup, 1) := by decide +kernel
theorem dX10_init_200 : decode cX10_init 200 = .ok (.bipush 34, 2) := by decide +kernel
theorem dX10_init_202 : decode cX10_init 202 = .ok (.iconst 0, 1) := by decide +kernel
theorem dX10_init_203 : decode cX10_init 203 = .ok (.iastore, 1) := by decide +kernel
theorem dX10_init_204 : decode cX10_init 204 = .ok (.dup, 1) := by decide +kernel
theorem dX10_init_205 : decode cX10_init 205 = .ok (.bipush 35, 2) := by decide +kernel
theorem dX10_init_207 : decode cX10_init 207 = .ok (.iconst 0, 1) := by decide +kernel
theorem dX10_init_208 : decode cX10_init 208 = .ok (.iastore, 1) := by decide +kernel
theorem dX10_init_209 : decode cX10_init 209 = .ok (.dup, 1) := by decide +kernel
theorem dX10_init_210 : decode cX10_init 210 = .ok (.bipush 36, 2) := by decide +kernel
theorem dX10_init_212 : decode cX10_init 212 = .ok (.iconst 0, 1) := by decide +kernel
theorem dX10_init_213 : decode cX10_init 213 = .ok (.iastore, 1) := by decide +kernel
theorem dX10_init_214 : decode cX10_init 214 = .ok (.dup, 1) := by decide +kernel
theorem dX10_init_215 : decode cX10_init 215 = .ok (.bipush 37, 2) := by decide +kernel
theorem dX10_init_217 : decode cX10_init 217 = .ok (.iconst 0, 1) := by decide +kernel
theorem dX10_init_218 : decode cX10_init 218 = .ok (.iastore, 1) := by decide +kernel
theorem dX10_init_219 : decode cX10_init 219 = .ok (.dup, 1) := by decide +kernel
theorem dX10_init_220 : decode cX10_init 220 = .ok (.bipush 38, 2) := by decide +kernel
theorem dX10_init_222 : decode cX10_init 222 = .ok (.iconst 0, 1) := by decide +kernel
theorem dX10_init_223 : decode cX10_init 223 = .ok (.iastore, 1) := by decide +kernel
theorem dX10_init_224 : decode cX10_init 224 = .ok (.dup, 1) := by decide +kernel
theorem dX10_init_225 : decode cX10_init 225 = .ok (.bipush 39, 2) := by decide +kernel
theorem dX10_init_227 : decode cX10_init 227 = .ok (.iconst 0, 1) := by decide +kernel
theorem dX10_init_228 : decode cX10_init 228 = .ok (.iastore, 1) := by decide +kernel
theorem dX10_init_229 : decode cX10_init 229 = .ok (.dup, 1) := by decide +kernel
theorem dX10_init_230 : decode cX10_init 230 = .ok (.bipush 40, 2) := by decide +kernel
theorem dX10_init_232 : decode cX10_init 232 = .ok (.iconst 0, 1) := by decide +kernel
theorem dX10_init_233 : decode cX10_init 233 = .ok (.iastore, 1) := by decide +kernel
theorem dX10_init_234 : decode cX10_init 234 = .ok (.dup, 1) := by decide +kernel
theorem dX10_init_235 : decode cX10_init 235 = .ok (.bipush 41, 2) := by decide +kernel
theorem dX10_init_237 : decode cX10_init 237 = .ok (.iconst 0, 1) := by decide +kernel
theorem dX10_init_238 : decode cX10_init 238 = .ok (.iastore, 1) := by decide +kernel
theorem dX10_init_239 : decode cX10_init 239 = .ok (.dup, 1) := by decide +kernel
theorem dX10_init_240 : decode cX10_init 240 = .ok (.bipush 42, 2) := by decide +kernel
theorem dX10_init_242 : decode cX10_init 242 = .ok (.iconst 0, 1) := by decide +kernel
theorem dX10_init_243 : decode cX10_init 243 = .ok (.iastore, 1) := by decide +kernel
theorem dX10_init_244 : decode cX10_init 244 = .ok (.dup, 1) := by decide +kernel
theorem dX10_init_245 : decode cX10_init 245 = .ok (.bipush 43, 2) := by decide +kernel
theorem dX10_init_247 : decode cX10_init 247 = .ok (.iconst 0, 1) := by decide +kernel
theorem dX10_init_248 : decode cX10_init 248 = .ok (.iastore, 1) := by decide +kernel
theorem dX10_init_249 : decode cX10_init 249 = .ok (.dup, 1) := by decide +kernel
theorem dX10_init_250 : decode cX10_init 250 = .ok (.bipush 44, 2) := by decide +kernel
theorem dX10_init_252 : decode cX10_init 252 = .ok (.iconst 0, 1) := by decide +kernel
theorem dX10_init_253 : decode cX10_init 253 = .ok (.iastore, 1) := by decide +kernel
theorem dX10_init_254 : decode cX10_init 254 = .ok (.dup, 1) := by decide +kernel
theorem dX10_init_255 : decode cX10_init 255 = .ok (.bipush 45, 2) := by decide +kernel
theorem dX10_init_257 : decode cX10_init 257 = .ok (.iconst 0, 1) := by decide +kernel
theorem dX10_init_258 : decode cX10_init 258 = .ok (.iastore, 1) := by decide +kernel
theorem dX10_init_259 : decode cX10_init 259 = .ok (.dup, 1) := by decide +kernel
theorem dX10_init_260 : decode cX10_init 260 = .ok (.bipush 46, 2) := by decide +kernel
theorem dX10_init_262 : decode cX10_init 262 = .ok (.iconst 0, 1) := by decide +kernel
theorem dX10_init_263 : decode cX10_init 263 = .ok (.iastore, 1) := by decide +kernel
theorem dX10_init_264 : decode cX10_init 264 = .ok (.dup, 1) := by decide +kernel
theorem dX10_init_265 : decode cX10_init 265 = .ok (.bipush 47, 2) := by decide +kernel
theorem dX10_init_267 : decode cX10_init 267 = .ok (.iconst 0, 1) := by decide +kernel
theorem dX10_init_268 : decode cX10_init 268 = .ok (.iastore, 1) := by decide +kernel
theorem dX10_init_269 : decode cX10_init 269 = .ok (.putfield 22, 3) := by decide +kernel
theorem dX10_init_272 : decode cX10_init 272 = .ok (.aload_n 0, 1) := by decide +kernel
theorem dX10_init_273 : decode cX10_init 273 = .ok (.bipush 6, 2) := by decide +kernel
theorem dX10_init_275 : decode cX10_init 275 = .ok (.putfield 26, 3) := by decide +kernel
theorem dX10_init_278 : decode cX10_init 278 = .ok (.aload_n 0, 1) := by decide +kernel
theorem dX10_init_279 : decode cX10_init 279 = .ok (.bipush 40, 2) := by decide +kernel
theorem dX10_init_281 : decode cX10_init 281 = .ok (.newarray .int, 2) := by decide +kernel
theorem dX10_init_283 : decode cX10_init 283 = .ok (.dup, 1) := by decide +kernel
theorem dX10_init_284 : decode cX10_init 284 = .ok (.iconst 0, 1) := by decide +kernel
theorem dX10_init_285 : decode cX10_init 285 = .ok (.iconst 3, 1) := by decide +kernel
theorem dX10_init_286 : decode cX10_init 286 = .ok (.iastore, 1) := by decide +kernel
theorem dX10_init_287 : decode cX10_init 287 = .ok (.dup, 1) := by decide +kernel
theorem dX10_init_288 : decode cX10_init 288 = .ok (.iconst 1, 1) := by decide +kernel
theorem dX10_init_289 : decode cX10_init 289 = .ok (.bipush 10, 2) := by decide +kernel
theorem dX10_init_291 : decode cX10_init 291 = .ok (.iastore, 1) := by decide +kernel
theorem dX10_init_292 : decode cX10_init 292 = .ok (.dup, 1) := by decide +kernel
theorem dX10_init_293 : decode cX10_init 293 = .ok (.iconst 2, 1) := by decide +kernel
theorem dX10_init_294 : decode cX10_init 294 = .ok (.iconst 5, 1) := by decide +kernel
theorem dX10_init_295 : decode cX10_init 295 = .ok (.iastore, 1) := by decide +kernel
theorem dX10_init_296 : decode cX10_init 296 = .ok (.dup, 1) := by decide +kernel
theorem dX10_init_297 : decode cX10_init 297 = .ok (.iconst 3, 1) := by decide +kernel
theorem dX10_init_298 : decode cX10_init 298 = .ok (.iconst 0, 1) := by decide +kernel
theorem dX10_init_299 : decode cX10_init 299 = .ok (.iastore, 1) := by decide +kernel
theorem dX10_init_300 : decode cX10_init 300 = .ok (.dup, 1) := by decide +kernel
theorem dX10_init_301 : decode cX10_init 301 = .ok (.iconst 4, 1) := by decide +kernel
theorem dX10_init_302 : decode cX10_init 302 = .ok (.bipush 9, 2) := by decide +kernel
theorem dX10_init_304 : decode cX10_init 304 = .ok (.iastore, 1) := by decide +kernel
theorem dX10_init_305 : decode cX10_init 305 = .ok (.dup, 1) := by decide +kernel
theorem dX10_init_306 : decode cX10_init 306 = .ok (.iconst 5, 1) := by decide +kernel
theorem dX10_init_307 : decode cX10_init 307 = .ok (.iconst 3, 1) := by decide +kernel
theorem dX10_init_308 : decode cX10_init 308 = .ok (.iastore, 1) := by decide +kernel
theorem dX10_init_309 : decode cX10_init 309 = .ok (.dup, 1) := by decide +kernel
theorem dX10_init_310 : decode cX10_init 310 = .ok (.bipush 6, 2) := by decide +kernel
theorem dX10_init_312 : decode cX10_init 312 = .ok (.iconst 0, 1) := by decide +kernel
theorem dX10_init_313 : decode cX10_init 313 = .ok (.iastore, 1) := by decide +kernel
theorem dX10_init_314 : decode cX10_init 314 = .ok (.dup, 1) := by decide +kernel
theorem dX10_init_315 : decode cX10_init 315 = .ok (.bipush 7, 2) := by decide +kernel
theorem dX10_init_317 : decode cX10_init 317 = .ok (.iconst 0, 1) := by decide +kernel
theorem dX10_init_318 : decode cX10_init 318 = .ok (.iastore, 1) := by decide +kernel
theorem dX10_init_319 : decode cX10_init 319 = .ok (.dup, 1) := by decide +kernel
theorem dX10_init_320 : decode cX10_init 320 = .ok (.bipush 8, 2) := by decide +kernel
theorem dX10_init_322 : decode cX10_init 322 = .ok (.iconst 0, 1) := by decide +kernel
theorem dX10_init_323 : decode cX10_init 323 = .ok (.iastore, 1) := by decide +kernel
theorem dX10_init_324 : decode cX10_init 324 = .ok (.dup, 1) := by decide +kernel
theorem dX10_init_325 : decode cX10_init 325 = .ok (.bipush 9, 2) := by decide +kernel
theorem dX10_init_327 : decode cX10_init 327 = .ok (.iconst 0, 1) := by decide +kernel
theorem dX10_init_328 : decode cX10_init 328 = .ok (.iastore, 1) := by decide +kernel
theorem dX10_init_329 : decode cX10_init 329 = .ok (.dup, 1) := by decide +kernel
theorem dX10_init_330 : decode cX10_init 330 = .ok (.bipush 10, 2) := by decide +kernel
theorem dX10_init_332 : decode cX10_init 332 = .ok (.iconst 0, 1) := by decide +kernel
theorem dX10_init_333 : decode cX10_init 333 = .ok (.iastore, 1) := by decide +kernel
theorem dX10_init_334 : decode cX10_init 334 = .ok (.dup, 1) := by decide +kernel
theorem dX10_init_335 : decode cX10_init 335 = .ok (.bipush 11, 2) := by decide +kernel
theorem dX10_init_337 : decode cX10_init 337 = .ok (.iconst 0, 1) := by decide +kernel
theorem dX10_init_338 : decode cX10_init 338 = .ok (.iastore, 1) := by decide +kernel
theorem dX10_init_339 : decode cX10_init 339 = .ok (.dup, 1) := by decide +kernel
theorem dX10_init_340 : decode cX10_init 340 = .ok (.bipush 12, 2) := by decide +kernel
theorem dX10_init_342 : decode cX10_init 342 = .ok (.iconst 0, 1) := by decide +kernel
theorem dX10_init_343 : decode cX10_init 343 = .ok (.iastore, 1) := by decide +kernel
theorem dX10_init_344 : decode cX10_init 344 = .ok (.dup, 1) := by decide +kernel
theorem dX10_init_345 : decode cX10_init 345 = .ok (.bipush 13, 2) := by decide +kernel
theorem dX10_init_347 : decode cX10_init 347 = .ok (.iconst 0, 1) := by decide +kernel
theorem dX10_init_348 : decode cX10_init 348 = .ok (.iastore, 1) := by decide +kernel
theorem dX10_init_349 : decode cX10_init 349 = .ok (.dup, 1) := by decide +kernel
theorem dX10_init_350 : decode cX10_init 350 = .ok (.bipush 14, 2) := by decide +kernel
theorem dX10_init_352 : decode cX10_init 352 = .ok (.iconst 0, 1) := by decide +kernel
theorem dX10_init_353 : decode cX10_init 353 = .ok (.iastore, 1) := by decide +kernel
theorem dX10_init_354 : decode cX10_init 354 = .ok (.dup, 1) := by decide +kernel
theorem dX10_init_355 : decode cX10_init 355 = .ok (.bipush 15, 2) := by decide +kernel
theorem dX10_init_357 : decode cX10_init 357 = .ok (.iconst 0, 1) := by decide +kernel
theorem dX10_init_358 : decode cX10_init 358 = .ok (.iastore, 1) := by decide +kernel
theorem dX10_init_359 : decode cX10_init 359 = .ok (.dup, 1) := by decide +kernel
theorem dX10_init_360 : decode cX10_init 360 = .ok (.bipush 16, 2) := by decide +kernel
theorem dX10_init_362 : decode cX10_init 362 = .ok (.iconst 0, 1) := by decide +kernel
theorem dX10_init_363 : decode cX10_init 363 = .ok (.iastore, 1) := by decide +kernel
theorem dX10_init_364 : decode cX10_init 364 = .ok (.dup, 1) := by decide +kernel
theorem dX10_init_365 : decode cX10_init 365 = .ok (.bipush 17, 2) := by decide +kernel
theorem dX10_init_367 : decode cX10_init 367 = .ok (.iconst 0, 1) := by decide +kernel
theorem dX10_init_368 : decode cX10_init 368 = .ok (.iastore, 1) := by decide +kernel
theorem dX10_init_369 : decode cX10_init 369 = .ok (.dup, 1) := by decide +kernel
theorem dX10_init_370 : decode cX10_init 370 = .ok (.bipush 18, 2) := by decide +kernel
theorem dX10_init_372 : decode cX10_init 372 = .ok (.iconst 0, 1) := by decide +kernel
theorem dX10_init_373 : decode cX10_init 373 = .ok (.iastore, 1) := by decide +kernel
theorem dX10_init_374 : decode cX10_init 374 = .ok (.dup, 1) := by decide +kernel
theorem dX10_init_375 : decode cX10_init 375 = .ok (.bipush 19, 2) := by decide +kernel
theorem dX10_init_377 : decode cX10_init 377 = .ok (.iconst 0, 1) := by decide +kernel
theorem dX10_init_378 : decode cX10_init 378 = .ok (.iastore, 1) := by decide +kernel
theorem dX10_init_379 : decode cX10_init 379 = .ok (.dup, 1) := by decide +kernel
theorem dX10_init_380 : decode cX10_init 380 = .ok (.bipush 20, 2) := by decide +kernel
theorem dX10_init_382 : decode cX10_init 382 = .ok (.iconst 0, 1) := by decide +kernel
theorem dX10_init_383 : decode cX10_init 383 = .ok (.iastore, 1) := by decide +kernel
theorem dX10_init_384 : decode cX10_init 384 = .ok (.dup, 1) := by decide +kernel
theorem dX10_init_385 : decode cX10_init 385 = .ok (.bipush 21, 2) := by decide +kernel
theorem dX10_init_387 : decode cX10_init 387 = .ok (.iconst 0, 1) := by decide +kernel
theorem dX10_init_388 : decode cX10_init 388 = .ok (.iastore, 1) := by decide +kernel
theorem dX10_init_389 : decode cX10_init 389 = .ok (.dup, 1) := by decide +kernel
theorem dX10_init_390 : decode cX10_init 390 = .ok (.bipush 22, 2) := by decide +kernel
theorem dX10_init_392 : decode cX10_init 392 = .ok (.iconst 0, 1) := by decide +kernel
theorem dX10_init_393 : decode cX10_init 393 = .ok (.iastore, 1) := by decide +kernel
theorem dX10_init_394 : decode cX10_init 394 = .ok (.dup, 1) := by decide +kernel
theorem dX10_init_395 : decode cX10_init 395 = .ok (.bipush 23, 2) := by decide +kernel
theorem dX10_init_397 : decode cX10_init 397 = .ok (.iconst 0, 1) := by decide +kernel
theorem dX10_init_398 : decode cX10_init 398 = .ok (.iastore, 1) := by decide +kernel
theorem dX10_init_399 : decode cX10_init 399 = .ok (.dup, 1) := by decide +kernel
theorem dX10_init_400 : decode cX10_init 400 = .ok (.bipush 24, 2) := by decide +kernel
theorem dX10_init_402 : decode cX10_init 402 = .ok (.iconst 0, 1) := by decide +kernel
theorem dX10_init_403 : decode cX10_init 403 = .ok (.iastore, 1) := by decide +kernel
theorem dX10_init_404 : decode cX10_init 404 = .ok (.dup, 1) := by decide +kernel
theorem dX10_init_405 : decode cX10_init 405 = .ok (.bipush 25, 2) := by decide +kernel
theorem dX10_init_407 : decode cX10_init 407 = .ok (.iconst 0, 1) := by decide +kernel
theorem dX10_init_408 : decode cX10_init 408 = .ok (.iastore, 1) := by decide +kernel
theorem dX10_init_409 : decode cX10_init 409 = .ok (.dup, 1) := by decide +kernel
theorem dX10_init_410 : decode cX10_init 410 = .ok (.bipush 26, 2) := by decide +kernel
theorem dX10_init_412 : decode cX10_init 412 = .ok (.iconst 0, 1) := by decide +kernel
theorem dX10_init_413 : decode cX10_init 413 = .ok (.iastore, 1) := by decide +kernel
theorem dX10_init_414 : decode cX10_init 414 = .ok (.dup, 1) := by decide +kernel
theorem dX10_init_415 : decode cX10_init 415 = .ok (.bipush 27, 2) := by decide +kernel
theorem dX10_init_417 : decode cX10_init 417 = .ok (.iconst 0, 1) := by decide +kernel
theorem dX10_init_418 : decode cX10_init 418 = .ok (.iastore, 1) := by decide +kernel
theorem dX10_init_419 : decode cX10_init 419 = .ok (.dup, 1) := by decide +kernel
theorem dX10_init_420 : decode cX10_init 420 = .ok (.bipush 28, 2) := by decide +kernel
theorem dX10_init_422 : decode cX10_init 422 = .ok (.iconst 0, 1) := by decide +kernel
theorem dX10_init_423 : decode cX10_init 423 = .ok (.iastore, 1) := by decide +kernel
theorem dX10_init_424 : decode cX10_init 424 = .ok (.dup, 1) := by decide +kernel
theorem dX10_init_425 : decode cX10_init 425 = .ok (.bipush 29, 2) := by decide +kernel
theorem dX10_init_427 : decode cX10_init 427 = .ok (.iconst 0, 1) := by decide +kernel
theorem dX10_init_428 : decode cX10_init 428 = .ok (.iastore, 1) := by decide +kernel
theorem dX10_init_429 : decode cX10_init 429 = .ok (.dup, 1) := by decide +kernel
theorem dX10_init_430 : decode cX10_init 430 = .ok (.bipush 30, 2) := by decide +kernel
theorem dX10_init_432 : decode cX10_init 432 = .ok (.iconst 0, 1) := by decide +kernel
theorem dX10_init_433 : decode cX10_init 433 = .ok (.iastore, 1) := by decide +kernel
theorem dX10_init_434 : decode cX10_init 434 = .ok (.dup, 1) := by decide +kernel
theorem dX10_init_435 : decode cX10_init 435 = .ok (.bipush 31, 2) := by decide +kernel
theorem dX10_init_437 : decode cX10_init 437 = .ok (.iconst 0, 1) := by decide +kernel
theorem dX10_init_438 : decode cX10_init 438 = .ok (.iastore, 1) := by decide +kernel
theorem dX10_init_439 : decode cX10_init 439 = .ok (.dup, 1) := by decide +kernel
theorem dX10_init_440 : decode cX10_init 440 = .ok (.bipush 32, 2) := by decide +kernel
theorem dX10_init_442 : decode cX10_init 442 = .ok (.iconst 0, 1) := by decide +kernel
theorem dX10_init_443 : decode cX10_init 443 = .ok (.iastore, 1) := by decide +kernel
theorem dX10_init_444 : decode cX10_init 444 = .ok (.dup, 1) := by decide +kernel
theorem dX10_init_445 : decode cX10_init 445 = .ok (.bipush 33, 2) := by decide +kernel
theorem dX10_init_447 : decode cX10_init 447 = .ok (.iconst 0, 1) := by decide +kernel
theorem dX10_init_448 : decode cX10_init 448 = .ok (.iastore, 1) := by decide +kernel
theorem dX10_init_449 : decode cX10_init 449 = .ok (.dup, 1) := by decide +kernel
theorem dX10_init_450 : decode cX10_init 450 = .ok (.bipush 34, 2) := by decide +kernel
theorem dX10_init_452 : decode cX10_init 452 = .ok (.iconst 0, 1) := by decide +kernel
theorem dX10_init_453 : decode cX10_init 453 = .ok (.iastore, 1) := by decide +kernel
theorem dX10_init_454 : decode cX10_init 454 = .ok (.dup, 1) := by decide +kernel
theorem dX10_init_455 : decode cX10_init 455 = .ok (.bipush 35, 2) := by decide +kernel
theorem dX10_init_457 : decode cX10_init 457 = .ok (.iconst 0, 1) := by decide +kernel
theorem dX10_init_458 : decode cX10_init 458 = .ok (.iastore, 1) := by decide +kernel
theorem dX10_init_459 : decode cX10_init 459 = .ok (.dup, 1) := by decide +kernel
theorem dX10_init_460 : decode cX10_init 460 = .ok (.bipush 36, 2) := by decide +kernel
theorem dX10_init_462 : decode cX10_init 462 = .ok (.iconst 0, 1) := by decide +kernel
theorem dX10_init_463 : decode cX10_init 463 = .ok (.iastore, 1) := by decide +kernel
theorem dX10_init_464 : decode cX10_init 464 = .ok (.dup, 1) := by decide +kernel
theorem dX10_init_465 : decode cX10_init 465 = .ok (.bipush 37, 2) := by decide +kernel
theorem dX10_init_467 : decode cX10_init 467 = .ok (.iconst 0, 1) := by decide +kernel
theorem dX10_init_468 : decode cX10_init 468 = .ok (.iastore, 1) := by decide +kernel
theorem dX10_init_469 : decode cX10_init 469 = .ok (.dup, 1) := by decide +kernel
theorem dX10_init_470 : decode cX10_init 470 = .ok (.bipush 38, 2) := by decide +kernel
theorem dX10_init_472 : decode cX10_init 472 = .ok (.iconst 0, 1) := by decide +kernel
theorem dX10_init_473 : decode cX10_init 473 = .ok (.iastore, 1) := by decide +kernel
theorem dX10_init_474 : decode cX10_init 474 = .ok (.dup, 1) := by decide +kernel
theorem dX10_init_475 : decode cX10_init 475 = .ok (.bipush 39, 2) := by decide +kernel
theorem dX10_init_477 : decode cX10_init 477 = .ok (.iconst 0, 1) := by decide +kernel
theorem dX10_init_478 : decode cX10_init 478 = .ok (.iastore, 1) := by decide +kernel
theorem dX10_init_479 : decode cX10_init 479 = .ok (.putfield 29, 3) := by decide +kernel
theorem dX10_init_482 : decode cX10_init 482 = .ok (.aload_n 0, 1) := by decide +kernel
theorem dX10_init_483 : decode cX10_init 483 = .ok (.bipush 40, 2) := by decide +kernel
theorem dX10_init_485 : decode cX10_init 485 = .ok (.newarray .int, 2) := by decide +kernel
theorem dX10_init_487 : decode cX10_init 487 = .ok (.dup, 1) := by decide +kernel
theorem dX10_init_488 : decode cX10_init 488 = .ok (.iconst 0, 1) := by decide +kernel
theorem dX10_init_489 : decode cX10_init 489 = .ok (.iconst 3, 1) := by decide +kernel
theorem dX10_init_490 : decode cX10_init 490 = .ok (.iastore, 1) := by decide +kernel
theorem dX10_init_491 : decode cX10_init 491 = .ok (.dup, 1) := by decide +kernel
theorem dX10_init_492 : decode cX10_init 492 = .ok (.iconst 1, 1) := by decide +kernel
theorem dX10_init_493 : decode cX10_init 493 = .ok (.bipush 10, 2) := by decide +kernel
theorem dX10_init_495 : decode cX10_init 495 = .ok (.iastore, 1) := by decide +kernel
theorem dX10_init_496 : decode cX10_init 496 = .ok (.dup, 1) := by decide +kernel
theorem dX10_init_497 : decode cX10_init 497 = .ok (.iconst 2, 1) := by decide +kernel
theorem dX10_init_498 : decode cX10_init 498 = .ok (.bipush 6, 2) := by decide +kernel
theorem dX10_init_500 : decode cX10_init 500 = .ok (.iastore, 1) := by decide +kernel
theorem dX10_init_501 : decode cX10_init 501 = .ok (.dup, 1) := by decide +kernel
theorem dX10_init_502 : decode cX10_init 502 = .ok (.iconst 3, 1) := by decide +kernel
theorem dX10_init_503 : decode cX10_init 503 = .ok (.bipush 15, 2) := by decide +kernel
theorem dX10_init_505 : decode cX10_init 505 = .ok (.iastore, 1) := by decide +kernel
theorem dX10_init_506 : decode cX10_init 506 = .ok (.dup, 1) := by decide +kernel
theorem dX10_init_507 : decode cX10_init 507 = .ok (.iconst 4, 1) := by decide +kernel
theorem dX10_init_508 : decode cX10_init 508 = .ok (.iconst 4, 1) := by decide +kernel
theorem dX10_init_509 : decode cX10_init 509 = .ok (.iastore, 1) := by decide +kernel
theorem dX10_init_510 : decode cX10_init 510 = .ok (.dup, 1) := by decide +kernel
theorem dX10_init_511 : decode cX10_init 511 = .ok (.iconst 5, 1) := by decide +kernel
theorem dX10_init_512 : decode cX10_init 512 = .ok (.iconst 3, 1) := by decide +kernel
theorem dX10_init_513 : decode cX10_init 513 = .ok (.iastore, 1) := by decide +kernel
theorem dX10_init_514 : decode cX10_init 514 = .ok (.dup, 1) := by decide +kernel
theorem dX10_init_515 : decode cX10_init 515 = .ok (.bipush 6, 2) := by decide +kernel
theorem dX10_init_517 : decode cX10_init 517 = .ok (.iconst 0, 1) := by decide +kernel
theorem dX10_init_518 : decode cX10_init 518 = .ok (.iastore, 1) := by decide +kernel
theorem dX10_init_519 : decode cX10_init 519 = .ok (.dup, 1) := by decide +kernel
theorem dX10_init_520 : decode cX10_init 520 = .ok (.bipush 7, 2) := by decide +kernel
theorem dX10_init_522 : decode cX10_init 522 = .ok (.iconst 0, 1) := by decide +kernel
theorem dX10_init_523 : decode cX10_init 523 = .ok (.iastore, 1) := by decide +kernel
theorem dX10_init_524 : decode cX10_init 524 = .ok (.dup, 1) := by decide +kernel
theorem dX10_init_525 : decode cX10_init 525 = .ok (.bipush 8, 2) := by decide +kernel
theorem dX10_init_527 : decode cX10_init 527 = .ok (.iconst 0, 1) := by decide +kernel
theorem dX10_init_528 : decode cX10_init 528 = .ok (.iastore, 1) := by decide +kernel
theorem dX10_init_529 : decode cX10_init 529 = .ok (.dup, 1) := by decide +kernel
theorem dX10_init_530 : decode cX10_init 530 = .ok (.bipush 9, 2) := by decide +kernel
theorem dX10_init_532 : decode cX10_init 532 = .ok (.iconst 0, 1) := by decide +kernel
theorem dX10_init_533 : decode cX10_init 533 = .ok (.iastore, 1) := by decide +kernel
theorem dX10_init_534 : decode cX10_init 534 = .ok (.dup, 1) := by decide +kernel
theorem dX10_init_535 : decode cX10_init 535 = .ok (.bipush 10, 2) := by decide +kernel
theorem dX10_init_537 : decode cX10_init 537 = .ok (.iconst 0, 1) := by decide +kernel
theorem dX10_init_538 : decode cX10_init 538 = .ok (.iastore, 1) := by decide +kernel
theorem dX10_init_539 : decode cX10_init 539 = .ok (.dup, 1) := by decide +kernel
theorem dX10_init_540 : decode cX10_init 540 = .ok (.bipush 11, 2) := by decide +kernel
theorem dX10_init_542 : decode cX10_init 542 = .ok (.iconst 0, 1) := by decide +kernel
theorem dX10_init_543 : decode cX10_init 543 = .ok (.iastore, 1) := by decide +kernel
theorem dX10_init_544 : decode cX10_init 544 = .ok (.dup, 1) := by decide +kernel
theorem dX10_init_545 : decode cX10_init 545 = .ok (.bipush 12, 2) := by decide +kernel
theorem dX10_init_547 : decode cX10_init 547 = .ok (.iconst 0, 1) := by decide +kernel
theorem dX10_init_548 : decode cX10_init 548 = .ok (.iastore, 1) := by decide +kernel
theorem dX10_init_549 : decode cX10_init 549 = .ok (.dup, 1) := by decide +kernel
theorem dX10_init_550 : decode cX10_init 550 = .ok (.bipush 13, 2) := by decide +kernel
theorem dX10_init_552 : decode cX10_init 552 = .ok (.iconst 0, 1) := by decide +kernel
theorem dX10_init_553 : decode cX10_init 553 = .ok (.iastore, 1) := by decide +kernel
theorem dX10_init_554 : decode cX10_init 554 = .ok (.dup, 1) := by decide +kernel
theorem dX10_init_555 : decode cX10_init 555 = .ok (.bipush 14, 2) := by decide +kernel
theorem dX10_init_557 : decode cX10_init 557 = .ok (.iconst 0, 1) := by decide +kernel
theorem dX10_init_558 : decode cX10_init 558 = .ok (.iastore, 1) := by decide +kernel
theorem dX10_init_559 : decode cX10_init 559 = .ok (.dup, 1) := by decide +kernel
theorem dX10_init_560 : decode cX10_init 560 = .ok (.bipush 15, 2) := by decide +kernel
theorem dX10_init_562 : decode cX10_init 562 = .ok (.iconst 0, 1) := by decide +kernel
theorem dX10_init_563 : decode cX10_init 563 = .ok (.iastore, 1) := by decide +kernel
theorem dX10_init_564 : decode cX10_init 564 = .ok (.dup, 1) := by decide +kernel
theorem dX10_init_565 : decode cX10_init 565 = .ok (.bipush 16, 2) := by decide +kernel
theorem dX10_init_567 : decode cX10_init 567 = .ok (.iconst 0, 1) := by decide +kernel
theorem dX10_init_568 : decode cX10_init 568 = .ok (.iastore, 1) := by decide +kernel
theorem dX10_init_569 : decode cX10_init 569 = .ok (.dup, 1) := by decide +kernel
theorem dX10_init_570 : decode cX10_init 570 = .ok (.bipush 17, 2) := by decide +kernel
theorem dX10_init_572 : decode cX10_init 572 = .ok (.iconst 0, 1) := by decide +kernel
theorem dX10_init_573 : decode cX10_init 573 = .ok (.iastore, 1) := by decide +kernel
theorem dX10_init_574 : decode cX10_init 574 = .ok (.dup, 1) := by decide +kernel
theorem dX10_init_575 : decode cX10_init 575 = .ok (.bipush 18, 2) := by decide +kernel
theorem dX10_init_577 : decode cX10_init 577 = .ok (.iconst 0, 1) := by decide +kernel
theorem dX10_init_578 : decode cX10_init 578 = .ok (.iastore, 1) := by decide +kernel
theorem dX10_init_579 : decode cX10_init 579 = .ok (.dup, 1) := by decide +kernel
theorem dX10_init_580 : decode cX10_init 580 = .ok (.bipush 19, 2) := by decide +kernel
theorem dX10_init_582 : decode cX10_init 582 = .ok (.iconst 0, 1) := by decide +kernel
theorem dX10_init_583 : decode cX10_init 583 = .ok (.iastore, 1) := by decide +kernel
theorem dX10_init_584 : decode cX10_init 584 = .ok (.dup, 1) := by decide +kernel
theorem dX10_init_585 : decode cX10_init 585 = .ok (.bipush 20, 2) := by decide +kernel
theorem dX10_init_587 : decode cX10_init 587 = .ok (.iconst 0, 1) := by decide +kernel
theorem dX10_init_588 : decode cX10_init 588 = .ok (.iastore, 1) := by decide +kernel
theorem dX10_init_589 : decode cX10_init 589 = .ok (.dup, 1) := by decide +kernel
theorem dX10_init_590 : decode cX10_init 590 = .ok (.bipush 21, 2) := by decide +kernel
theorem dX10_init_592 : decode cX10_init 592 = .ok (.iconst 0, 1) := by decide +kernel
theorem dX10_init_593 : decode cX10_init 593 = .ok (.iastore, 1) := by decide +kernel
theorem dX10_init_594 : decode cX10_init 594 = .ok (.dup, 1) := by decide +kernel
theorem dX10_init_595 : decode cX10_init 595 = .ok (.bipush 22, 2) := by decide +kernel
theorem dX10_init_597 : decode cX10_init 597 = .ok (.iconst 0, 1) := by decide +kernel
theorem dX10_init_598 : decode cX10_init 598 = .ok (.iastore, 1) := by decide +kernel
theorem dX10_init_599 : decode cX10_init 599 = .ok (.dup, 1) := by decide +kernel
theorem dX10_init_600 : decode cX10_init 600 = .ok (.bipush 23, 2) := by decide +kernel
theorem dX10_init_602 : decode cX10_init 602 = .ok (.iconst 0, 1) := by decide +kernel
theorem dX10_init_603 : decode cX10_init 603 = .ok (.iastore, 1) := by decide +kernel
theorem dX10_init_604 : decode cX10_init 604 = .ok (.dup, 1) := by decide +kernel
theorem dX10_init_605 : decode cX10_init 605 = .ok (.bipush 24, 2) := by decide +kernel
theorem dX10_init_607 : decode cX10_init 607 = .ok (.iconst 0, 1) := by decide +kernel
theorem dX10_init_608 : decode cX10_init 608 = .ok (.iastore, 1) := by decide +kernel
theorem dX10_init_609 : decode cX10_init 609 = .ok (.dup, 1) := by decide +kernel
theorem dX10_init_610 : decode cX10_init 610 = .ok (.bipush 25, 2) := by decide +kernel
theorem dX10_init_612 : decode cX10_init 612 = .ok (.iconst 0, 1) := by decide +kernel
theorem dX10_init_613 : decode cX10_init 613 = .ok (.iastore, 1) := by decide +kernel
theorem dX10_init_614 : decode cX10_init 614 = .ok (.dup, 1) := by decide +kernel
theorem dX10_init_615 : decode cX10_init 615 = .ok (.bipush 26, 2) := by decide +kernel
theorem dX10_init_617 : decode cX10_init 617 = .ok (.iconst 0, 1) := by decide +kernel
theorem dX10_init_618 : decode cX10_init 618 = .ok (.iastore, 1) := by decide +kernel
theorem dX10_init_619 : decode cX10_init 619 = .ok (.dup, 1) := by decide +kernel
theorem dX10_init_620 : decode cX10_init 620 = .ok (.bipush 27, 2) := by decide +kernel
theorem dX10_init_622 : decode cX10_init 622 = .ok (.iconst 0, 1) := by decide +kernel
theorem dX10_init_623 : decode cX10_init 623 = .ok (.iastore, 1) := by decide +kernel
theorem dX10_init_624 : decode cX10_init 624 = .ok (.dup, 1) := by decide +kernel
theorem dX10_init_625 : decode cX10_init 625 = .ok (.bipush 28, 2) := by decide +kernel
theorem dX10_init_627 : decode cX10_init 627 = .ok (.iconst 0, 1) := by decide +kernel
theorem dX10_init_628 : decode cX10_init 628 = .ok (.iastore, 1) := by decide +kernel
theorem dX10_init_629 : decode cX10_init 629 = .ok (.dup, 1) := by decide +kernel
theorem dX10_init_630 : decode cX10_init 630 = .ok (.bipush 29, 2) := by decide +kernel
theorem dX10_init_632 : decode cX10_init 632 = .ok (.iconst 0, 1) := by decide +kernel
theorem dX10_init_633 : decode cX10_init 633 = .ok (.iastore, 1) := by decide +kernel
theorem dX10_init_634 : decode cX10_init 634 = .ok (.dup, 1) := by decide +kernel
theorem dX10_init_635 : decode cX10_init 635 = .ok (.bipush 30, 2) := by decide +kernel
theorem dX10_init_637 : decode cX10_init 637 = .ok (.iconst 0, 1) := by decide +kernel
theorem dX10_init_638 : decode cX10_init 638 = .ok (.iastore, 1) := by decide +kernel
theorem dX10_init_639 : decode cX10_init 639 = .ok (.dup, 1) := by decide +kernel
theorem dX10_init_640 : decode cX10_init 640 = .ok (.bipush 31, 2) := by decide +kernel
theorem dX10_init_642 : decode cX10_init 642 = .ok (.iconst 0, 1) := by decide +kernel
theorem dX10_init_643 : decode cX10_init 643 = .ok (.iastore, 1) := by decide +kernel
theorem dX10_init_644 : decode cX10_init 644 = .ok (.dup, 1) := by decide +kernel
theorem dX10_init_645 : decode cX10_init 645 = .ok (.bipush 32, 2) := by decide +kernel
theorem dX10_init_647 : decode cX10_init 647 = .ok (.iconst 0, 1) := by decide +kernel
theorem dX10_init_648 : decode cX10_init 648 = .ok (.iastore, 1) := by decide +kernel
theorem dX10_init_649 : decode cX10_init 649 = .ok (.dup, 1) := by decide +kernel
theorem dX10_init_650 : decode cX10_init 650 = .ok (.bipush 33, 2) := by decide +kernel
theorem dX10_init_652 : decode cX10_init 652 = .ok (.iconst 0, 1) := by decide +kernel
theorem dX10_init_653 : decode cX10_init 653 = .ok (.iastore, 1) := by decide +kernel
theorem dX10_init_654 : decode cX10_init 654 = .ok (.dup, 1) := by decide +kernel
theorem dX10_init_655 : decode cX10_init 655 = .ok (.bipush 34, 2) := by decide +kernel
theorem dX10_init_657 : decode cX10_init 657 = .ok (.iconst 0, 1) := by decide +kernel
theorem dX10_init_658 : decode cX10_init 658 = .ok (.iastore, 1) := by decide +kernel
theorem dX10_init_659 : decode cX10_init 659 = .ok (.dup, 1) := by decide +kernel
theorem dX10_init_660 : decode cX10_init 660 = .ok (.bipush 35, 2) := by decide +kernel
theorem dX10_init_662 : decode cX10_init 662 = .ok (.iconst 0, 1) := by decide +kernel
theorem dX10_init_663 : decode cX10_init 663 = .ok (.iastore, 1) := by decide +kernel
theorem dX10_init_664 : decode cX10_init 664 = .ok (.dup, 1) := by decide +kernel
theorem dX10_init_665 : decode cX10_init 665 = .ok (.bipush 36, 2) := by decide +kernel
theorem dX10_init_667 : decode cX10_init 667 = .ok (.iconst 0, 1) := by decide +kernel
theorem dX10_init_668 : decode cX10_init 668 = .ok (.iastore, 1) := by decide +kernel
theorem dX10_init_669 : decode cX10_init 669 = .ok (.dup, 1) := by decide +kernel
theorem dX10_init_670 : decode cX10_init 670 = .ok (.bipush 37, 2) := by decide +kernel
theorem dX10_init_672 : decode cX10_init 672 = .ok (.iconst 0, 1) := by decide +kernel
theorem dX10_init_673 : decode cX10_init 673 = .ok (.iastore, 1) := by decide +kernel
theorem dX10_init_674 : decode cX10_init 674 = .ok (.dup, 1) := by decide +kernel
theorem dX10_init_675 : decode cX10_init 675 = .ok (.bipush 38, 2) := by decide +kernel
theorem dX10_init_677 : decode cX10_init 677 = .ok (.iconst 0, 1) := by decide +kernel
theorem dX10_init_678 : decode cX10_init 678 = .ok (.iastore, 1) := by decide +kernel
theorem dX10_init_679 : decode cX10_init 679 = .ok (.dup, 1) := by decide +kernel
theorem dX10_init_680 : decode cX10_init 680 = .ok (.bipush 39, 2) := by decide +kernel
theorem dX10_init_682 : decode cX10_init 682 = .ok (.iconst 0, 1) := by decide +kernel
theorem dX10_init_683 : decode cX10_init 683 = .ok (.iastore, 1) := by decide +kernel
theorem dX10_init_684 : decode cX10_init 684 = .ok (.putfield 32, 3) := by decide +kernel
theorem dX10_init_687 : decode cX10_init 687 = .ok (.aload_n 0, 1) := by decide +kernel
theorem dX10_init_688 : decode cX10_init 688 = .ok (.sipush 200, 3) := by decide +kernel
theorem dX10_init_691 : decode cX10_init 691 = .ok (.newarray .int, 2) := by decide +kernel
theorem dX10_init_693 : decode cX10_init 693 = .ok (.putfield 35, 3) := by decide +kernel
theorem dX10_init_696 : decode cX10_init 696 = .ok (.aload_n 0, 1) := by decide +kernel
theorem dX10_init_697 : decode cX10_init 697 = .ok (.iconst 3, 1) := by decide +kernel
theorem dX10_init_698 : decode cX10_init 698 = .ok (.newarray .int, 2) := by decide +kernel
theorem dX10_init_700 : decode cX10_init 700 = .ok (.putfield 38, 3) := by decide +kernel
theorem dX10_init_703 : decode cX10_init 703 = .ok (.aload_n 0, 1) := by decide +kernel
theorem dX10_init_704 : decode cX10_init 704 = .ok (.iconst 4, 1) := by decide +kernel
theorem dX10_init_705 : decode cX10_init 705 = .ok (.newarray .int, 2) := by decide +kernel
theorem dX10_init_707 : decode cX10_init 707 = .ok (.putfield 41, 3) := by decide +kernel
theorem dX10_init_710 : decode cX10_init 710 = .ok (.aload_n 0, 1) := by decide +kernel
theorem dX10_init_711 : decode cX10_init 711 = .ok (.sipush 4096, 3) := by decide +kernel
theorem dX10_init_714 : decode cX10_init 714 = .ok (.newarray .int, 2) := by decide +kernel
theorem dX10_init_716 : decode cX10_init 716 = .ok (.putfield 44, 3) := by decide +kernel
theorem dX10_init_719 : decode cX10_init 719 = .ok (.aload_n 0, 1) := by decide +kernel
theorem dX10_init_720 : decode cX10_init 720 = .ok (.sipush 4096, 3) := by decide +kernel
theorem dX10_init_723 : decode cX10_init 723 = .ok (.newarray .int, 2) := by decide +kernel
theorem dX10_init_725 : decode cX10_init 725 = .ok (.putfield 47, 3) := by decide +kernel
theorem dX10_init_728 : decode cX10_init 728 = .ok (.aload_n 0, 1) := by decide +kernel
theorem dX10_init_729 : decode cX10_init 729 = .ok (.bipush 91, 2) := by decide +kernel
theorem dX10_init_731 : decode cX10_init 731 = .ok (.newarray .int, 2) := by decide +kernel
theorem dX10_init_733 : decode cX10_init 733 = .ok (.putfield 50, 3) := by decide +kernel
theorem dX10_init_736 : decode cX10_init 736 = .ok (.aload_n 0, 1) := by decide +kernel
theorem dX10_init_737 : decode cX10_init 737 = .ok (.bipush 13, 2) := by decide +kernel
theorem dX10_init_739 : decode cX10_init 739 = .ok (.newarray .int, 2) := by decide +kernel
theorem dX10_init_741 : decode cX10_init 741 = .ok (.putfield 53, 3) := by decide +kernel
theorem dX10_init_744 : decode cX10_init 744 = .ok (.aload_n 0, 1) := by decide +kernel
theorem dX10_init_745 : decode cX10_init 745 = .ok (.bipush 13, 2) := by decide +kernel
theorem dX10_init_747 : decode cX10_init 747 = .ok (.newarray .int, 2) := by decide +kernel
theorem dX10_init_749 : decode cX10_init 749 = .ok (.putfield 56, 3) := by decide +kernel
theorem dX10_init_752 : decode cX10_init 752 = .ok (.aload_n 0, 1) := by decide +kernel
theorem dX10_init_753 : decode cX10_init 753 = .ok (.sipush 4096, 3) := by decide +kernel
theorem dX10_init_756 : decode cX10_init 756 = .ok (.newarray .int, 2) := by decide +kernel
theorem dX10_init_758 : decode cX10_init 758 = .ok (.putfield 59, 3) := by decide +kernel
theorem dX10_init_761 : decode cX10_init 761 = .ok (.return_, 1) := by decide +kernel
theorem dX10_isIn_0 : decode cX10_isIn 0 = .ok (.iload_n 0, 1) := by decide +kernel
theorem dX10_isIn_1 : decode cX10_isIn 1 = .ok (.iload_n 1, 1) := by decide +kernel
theorem dX10_isIn_2 : decode cX10_isIn 2 = .ok (.if_icmp .lt 12, 3) := by decide +kernel
theorem dX10_isIn_5 : decode cX10_isIn 5 = .ok (.iload_n 0, 1) := by decide +kernel
theorem dX10_isIn_6 : decode cX10_isIn 6 = .ok (.iload_n 2, 1) := by decide +kernel
theorem dX10_isIn_7 : decode cX10_isIn 7 = .ok (.if_icmp .gt 7, 3) := by decide +kernel
theorem dX10_isIn_10 : decode cX10_isIn 10 = .ok (.iconst 1, 1) := by decide +kernel
theorem dX10_isIn_11 : decode cX10_isIn 11 = .ok (.goto 4, 3) := by decide +kernel
theorem dX10_isIn_14 : decode cX10_isIn 14 = .ok (.iconst 0, 1) := by decide +kernel
theorem dX10_isIn_15 : decode cX10_isIn 15 = .ok (.ireturn, 1) := by decide +kernel
theorem dX10_side_0 : decode cX10_side 0 = .ok (.iconst 1, 1) := by decide +kernel
theorem dX10_side_1 : decode cX10_side 1 = .ok (.aload_n 0, 1) := by decide +kernel
theorem dX10_side_2 : decode cX10_side 2 = .ok (.getfield 7, 3) := by decide +kernel
theorem dX10_side_5 : decode cX10_side 5 = .ok (.ishl, 1) := by decide +kernel
theorem dX10_side_6 : decode cX10_side 6 = .ok (.ireturn, 1) := by decide +kernel
theorem dX10_cells_0 : decode cX10_cells 0 = .ok (.iconst 1, 1) := by decide +kernel
theorem dX10_cells_1 : decode cX10_cells 1 = .ok (.iconst 2, 1) := by decide +kernel
theorem dX10_cells_2 : decode cX10_cells 2 = .ok (.aload_n 0, 1) := by decide +kernel
theorem dX10_cells_3 : decode cX10_cells 3 = .ok (.getfield 7, 3) := by decide +kernel
theorem dX10_cells_6 : decode cX10_cells 6 = .ok (.imul, 1) := by decide +kernel
theorem dX10_cells_7 : decode cX10_cells 7 = .ok (.ishl, 1) := by decide +kernel
theorem dX10_cells_8 : decode cX10_cells 8 = .ok (.ireturn, 1) := by decide +kernel
theorem dX10_isCell_0 : decode cX10_isCell 0 = .ok (.iload_n 1, 1) := by decide +kernel
theorem dX10_isCell_1 : decode cX10_isCell 1 = .ok (.iconst 0, 1) := by decide +kernel
theorem dX10_isCell_2 : decode cX10_isCell 2 = .ok (.aload_n 0, 1) := by decide +kernel
theorem dX10_isCell_3 : decode cX10_isCell 3 = .ok (.invokevirtual 62, 3) := by decide +kernel
theorem dX10_isCell_6 : decode cX10_isCell 6 = .ok (.iconst 1, 1) := by decide +kernel
theorem dX10_isCell_7 : decode cX10_isCell 7 = .ok (.isub, 1) := by decide +kernel
theorem dX10_isCell_8 : decode cX10_isCell 8 = .ok (.invokestatic 66, 3) := by decide +kernel
theorem dX10_isCell_11 : decode cX10_isCell 11 = .ok (.ifCond .eq 21, 3) := by decide +kernel
theorem dX10_isCell_14 : decode cX10_isCell 14 = .ok (.iload_n 2, 1) := by decide +kernel
theorem dX10_isCell_15 : decode cX10_isCell 15 = .ok (.iconst 0, 1) := by decide +kernel
theorem dX10_isCell_16 : decode cX10_isCell 16 = .ok (.aload_n 0, 1) := by decide +kernel
theorem dX10_isCell_17 : decode cX10_isCell 17 = .ok (.invokevirtual 62, 3) := by decide +kernel
theorem dX10_isCell_20 : decode cX10_isCell 20 = .ok (.iconst 1, 1) := by decide +kernel
theorem dX10_isCell_21 : decode cX10_isCell 21 = .ok (.isub, 1) := by decide +kernel
theorem dX10_isCell_22 : decode cX10_isCell 22 = .ok (.invokestatic 66, 3) := by decide +kernel
theorem dX10_isCell_25 : decode cX10_isCell 25 = .ok (.ifCond .eq 7, 3) := by decide +kernel
theorem dX10_isCell_28 : decode cX10_isCell 28 = .ok (.iconst 1, 1) := by decide +kernel
theorem dX10_isCell_29 : decode cX10_isCell 29 = .ok (.goto 4, 3) := by decide +kernel
theorem dX10_isCell_32 : decode cX10_isCell 32 = .ok (.iconst 0, 1) := by decide +kernel
theorem dX10_isCell_33 : decode cX10_isCell 33 = .ok (.ireturn, 1) := by decide +kernel
theorem dX10_write_0 : decode cX10_write 0 = .ok (.iload_n 1, 1) := by decide +kernel
theorem dX10_write_1 : decode cX10_write 1 = .ok (.bipush 32, 2) := by decide +kernel
theorem dX10_write_3 : decode cX10_write 3 = .ok (.bipush 126, 2) := by decide +kernel
theorem dX10_write_5 : decode cX10_write 5 = .ok (.invokestatic 66, 3) := by decide +kernel
theorem dX10_write_8 : decode cX10_write 8 = .ok (.ifCond .ne 5, 3) := by decide +kernel
theorem dX10_write_11 : decode cX10_write 11 = .ok (.iconst (-1), 1) := by decide +kernel
theorem dX10_write_12 : decode cX10_write 12 = .ok (.ireturn, 1) := by decide +kernel
theorem dX10_write_13 : decode cX10_write 13 = .ok (.aload_n 0, 1) := by decide +kernel
theorem dX10_write_14 : decode cX10_write 14 = .ok (.getfield 70, 3) := by decide +kernel
theorem dX10_write_17 : decode cX10_write 17 = .ok (.sipush 200, 3) := by decide +kernel
theorem dX10_write_20 : decode cX10_write 20 = .ok (.if_icmp .ne 6, 3) := by decide +kernel
theorem dX10_write_23 : decode cX10_write 23 = .ok (.bipush (-3), 2) := by decide +kernel
theorem dX10_write_25 : decode cX10_write 25 = .ok (.ireturn, 1) := by decide +kernel
theorem dX10_write_26 : decode cX10_write 26 = .ok (.aload_n 0, 1) := by decide +kernel
theorem dX10_write_27 : decode cX10_write 27 = .ok (.getfield 35, 3) := by decide +kernel
theorem dX10_write_30 : decode cX10_write 30 = .ok (.aload_n 0, 1) := by decide +kernel
theorem dX10_write_31 : decode cX10_write 31 = .ok (.getfield 70, 3) := by decide +kernel
theorem dX10_write_34 : decode cX10_write 34 = .ok (.iload_n 1, 1) := by decide +kernel
theorem dX10_write_35 : decode cX10_write 35 = .ok (.iastore, 1) := by decide +kernel
theorem dX10_write_36 : decode cX10_write 36 = .ok (.aload_n 0, 1) := by decide +kernel
theorem dX10_write_37 : decode cX10_write 37 = .ok (.dup, 1) := by decide +kernel
theorem dX10_write_38 : decode cX10_write 38 = .ok (.getfield 70, 3) := by decide +kernel
theorem dX10_write_41 : decode cX10_write 41 = .ok (.iconst 1, 1) := by decide +kernel
theorem dX10_write_42 : decode cX10_write 42 = .ok (.iadd, 1) := by decide +kernel
theorem dX10_write_43 : decode cX10_write 43 = .ok (.putfield 70, 3) := by decide +kernel
theorem dX10_write_46 : decode cX10_write 46 = .ok (.aload_n 0, 1) := by decide +kernel
theorem dX10_write_47 : decode cX10_write 47 = .ok (.getfield 70, 3) := by decide +kernel
theorem dX10_write_50 : decode cX10_write 50 = .ok (.ireturn, 1) := by decide +kernel
theorem dX10_wipe_0 : decode cX10_wipe 0 = .ok (.aload_n 0, 1) := by decide +kernel
theorem dX10_wipe_1 : decode cX10_wipe 1 = .ok (.getfield 70, 3) := by decide +kernel
theorem dX10_wipe_4 : decode cX10_wipe 4 = .ok (.istore_n 1, 1) := by decide +kernel
theorem dX10_wipe_5 : decode cX10_wipe 5 = .ok (.aload_n 0, 1) := by decide +kernel
theorem dX10_wipe_6 : decode cX10_wipe 6 = .ok (.iconst 0, 1) := by decide +kernel
theorem dX10_wipe_7 : decode cX10_wipe 7 = .ok (.putfield 70, 3) := by decide +kernel
theorem dX10_wipe_10 : decode cX10_wipe 10 = .ok (.iload_n 1, 1) := by decide +kernel
theorem dX10_wipe_11 : decode cX10_wipe 11 = .ok (.ireturn, 1) := by decide +kernel
theorem dX10_here_0 : decode cX10_here 0 = .ok (.aload_n 0, 1) := by decide +kernel
theorem dX10_here_1 : decode cX10_here 1 = .ok (.getfield 73, 3) := by decide +kernel
theorem dX10_here_4 : decode cX10_here 4 = .ok (.aload_n 0, 1) := by decide +kernel
theorem dX10_here_5 : decode cX10_here 5 = .ok (.getfield 70, 3) := by decide +kernel
theorem dX10_here_8 : decode cX10_here 8 = .ok (.if_icmp .ge 15, 3) := by decide +kernel
theorem dX10_here_11 : decode cX10_here 11 = .ok (.aload_n 0, 1) := by decide +kernel
theorem dX10_here_12 : decode cX10_here 12 = .ok (.getfield 35, 3) := by decide +kernel
theorem dX10_here_15 : decode cX10_here 15 = .ok (.aload_n 0, 1) := by decide +kernel
theorem dX10_here_16 : decode cX10_here 16 = .ok (.getfield 73, 3) := by decide +kernel
theorem dX10_here_19 : decode cX10_here 19 = .ok (.iaload, 1) := by decide +kernel
theorem dX10_here_20 : decode cX10_here 20 = .ok (.goto 5, 3) := by decide +kernel
theorem dX10_here_23 : decode cX10_here 23 = .ok (.bipush (-4), 2) := by decide +kernel
theorem dX10_here_25 : decode cX10_here 25 = .ok (.ireturn, 1) := by decide +kernel
theorem dX10_isFigure_0 : decode cX10_isFigure 0 = .ok (.aload_n 0, 1) := by decide +kernel
theorem dX10_isFigure_1 : decode cX10_isFigure 1 = .ok (.invokevirtual 76, 3) := by decide +kernel
theorem dX10_isFigure_4 : decode cX10_isFigure 4 = .ok (.bipush 48, 2) := by decide +kernel
theorem dX10_isFigure_6 : decode cX10_isFigure 6 = .ok (.bipush 57, 2) := by decide +kernel
theorem dX10_isFigure_8 : decode cX10_isFigure 8 = .ok (.invokestatic 66, 3) := by decide +kernel
theorem dX10_isFigure_11 : decode cX10_isFigure 11 = .ok (.ireturn, 1) := by decide +kernel
theorem dX10_causes_0 : decode cX10_causes 0 = .ok (.aload_n 0, 1) := by decide +kernel
theorem dX10_causes_1 : decode cX10_causes 1 = .ok (.getfield 38, 3) := by decide +kernel
theorem dX10_causes_4 : decode cX10_causes 4 = .ok (.iconst 1, 1) := by decide +kernel
theorem dX10_causes_5 : decode cX10_causes 5 = .ok (.iload_n 1, 1) := by decide +kernel
theorem dX10_causes_6 : decode cX10_causes 6 = .ok (.iastore, 1) := by decide +kernel
theorem dX10_causes_7 : decode cX10_causes 7 = .ok (.aload_n 0, 1) := by decide +kernel
theorem dX10_causes_8 : decode cX10_causes 8 = .ok (.iconst 2, 1) := by decide +kernel
theorem dX10_causes_9 : decode cX10_causes 9 = .ok (.putfield 79, 3) := by decide +kernel
theorem dX10_causes_12 : decode cX10_causes 12 = .ok (.iload_n 1, 1) := by decide +kernel
theorem dX10_causes_13 : decode cX10_causes 13 = .ok (.iconst 4, 1) := by decide +kernel
theorem dX10_causes_14 : decode cX10_causes 14 = .ok (.if_icmp .ne 18, 3) := by decide +kernel
theorem dX10_causes_17 : decode cX10_causes 17 = .ok (.aload_n 0, 1) := by decide +kernel
theorem dX10_causes_18 : decode cX10_causes 18 = .ok (.getfield 38, 3) := by decide +kernel
theorem dX10_causes_21 : decode cX10_causes 21 = .ok (.iconst 2, 1) := by decide +kernel
theorem dX10_causes_22 : decode cX10_causes 22 = .ok (.bipush 20, 2) := by decide +kernel
theorem dX10_causes_24 : decode cX10_causes 24 = .ok (.iload_n 2, 1) := by decide +kernel
theorem dX10_causes_25 : decode cX10_causes 25 = .ok (.iadd, 1) := by decide +kernel
theorem dX10_causes_26 : decode cX10_causes 26 = .ok (.iastore, 1) := by decide +kernel
theorem dX10_causes_27 : decode cX10_causes 27 = .ok (.aload_n 0, 1) := by decide +kernel
theorem dX10_causes_28 : decode cX10_causes 28 = .ok (.iconst 3, 1) := by decide +kernel
theorem dX10_causes_29 : decode cX10_causes 29 = .ok (.putfield 79, 3) := by decide +kernel
theorem dX10_causes_32 : decode cX10_causes 32 = .ok (.iconst 0, 1) := by decide +kernel
theorem dX10_causes_33 : decode cX10_causes 33 = .ok (.ireturn, 1) := by decide +kernel
theorem dX10_number_0 : decode cX10_number 0 = .ok (.iconst 0, 1) := by decide +kernel
theorem dX10_number_1 : decode cX10_number 1 = .ok (.istore 5, 2) := by decide +kernel
theorem dX10_number_3 : decode cX10_number 3 = .ok (.iconst 0, 1) := by decide +kernel
theorem dX10_number_4 : decode cX10_number 4 = .ok (.istore 6, 2) := by decide +kernel
theorem dX10_number_6 : decode cX10_number 6 = .ok (.iload 5, 2) := by decide +kernel
theorem dX10_number_8 : decode cX10_number 8 = .ok (.iconst 4, 1) := by decide +kernel
theorem dX10_number_9 : decode cX10_number 9 = .ok (.if_icmp .ge 41, 3) := by decide +kernel
theorem dX10_number_12 : decode cX10_number 12 = .ok (.aload_n 0, 1) := by decide +kernel
theorem dX10_number_13 : decode cX10_number 13 = .ok (.invokevirtual 82, 3) := by decide +kernel
theorem dX10_number_16 : decode cX10_number 16 = .ok (.ifCond .eq 34, 3) := by decide +kernel
theorem dX10_number_19 : decode cX10_number 19 = .ok (.bipush 10, 2) := by decide +kernel
theorem dX10_number_21 : decode cX10_number 21 = .ok (.iload 6, 2) := by decide +kernel
theorem dX10_number_23 : decode cX10_number 23 = .ok (.imul, 1) := by decide +kernel
theorem dX10_number_24 : decode cX10_number 24 = .ok (.aload_n 0, 1) := by decide +kernel
theorem dX10_number_25 : decode cX10_number 25 = .ok (.invokevirtual 76, 3) := by decide +kernel
theorem dX10_number_28 : decode cX10_number 28 = .ok (.iadd, 1) := by decide +kernel
theorem dX10_number_29 : decode cX10_number 29 = .ok (.bipush 48, 2) := by decide +kernel
theorem dX10_number_31 : decode cX10_number 31 = .ok (.isub, 1) := by decide +kernel
theorem dX10_number_32 : decode cX10_number 32 = .ok (.istore 6, 2) := by decide +kernel
theorem dX10_number_34 : decode cX10_number 34 = .ok (.aload_n 0, 1) := by decide +kernel
theorem dX10_number_35 : decode cX10_number 35 = .ok (.dup, 1) := by decide +kernel
theorem dX10_number_36 : decode cX10_number 36 = .ok (.getfield 73, 3) := by decide +kernel
theorem dX10_number_39 : decode cX10_number 39 = .ok (.iconst 1, 1) := by decide +kernel
theorem dX10_number_40 : decode cX10_number 40 = .ok (.iadd, 1) := by decide +kernel
theorem dX10_number_41 : decode cX10_number 41 = .ok (.putfield 73, 3) := by decide +kernel
theorem dX10_number_44 : decode cX10_number 44 = .ok (.iinc 5 1, 3) := by decide +kernel
theorem dX10_number_47 : decode cX10_number 47 = .ok (.goto (-41), 3) := by decide +kernel
theorem dX10_number_50 : decode cX10_number 50 = .ok (.iload 5, 2) := by decide +kernel
theorem dX10_number_52 : decode cX10_number 52 = .ok (.ifCond .eq 9, 3) := by decide +kernel
theorem dX10_number_55 : decode cX10_number 55 = .ok (.iload 5, 2) := by decide +kernel
theorem dX10_number_57 : decode cX10_number 57 = .ok (.iconst 4, 1) := by decide +kernel
theorem dX10_number_58 : decode cX10_number 58 = .ok (.if_icmp .ne 10, 3) := by decide +kernel
theorem dX10_number_61 : decode cX10_number 61 = .ok (.aload_n 0, 1) := by decide +kernel
theorem dX10_number_62 : decode cX10_number 62 = .ok (.iconst 2, 1) := by decide +kernel
theorem dX10_number_63 : decode cX10_number 63 = .ok (.iconst 0, 1) := by decide +kernel
theorem dX10_number_64 : decode cX10_number 64 = .ok (.invokevirtual 86, 3) := by decide +kernel
theorem dX10_number_67 : decode cX10_number 67 = .ok (.ireturn, 1) := by decide +kernel
theorem dX10_number_68 : decode cX10_number 68 = .ok (.aload_n 0, 1) := by decide +kernel
theorem dX10_number_69 : decode cX10_number 69 = .ok (.invokevirtual 76, 3) := by decide +kernel
theorem dX10_number_72 : decode cX10_number 72 = .ok (.iload_n 2, 1) := by decide +kernel
theorem dX10_number_73 : decode cX10_number 73 = .ok (.if_icmp .eq 10, 3) := by decide +kernel
theorem dX10_number_76 : decode cX10_number 76 = .ok (.aload_n 0, 1) := by decide +kernel
theorem dX10_number_77 : decode cX10_number 77 = .ok (.iconst 3, 1) := by decide +kernel
theorem dX10_number_78 : decode cX10_number 78 = .ok (.iconst 0, 1) := by decide +kernel
theorem dX10_number_79 : decode cX10_number 79 = .ok (.invokevirtual 86, 3) := by decide +kernel
theorem dX10_number_82 : decode cX10_number 82 = .ok (.ireturn, 1) := by decide +kernel
theorem dX10_number_83 : decode cX10_number 83 = .ok (.aload_n 0, 1) := by decide +kernel
theorem dX10_number_84 : decode cX10_number 84 = .ok (.dup, 1) := by decide +kernel
theorem dX10_number_85 : decode cX10_number 85 = .ok (.getfield 73, 3) := by decide +kernel
theorem dX10_number_88 : decode cX10_number 88 = .ok (.iconst 1, 1) := by decide +kernel
theorem dX10_number_89 : decode cX10_number 89 = .ok (.iadd, 1) := by decide +kernel
theorem dX10_number_90 : decode cX10_number 90 = .ok (.putfield 73, 3) := by decide +kernel
theorem dX10_number_93 : decode cX10_number 93 = .ok (.aload_n 0, 1) := by decide +kernel
theorem dX10_number_94 : decode cX10_number 94 = .ok (.getfield 41, 3) := by decide +kernel
theorem dX10_number_97 : decode cX10_number 97 = .ok (.iload_n 1, 1) := by decide +kernel
theorem dX10_number_98 : decode cX10_number 98 = .ok (.iload 6, 2) := by decide +kernel
theorem dX10_number_100 : decode cX10_number 100 = .ok (.iastore, 1) := by decide +kernel
theorem dX10_number_101 : decode cX10_number 101 = .ok (.iload 6, 2) := by decide +kernel
theorem dX10_number_103 : decode cX10_number 103 = .ok (.iload_n 3, 1) := by decide +kernel
theorem dX10_number_104 : decode cX10_number 104 = .ok (.iload 4, 2) := by decide +kernel
theorem dX10_number_106 : decode cX10_number 106 = .ok (.invokestatic 66, 3) := by decide +kernel
theorem dX10_number_109 : decode cX10_number 109 = .ok (.ifCond .ne 12, 3) := by decide +kernel
theorem dX10_number_112 : decode cX10_number 112 = .ok (.aload_n 0, 1) := by decide +kernel
theorem dX10_number_113 : decode cX10_number 113 = .ok (.iconst 4, 1) := by decide +kernel
theorem dX10_number_114 : decode cX10_number 114 = .ok (.iload_n 1, 1) := by decide +kernel
theorem dX10_number_115 : decode cX10_number 115 = .ok (.invokevirtual 86, 3) := by decide +kernel
theorem dX10_number_118 : decode cX10_number 118 = .ok (.ifCond .eq 7, 3) := by decide +kernel
theorem dX10_number_121 : decode cX10_number 121 = .ok (.iconst 1, 1) := by decide +kernel
theorem dX10_number_122 : decode cX10_number 122 = .ok (.goto 4, 3) := by decide +kernel
theorem dX10_number_125 : decode cX10_number 125 = .ok (.iconst 0, 1) := by decide +kernel
theorem dX10_number_126 : decode cX10_number 126 = .ok (.ireturn, 1) := by decide +kernel
theorem dX10_readsWorld_0 : decode cX10_readsWorld 0 = .ok (.aload_n 0, 1) := by decide +kernel
theorem dX10_readsWorld_1 : decode cX10_readsWorld 1 = .ok (.iconst 0, 1) := by decide +kernel
theorem dX10_readsWorld_2 : decode cX10_readsWorld 2 = .ok (.bipush 44, 2) := by decide +kernel
theorem dX10_readsWorld_4 : decode cX10_readsWorld 4 = .ok (.iconst 1, 1) := by decide +kernel
theorem dX10_readsWorld_5 : decode cX10_readsWorld 5 = .ok (.bipush 6, 2) := by decide +kernel
theorem dX10_readsWorld_7 : decode cX10_readsWorld 7 = .ok (.invokevirtual 89, 3) := by decide +kernel
theorem dX10_readsWorld_10 : decode cX10_readsWorld 10 = .ok (.ifCond .eq 19, 3) := by decide +kernel
theorem dX10_readsWorld_13 : decode cX10_readsWorld 13 = .ok (.aload_n 0, 1) := by decide +kernel
theorem dX10_readsWorld_14 : decode cX10_readsWorld 14 = .ok (.iconst 1, 1) := by decide +kernel
theorem dX10_readsWorld_15 : decode cX10_readsWorld 15 = .ok (.bipush 59, 2) := by decide +kernel
theorem dX10_readsWorld_17 : decode cX10_readsWorld 17 = .ok (.iconst 0, 1) := by decide +kernel
theorem dX10_readsWorld_18 : decode cX10_readsWorld 18 = .ok (.iconst 1, 1) := by decide +kernel
theorem dX10_readsWorld_19 : decode cX10_readsWorld 19 = .ok (.invokevirtual 89, 3) := by decide +kernel
theorem dX10_readsWorld_22 : decode cX10_readsWorld 22 = .ok (.ifCond .eq 7, 3) := by decide +kernel
theorem dX10_readsWorld_25 : decode cX10_readsWorld 25 = .ok (.iconst 1, 1) := by decide +kernel
theorem dX10_readsWorld_26 : decode cX10_readsWorld 26 = .ok (.goto 4, 3) := by decide +kernel
theorem dX10_readsWorld_29 : decode cX10_readsWorld 29 = .ok (.iconst 0, 1) := by decide +kernel
theorem dX10_readsWorld_30 : decode cX10_readsWorld 30 = .ok (.ireturn, 1) := by decide +kernel
theorem dX10_readsBox_0 : decode cX10_readsBox 0 = .ok (.aload_n 0, 1) := by decide +kernel
theorem dX10_readsBox_1 : decode cX10_readsBox 1 = .ok (.getfield 93, 3) := by decide +kernel
theorem dX10_readsBox_4 : decode cX10_readsBox 4 = .ok (.iconst 1, 1) := by decide +kernel
theorem dX10_readsBox_5 : decode cX10_readsBox 5 = .ok (.isub, 1) := by decide +kernel
theorem dX10_readsBox_6 : decode cX10_readsBox 6 = .ok (.istore_n 1, 1) := by decide +kernel
theorem dX10_readsBox_7 : decode cX10_readsBox 7 = .ok (.aload_n 0, 1) := by decide +kernel
theorem dX10_readsBox_8 : decode cX10_readsBox 8 = .ok (.iconst 0, 1) := by decide +kernel
theorem dX10_readsBox_9 : decode cX10_readsBox 9 = .ok (.bipush 44, 2) := by decide +kernel
theorem dX10_readsBox_11 : decode cX10_readsBox 11 = .ok (.iconst 0, 1) := by decide +kernel
theorem dX10_readsBox_12 : decode cX10_readsBox 12 = .ok (.iload_n 1, 1) := by decide +kernel
theorem dX10_readsBox_13 : decode cX10_readsBox 13 = .ok (.invokevirtual 89, 3) := by decide +kernel
theorem dX10_readsBox_16 : decode cX10_readsBox 16 = .ok (.ifCond .eq 53, 3) := by decide +kernel
theorem dX10_readsBox_19 : decode cX10_readsBox 19 = .ok (.aload_n 0, 1) := by decide +kernel
theorem dX10_readsBox_20 : decode cX10_readsBox 20 = .ok (.iconst 1, 1) := by decide +kernel
theorem dX10_readsBox_21 : decode cX10_readsBox 21 = .ok (.bipush 44, 2) := by decide +kernel
theorem dX10_readsBox_23 : decode cX10_readsBox 23 = .ok (.iconst 0, 1) := by decide +kernel
theorem dX10_readsBox_24 : decode cX10_readsBox 24 = .ok (.iload_n 1, 1) := by decide +kernel
theorem dX10_readsBox_25 : decode cX10_readsBox 25 = .ok (.invokevirtual 89, 3) := by decide +kernel
theorem dX10_readsBox_28 : decode cX10_readsBox 28 = .ok (.ifCond .eq 41, 3) := by decide +kernel
theorem dX10_readsBox_31 : decode cX10_readsBox 31 = .ok (.aload_n 0, 1) := by decide +kernel
theorem dX10_readsBox_32 : decode cX10_readsBox 32 = .ok (.iconst 2, 1) := by decide +kernel
theorem dX10_readsBox_33 : decode cX10_readsBox 33 = .ok (.bipush 44, 2) := by decide +kernel
theorem dX10_readsBox_35 : decode cX10_readsBox 35 = .ok (.aload_n 0, 1) := by decide +kernel
theorem dX10_readsBox_36 : decode cX10_readsBox 36 = .ok (.getfield 41, 3) := by decide +kernel
theorem dX10_readsBox_39 : decode cX10_readsBox 39 = .ok (.iconst 0, 1) := by decide +kernel
theorem dX10_readsBox_40 : decode cX10_readsBox 40 = .ok (.iaload, 1) := by decide +kernel
theorem dX10_readsBox_41 : decode cX10_readsBox 41 = .ok (.iload_n 1, 1) := by decide +kernel
theorem dX10_readsBox_42 : decode cX10_readsBox 42 = .ok (.invokevirtual 89, 3) := by decide +kernel
theorem dX10_readsBox_45 : decode cX10_readsBox 45 = .ok (.ifCond .eq 24, 3) := by decide +kernel
theorem dX10_readsBox_48 : decode cX10_readsBox 48 = .ok (.aload_n 0, 1) := by decide +kernel
theorem dX10_readsBox_49 : decode cX10_readsBox 49 = .ok (.iconst 3, 1) := by decide +kernel
theorem dX10_readsBox_50 : decode cX10_readsBox 50 = .ok (.bipush 59, 2) := by decide +kernel
theorem dX10_readsBox_52 : decode cX10_readsBox 52 = .ok (.aload_n 0, 1) := by decide +kernel
theorem dX10_readsBox_53 : decode cX10_readsBox 53 = .ok (.getfield 41, 3) := by decide +kernel
theorem dX10_readsBox_56 : decode cX10_readsBox 56 = .ok (.iconst 1, 1) := by decide +kernel
theorem dX10_readsBox_57 : decode cX10_readsBox 57 = .ok (.iaload, 1) := by decide +kernel
theorem dX10_readsBox_58 : decode cX10_readsBox 58 = .ok (.iload_n 1, 1) := by decide +kernel
theorem dX10_readsBox_59 : decode cX10_readsBox 59 = .ok (.invokevirtual 89, 3) := by decide +kernel
theorem dX10_readsBox_62 : decode cX10_readsBox 62 = .ok (.ifCond .eq 7, 3) := by decide +kernel
theorem dX10_readsBox_65 : decode cX10_readsBox 65 = .ok (.iconst 1, 1) := by decide +kernel
theorem dX10_readsBox_66 : decode cX10_readsBox 66 = .ok (.goto 4, 3) := by decide +kernel
theorem dX10_readsBox_69 : decode cX10_readsBox 69 = .ok (.iconst 0, 1) := by decide +kernel
theorem dX10_readsBox_70 : decode cX10_readsBox 70 = .ok (.ireturn, 1) := by decide +kernel
theorem dX10_readsDisc_0 : decode cX10_readsDisc 0 = .ok (.aload_n 0, 1) := by decide +kernel
theorem dX10_readsDisc_1 : decode cX10_readsDisc 1 = .ok (.getfield 93, 3) := by decide +kernel
theorem dX10_readsDisc_4 : decode cX10_readsDisc 4 = .ok (.iconst 1, 1) := by decide +kernel
theorem dX10_readsDisc_5 : decode cX10_readsDisc 5 = .ok (.isub, 1) := by decide +kernel
theorem dX10_readsDisc_6 : decode cX10_readsDisc 6 = .ok (.istore_n 1, 1) := by decide +kernel
theorem dX10_readsDisc_7 : decode cX10_readsDisc 7 = .ok (.aload_n 0, 1) := by decide +kernel
theorem dX10_readsDisc_8 : decode cX10_readsDisc 8 = .ok (.iconst 0, 1) := by decide +kernel
theorem dX10_readsDisc_9 : decode cX10_readsDisc 9 = .ok (.bipush 44, 2) := by decide +kernel
theorem dX10_readsDisc_11 : decode cX10_readsDisc 11 = .ok (.iconst 0, 1) := by decide +kernel
theorem dX10_readsDisc_12 : decode cX10_readsDisc 12 = .ok (.iload_n 1, 1) := by decide +kernel
theorem dX10_readsDisc_13 : decode cX10_readsDisc 13 = .ok (.invokevirtual 89, 3) := by decide +kernel
theorem dX10_readsDisc_16 : decode cX10_readsDisc 16 = .ok (.ifCond .eq 32, 3) := by decide +kernel
theorem dX10_readsDisc_19 : decode cX10_readsDisc 19 = .ok (.aload_n 0, 1) := by decide +kernel
theorem dX10_readsDisc_20 : decode cX10_readsDisc 20 = .ok (.iconst 1, 1) := by decide +kernel
theorem dX10_readsDisc_21 : decode cX10_readsDisc 21 = .ok (.bipush 44, 2) := by decide +kernel
theorem dX10_readsDisc_23 : decode cX10_readsDisc 23 = .ok (.iconst 0, 1) := by decide +kernel
theorem dX10_readsDisc_24 : decode cX10_readsDisc 24 = .ok (.iload_n 1, 1) := by decide +kernel
theorem dX10_readsDisc_25 : decode cX10_readsDisc 25 = .ok (.invokevirtual 89, 3) := by decide +kernel
theorem dX10_readsDisc_28 : decode cX10_readsDisc 28 = .ok (.ifCond .eq 20, 3) := by decide +kernel
theorem dX10_readsDisc_31 : decode cX10_readsDisc 31 = .ok (.aload_n 0, 1) := by decide +kernel
theorem dX10_readsDisc_32 : decode cX10_readsDisc 32 = .ok (.iconst 2, 1) := by decide +kernel
theorem dX10_readsDisc_33 : decode cX10_readsDisc 33 = .ok (.bipush 59, 2) := by decide +kernel
theorem dX10_readsDisc_35 : decode cX10_readsDisc 35 = .ok (.iconst 0, 1) := by decide +kernel
theorem dX10_readsDisc_36 : decode cX10_readsDisc 36 = .ok (.bipush 63, 2) := by decide +kernel
theorem dX10_readsDisc_38 : decode cX10_readsDisc 38 = .ok (.invokevirtual 89, 3) := by decide +kernel
theorem dX10_readsDisc_41 : decode cX10_readsDisc 41 = .ok (.ifCond .eq 7, 3) := by decide +kernel
theorem dX10_readsDisc_44 : decode cX10_readsDisc 44 = .ok (.iconst 1, 1) := by decide +kernel
theorem dX10_readsDisc_45 : decode cX10_readsDisc 45 = .ok (.goto 4, 3) := by decide +kernel
theorem dX10_readsDisc_48 : decode cX10_readsDisc 48 = .ok (.iconst 0, 1) := by decide +kernel
theorem dX10_readsDisc_49 : decode cX10_readsDisc 49 = .ok (.ireturn, 1) := by decide +kernel
theorem dX10_begins_0 : decode cX10_begins 0 = .ok (.aload_n 0, 1) := by decide +kernel
theorem dX10_begins_1 : decode cX10_begins 1 = .ok (.invokevirtual 76, 3) := by decide +kernel
theorem dX10_begins_4 : decode cX10_begins 4 = .ok (.istore_n 1, 1) := by decide +kernel
theorem dX10_begins_5 : decode cX10_begins 5 = .ok (.iload_n 1, 1) := by decide +kernel
theorem dX10_begins_6 : decode cX10_begins 6 = .ok (.bipush 119, 2) := by decide +kernel
theorem dX10_begins_8 : decode cX10_begins 8 = .ok (.if_icmp .eq 9, 3) := by decide +kernel
theorem dX10_begins_11 : decode cX10_begins 11 = .ok (.iload_n 1, 1) := by decide +kernel
theorem dX10_begins_12 : decode cX10_begins 12 = .ok (.bipush 112, 2) := by decide +kernel
theorem dX10_begins_14 : decode cX10_begins 14 = .ok (.if_icmp .ne 25, 3) := by decide +kernel
theorem dX10_begins_17 : decode cX10_begins 17 = .ok (.aload_n 0, 1) := by decide +kernel
theorem dX10_begins_18 : decode cX10_begins 18 = .ok (.dup, 1) := by decide +kernel
theorem dX10_begins_19 : decode cX10_begins 19 = .ok (.getfield 73, 3) := by decide +kernel
theorem dX10_begins_22 : decode cX10_begins 22 = .ok (.iconst 1, 1) := by decide +kernel
theorem dX10_begins_23 : decode cX10_begins 23 = .ok (.iadd, 1) := by decide +kernel
theorem dX10_begins_24 : decode cX10_begins 24 = .ok (.putfield 73, 3) := by decide +kernel
theorem dX10_begins_27 : decode cX10_begins 27 = .ok (.iload_n 1, 1) := by decide +kernel
theorem dX10_begins_28 : decode cX10_begins 28 = .ok (.bipush 119, 2) := by decide +kernel
theorem dX10_begins_30 : decode cX10_begins 30 = .ok (.if_icmp .ne 7, 3) := by decide +kernel
theorem dX10_begins_33 : decode cX10_begins 33 = .ok (.iconst 0, 1) := by decide +kernel
theorem dX10_begins_34 : decode cX10_begins 34 = .ok (.goto 4, 3) := by decide +kernel
theorem dX10_begins_37 : decode cX10_begins 37 = .ok (.iconst 3, 1) := by decide +kernel
theorem dX10_begins_38 : decode cX10_begins 38 = .ok (.ireturn, 1) := by decide +kernel
theorem dX10_begins_39 : decode cX10_begins 39 = .ok (.aload_n 0, 1) := by decide +kernel
theorem dX10_begins_40 : decode cX10_begins 40 = .ok (.getfield 73, 3) := by decide +kernel
theorem dX10_begins_43 : decode cX10_begins 43 = .ok (.iconst 1, 1) := by decide +kernel
theorem dX10_begins_44 : decode cX10_begins 44 = .ok (.iadd, 1) := by decide +kernel
theorem dX10_begins_45 : decode cX10_begins 45 = .ok (.aload_n 0, 1) := by decide +kernel
theorem dX10_begins_46 : decode cX10_begins 46 = .ok (.getfield 70, 3) := by decide +kernel
theorem dX10_begins_49 : decode cX10_begins 49 = .ok (.if_icmp .ge 17, 3) := by decide +kernel
theorem dX10_begins_52 : decode cX10_begins 52 = .ok (.aload_n 0, 1) := by decide +kernel
theorem dX10_begins_53 : decode cX10_begins 53 = .ok (.getfield 35, 3) := by decide +kernel
theorem dX10_begins_56 : decode cX10_begins 56 = .ok (.aload_n 0, 1) := by decide +kernel
theorem dX10_begins_57 : decode cX10_begins 57 = .ok (.getfield 73, 3) := by decide +kernel
theorem dX10_begins_60 : decode cX10_begins 60 = .ok (.iconst 1, 1) := by decide +kernel
theorem dX10_begins_61 : decode cX10_begins 61 = .ok (.iadd, 1) := by decide +kernel
theorem dX10_begins_62 : decode cX10_begins 62 = .ok (.iaload, 1) := by decide +kernel
theorem dX10_begins_63 : decode cX10_begins 63 = .ok (.goto 5, 3) := by decide +kernel
theorem dX10_begins_66 : decode cX10_begins 66 = .ok (.bipush (-4), 2) := by decide +kernel
theorem dX10_begins_68 : decode cX10_begins 68 = .ok (.istore_n 2, 1) := by decide +kernel
theorem dX10_begins_69 : decode cX10_begins 69 = .ok (.iload_n 1, 1) := by decide +kernel
theorem dX10_begins_70 : decode cX10_begins 70 = .ok (.bipush 43, 2) := by decide +kernel
theorem dX10_begins_72 : decode cX10_begins 72 = .ok (.if_icmp .eq 9, 3) := by decide +kernel
theorem dX10_begins_75 : decode cX10_begins 75 = .ok (.iload_n 1, 1) := by decide +kernel
theorem dX10_begins_76 : decode cX10_begins 76 = .ok (.bipush 45, 2) := by decide +kernel
theorem dX10_begins_78 : decode cX10_begins 78 = .ok (.if_icmp .ne 37, 3) := by decide +kernel
theorem dX10_begins_81 : decode cX10_begins 81 = .ok (.iload_n 2, 1) := by decide +kernel
theorem dX10_begins_82 : decode cX10_begins 82 = .ok (.bipush 98, 2) := by decide +kernel
theorem dX10_begins_84 : decode cX10_begins 84 = .ok (.if_icmp .eq 9, 3) := by decide +kernel
theorem dX10_begins_87 : decode cX10_begins 87 = .ok (.iload_n 2, 1) := by decide +kernel
theorem dX10_begins_88 : decode cX10_begins 88 = .ok (.bipush 100, 2) := by decide +kernel
theorem dX10_begins_90 : decode cX10_begins 90 = .ok (.if_icmp .ne 25, 3) := by decide +kernel
theorem dX10_begins_93 : decode cX10_begins 93 = .ok (.aload_n 0, 1) := by decide +kernel
theorem dX10_begins_94 : decode cX10_begins 94 = .ok (.dup, 1) := by decide +kernel
theorem dX10_begins_95 : decode cX10_begins 95 = .ok (.getfield 73, 3) := by decide +kernel
theorem dX10_begins_98 : decode cX10_begins 98 = .ok (.iconst 2, 1) := by decide +kernel
theorem dX10_begins_99 : decode cX10_begins 99 = .ok (.iadd, 1) := by decide +kernel
theorem dX10_begins_100 : decode cX10_begins 100 = .ok (.putfield 73, 3) := by decide +kernel
theorem dX10_begins_103 : decode cX10_begins 103 = .ok (.iload_n 2, 1) := by decide +kernel
theorem dX10_begins_104 : decode cX10_begins 104 = .ok (.bipush 98, 2) := by decide +kernel
theorem dX10_begins_106 : decode cX10_begins 106 = .ok (.if_icmp .ne 7, 3) := by decide +kernel
theorem dX10_begins_109 : decode cX10_begins 109 = .ok (.iconst 1, 1) := by decide +kernel
theorem dX10_begins_110 : decode cX10_begins 110 = .ok (.goto 4, 3) := by decide +kernel
theorem dX10_begins_113 : decode cX10_begins 113 = .ok (.iconst 2, 1) := by decide +kernel
theorem dX10_begins_114 : decode cX10_begins 114 = .ok (.ireturn, 1) := by decide +kernel
theorem dX10_begins_115 : decode cX10_begins 115 = .ok (.bipush (-4), 2) := by decide +kernel
theorem dX10_begins_117 : decode cX10_begins 117 = .ok (.ireturn, 1) := by decide +kernel
theorem dX10_mayBegin_0 : decode cX10_mayBegin 0 = .ok (.iload_n 1, 1) := by decide +kernel
theorem dX10_mayBegin_1 : decode cX10_mayBegin 1 = .ok (.bipush (-4), 2) := by decide +kernel
theorem dX10_mayBegin_3 : decode cX10_mayBegin 3 = .ok (.if_icmp .eq 27, 3) := by decide +kernel
theorem dX10_mayBegin_6 : decode cX10_mayBegin 6 = .ok (.iload_n 1, 1) := by decide +kernel
theorem dX10_mayBegin_7 : decode cX10_mayBegin 7 = .ok (.ifCond .ne 7, 3) := by decide +kernel
theorem dX10_mayBegin_10 : decode cX10_mayBegin 10 = .ok (.iconst 1, 1) := by decide +kernel
theorem dX10_mayBegin_11 : decode cX10_mayBegin 11 = .ok (.goto 4, 3) := by decide +kernel
theorem dX10_mayBegin_14 : decode cX10_mayBegin 14 = .ok (.iconst 0, 1) := by decide +kernel
theorem dX10_mayBegin_15 : decode cX10_mayBegin 15 = .ok (.aload_n 0, 1) := by decide +kernel
theorem dX10_mayBegin_16 : decode cX10_mayBegin 16 = .ok (.getfield 96, 3) := by decide +kernel
theorem dX10_mayBegin_19 : decode cX10_mayBegin 19 = .ok (.ifCond .ne 7, 3) := by decide +kernel
theorem dX10_mayBegin_22 : decode cX10_mayBegin 22 = .ok (.iconst 1, 1) := by decide +kernel
theorem dX10_mayBegin_23 : decode cX10_mayBegin 23 = .ok (.goto 4, 3) := by decide +kernel
theorem dX10_mayBegin_26 : decode cX10_mayBegin 26 = .ok (.iconst 0, 1) := by decide +kernel
theorem dX10_mayBegin_27 : decode cX10_mayBegin 27 = .ok (.if_icmp .eq 5, 3) := by decide +kernel
theorem dX10_mayBegin_30 : decode cX10_mayBegin 30 = .ok (.iconst 0, 1) := by decide +kernel
theorem dX10_mayBegin_31 : decode cX10_mayBegin 31 = .ok (.ireturn, 1) := by decide +kernel
theorem dX10_mayBegin_32 : decode cX10_mayBegin 32 = .ok (.iload_n 1, 1) := by decide +kernel
theorem dX10_mayBegin_33 : decode cX10_mayBegin 33 = .ok (.ifCond .eq 29, 3) := by decide +kernel
theorem dX10_mayBegin_36 : decode cX10_mayBegin 36 = .ok (.iload_n 1, 1) := by decide +kernel
theorem dX10_mayBegin_37 : decode cX10_mayBegin 37 = .ok (.iconst 3, 1) := by decide +kernel
theorem dX10_mayBegin_38 : decode cX10_mayBegin 38 = .ok (.if_icmp .ne 15, 3) := by decide +kernel
theorem dX10_mayBegin_41 : decode cX10_mayBegin 41 = .ok (.aload_n 0, 1) := by decide +kernel
theorem dX10_mayBegin_42 : decode cX10_mayBegin 42 = .ok (.getfield 99, 3) := by decide +kernel
theorem dX10_mayBegin_45 : decode cX10_mayBegin 45 = .ok (.bipush 40, 2) := by decide +kernel
theorem dX10_mayBegin_47 : decode cX10_mayBegin 47 = .ok (.if_icmp .ge 19, 3) := by decide +kernel
