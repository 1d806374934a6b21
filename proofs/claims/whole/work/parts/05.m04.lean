def fX10_lays_120 (s0 : Int32) (s1 : Int32) (s2 : Int32) (s3 : Int32) (s4 : Int32) (s5 : Int32) (s6 : Int32) (s7 : Nat) (M : am_M) : Option am_M := (fX10_puts s7 s6 s5 s4 s3 s2 s1 s0 M).bind fun M17 => some M17
def fX10_lays (a0 : Nat) (a1 : Int32) (a2 : Int32) (M : am_M) : Option am_M := if a1 = 0 then (M.2.2.1 a0 18).bind fun r41 => if (0 : Int32) < 0 ∨ am_len M r41 ≤ (0 : Int32).toNatClampNeg then none else ((am_pI M a0 0 (M.1 r41 ((0 : Int32).toNatClampNeg))).2.2.1 a0 18).bind fun r45 => if (1 : Int32) < 0 ∨ am_len (am_pI M a0 0 (M.1 r41 ((0 : Int32).toNatClampNeg))) r45 ≤ (1 : Int32).toNatClampNeg then none else some (am_pI (am_pI (am_pI (am_pI M a0 0 (M.1 r41 ((0 : Int32).toNatClampNeg))) a0 1 ((am_pI M a0 0 (M.1 r41 ((0 : Int32).toNatClampNeg))).1 r45 ((1 : Int32).toNatClampNeg))) a0 2 0) a0 3 ((am_pI (am_pI (am_pI M a0 0 (M.1 r41 ((0 : Int32).toNatClampNeg))) a0 1 ((am_pI M a0 0 (M.1 r41 ((0 : Int32).toNatClampNeg))).1 r45 ((1 : Int32).toNatClampNeg))) a0 2 0).1 a0 0)) else if a1 = 3 then (M.2.2.1 a0 7).bind fun r25 => (M.2.2.1 a0 18).bind fun r28 => if (0 : Int32) < 0 ∨ am_len M r28 ≤ (0 : Int32).toNatClampNeg then none else if M.1 a0 16 < 0 ∨ am_len M r25 ≤ (M.1 a0 16).toNatClampNeg then none else ((am_pI M r25 (M.1 a0 16).toNatClampNeg (M.1 r28 ((0 : Int32).toNatClampNeg))).2.2.1 a0 8).bind fun r33 => ((am_pI M r25 (M.1 a0 16).toNatClampNeg (M.1 r28 ((0 : Int32).toNatClampNeg))).2.2.1 a0 18).bind fun r36 => if (1 : Int32) < 0 ∨ am_len (am_pI M r25 (M.1 a0 16).toNatClampNeg (M.1 r28 ((0 : Int32).toNatClampNeg))) r36 ≤ (1 : Int32).toNatClampNeg then none else if (am_pI M r25 (M.1 a0 16).toNatClampNeg (M.1 r28 ((0 : Int32).toNatClampNeg))).1 a0 16 < 0 ∨ am_len (am_pI M r25 (M.1 a0 16).toNatClampNeg (M.1 r28 ((0 : Int32).toNatClampNeg))) r33 ≤ ((am_pI M r25 (M.1 a0 16).toNatClampNeg (M.1 r28 ((0 : Int32).toNatClampNeg))).1 a0 16).toNatClampNeg then none else some (am_pI (am_pI M r25 (M.1 a0 16).toNatClampNeg (M.1 r28 ((0 : Int32).toNatClampNeg))) r33 ((am_pI M r25 (M.1 a0 16).toNatClampNeg (M.1 r28 ((0 : Int32).toNatClampNeg))).1 a0 16).toNatClampNeg ((am_pI M r25 (M.1 a0 16).toNatClampNeg (M.1 r28 ((0 : Int32).toNatClampNeg))).1 r36 ((1 : Int32).toNatClampNeg))) else (M.2.2.1 a0 18).bind fun r3 => if (0 : Int32) < 0 ∨ am_len M r3 ≤ (0 : Int32).toNatClampNeg then none else (M.2.2.1 a0 18).bind fun r7 => if (1 : Int32) < 0 ∨ am_len M r7 ≤ (1 : Int32).toNatClampNeg then none else (M.2.2.1 a0 18).bind fun r11 => if (2 : Int32) < 0 ∨ am_len M r11 ≤ (2 : Int32).toNatClampNeg then none else if a1 = 1 then (M.2.2.1 a0 18).bind fun r21 => if (3 : Int32) < 0 ∨ am_len M r21 ≤ (3 : Int32).toNatClampNeg then none else fX10_lays_120 (M.1 r21 ((3 : Int32).toNatClampNeg)) (M.1 r11 ((2 : Int32).toNatClampNeg)) (M.1 r7 ((1 : Int32).toNatClampNeg)) (M.1 r3 ((0 : Int32).toNatClampNeg)) (a1 - 1) a2 (M.1 a0 15) a0 M else fX10_lays_120 0 (M.1 r11 ((2 : Int32).toNatClampNeg)) (M.1 r7 ((1 : Int32).toNatClampNeg)) (M.1 r3 ((0 : Int32).toNatClampNeg)) (a1 - 1) a2 (M.1 a0 15) a0 M
set_option maxRecDepth 100000 in
set_option maxHeartbeats 4000000 in
theorem sX10_lays_120 (G : am_G) (s0 : Int32) (s1 : Int32) (s2 : Int32) (s3 : Int32) (s4 : Int32) (s5 : Int32) (s6 : Int32) (s7 : Nat) (M : am_M) (h_s7 : am_sh M s7 14) : am_S am_ev G 1 yX10_lays.cls yX10_lays.name cX10_lays 3 none 120 [] [.int s0, .int s1, .int s2, .int s3, .int s4, .int s5, .int s6, .ref s7] M (fX10_lays_120 s0 s1 s2 s3 s4 s5 s6 s7 M) := by
  show am_S am_ev G 1 yX10_lays.cls yX10_lays.name cX10_lays 3 none 120 [] [.int s0, .int s1, .int s2, .int s3, .int s4, .int s5, .int s6, .ref s7] M ((fX10_puts s7 s6 s5 s4 s3 s2 s1 s0 M).bind fun M17 => some M17)
  refine am_callVv 9 [.int s6, .int s5, .int s4, .int s3, .int s2, .int s1, .int s0] (CX10_puts G s7 s6 s5 s4 s3 s2 s1 s0 M h_s7) dX10_lays_120 mb_yX10_puts ⟨ml_RX10_108, im_yX10_puts, se_yX10_puts⟩ rfl h_s7 (by decide) rfl rfl (Nat.le_of_ble_eq_true rfl) (fun M17 q16 w19 l18 => ?_)
  exact am_vret dX10_lays_123
set_option maxRecDepth 100000 in
set_option maxHeartbeats 4000000 in
theorem sX10_lays_0 (G : am_G) (a0 : Nat) (a1 : Int32) (a2 : Int32) (M : am_M) (h_a0 : am_sh M a0 14) : am_S am_ev G 1 yX10_lays.cls yX10_lays.name cX10_lays 3 none 0 [(0, .ref a0), (1, .int a1), (2, .int a2)] [] M (fX10_lays a0 a1 a2 M) := by
  show am_S am_ev G 1 yX10_lays.cls yX10_lays.name cX10_lays 3 none 0 [(0, .ref a0), (1, .int a1), (2, .int a2)] [] M (if a1 = 0 then (M.2.2.1 a0 18).bind fun r41 => if (0 : Int32) < 0 ∨ am_len M r41 ≤ (0 : Int32).toNatClampNeg then none else ((am_pI M a0 0 (M.1 r41 ((0 : Int32).toNatClampNeg))).2.2.1 a0 18).bind fun r45 => if (1 : Int32) < 0 ∨ am_len (am_pI M a0 0 (M.1 r41 ((0 : Int32).toNatClampNeg))) r45 ≤ (1 : Int32).toNatClampNeg then none else some (am_pI (am_pI (am_pI (am_pI M a0 0 (M.1 r41 ((0 : Int32).toNatClampNeg))) a0 1 ((am_pI M a0 0 (M.1 r41 ((0 : Int32).toNatClampNeg))).1 r45 ((1 : Int32).toNatClampNeg))) a0 2 0) a0 3 ((am_pI (am_pI (am_pI M a0 0 (M.1 r41 ((0 : Int32).toNatClampNeg))) a0 1 ((am_pI M a0 0 (M.1 r41 ((0 : Int32).toNatClampNeg))).1 r45 ((1 : Int32).toNatClampNeg))) a0 2 0).1 a0 0)) else if a1 = 3 then (M.2.2.1 a0 7).bind fun r25 => (M.2.2.1 a0 18).bind fun r28 => if (0 : Int32) < 0 ∨ am_len M r28 ≤ (0 : Int32).toNatClampNeg then none else if M.1 a0 16 < 0 ∨ am_len M r25 ≤ (M.1 a0 16).toNatClampNeg then none else ((am_pI M r25 (M.1 a0 16).toNatClampNeg (M.1 r28 ((0 : Int32).toNatClampNeg))).2.2.1 a0 8).bind fun r33 => ((am_pI M r25 (M.1 a0 16).toNatClampNeg (M.1 r28 ((0 : Int32).toNatClampNeg))).2.2.1 a0 18).bind fun r36 => if (1 : Int32) < 0 ∨ am_len (am_pI M r25 (M.1 a0 16).toNatClampNeg (M.1 r28 ((0 : Int32).toNatClampNeg))) r36 ≤ (1 : Int32).toNatClampNeg then none else if (am_pI M r25 (M.1 a0 16).toNatClampNeg (M.1 r28 ((0 : Int32).toNatClampNeg))).1 a0 16 < 0 ∨ am_len (am_pI M r25 (M.1 a0 16).toNatClampNeg (M.1 r28 ((0 : Int32).toNatClampNeg))) r33 ≤ ((am_pI M r25 (M.1 a0 16).toNatClampNeg (M.1 r28 ((0 : Int32).toNatClampNeg))).1 a0 16).toNatClampNeg then none else some (am_pI (am_pI M r25 (M.1 a0 16).toNatClampNeg (M.1 r28 ((0 : Int32).toNatClampNeg))) r33 ((am_pI M r25 (M.1 a0 16).toNatClampNeg (M.1 r28 ((0 : Int32).toNatClampNeg))).1 a0 16).toNatClampNeg ((am_pI M r25 (M.1 a0 16).toNatClampNeg (M.1 r28 ((0 : Int32).toNatClampNeg))).1 r36 ((1 : Int32).toNatClampNeg))) else (M.2.2.1 a0 18).bind fun r3 => if (0 : Int32) < 0 ∨ am_len M r3 ≤ (0 : Int32).toNatClampNeg then none else (M.2.2.1 a0 18).bind fun r7 => if (1 : Int32) < 0 ∨ am_len M r7 ≤ (1 : Int32).toNatClampNeg then none else (M.2.2.1 a0 18).bind fun r11 => if (2 : Int32) < 0 ∨ am_len M r11 ≤ (2 : Int32).toNatClampNeg then none else if a1 = 1 then (M.2.2.1 a0 18).bind fun r21 => if (3 : Int32) < 0 ∨ am_len M r21 ≤ (3 : Int32).toNatClampNeg then none else fX10_lays_120 (M.1 r21 ((3 : Int32).toNatClampNeg)) (M.1 r11 ((2 : Int32).toNatClampNeg)) (M.1 r7 ((1 : Int32).toNatClampNeg)) (M.1 r3 ((0 : Int32).toNatClampNeg)) (a1 - 1) a2 (M.1 a0 15) a0 M else fX10_lays_120 0 (M.1 r11 ((2 : Int32).toNatClampNeg)) (M.1 r7 ((1 : Int32).toNatClampNeg)) (M.1 r3 ((0 : Int32).toNatClampNeg)) (a1 - 1) a2 (M.1 a0 15) a0 M)
  refine am_iload_n 1 dX10_lays_0 rfl rfl ?_
  refine am_if_ne (tgt := 40) dX10_lays_1 (by decide) (fun c1 => ?_) (fun c1 => ?_)
  · refine am_iload_n 1 dX10_lays_40 rfl rfl ?_
    refine am_iconst dX10_lays_41 am_kc_3 ?_
    refine am_icmp_ne (tgt := 78) dX10_lays_42 (by decide) (fun c2 => ?_) (fun c2 => ?_)
    · refine am_aload_n 0 dX10_lays_78 rfl rfl ?_
      refine am_aload_n 0 dX10_lays_79 rfl rfl ?_
      refine am_getI 9 dX10_lays_80 fl_RX10_102 h_a0 rfl ?_
      refine am_iload_n 2 dX10_lays_83 rfl rfl ?_
      refine am_iload_n 1 dX10_lays_84 rfl rfl ?_
      refine am_iconst dX10_lays_85 am_kc_1 ?_
      refine am_isub dX10_lays_86 ?_
      refine am_aload_n 0 dX10_lays_87 rfl rfl ?_
      refine am_getR 9 dX10_lays_88 fl_RX10_41 h_a0 rfl (fun r3 e4 h5 => ?_)
      refine am_iconst dX10_lays_91 am_kc_0 ?_
      refine am_iald dX10_lays_92 h5 (fun b6 => ?_)
      refine am_aload_n 0 dX10_lays_93 rfl rfl ?_
      refine am_getR 9 dX10_lays_94 fl_RX10_41 h_a0 rfl (fun r7 e8 h9 => ?_)
      refine am_iconst dX10_lays_97 am_kc_1 ?_
      refine am_iald dX10_lays_98 h9 (fun b10 => ?_)
      refine am_aload_n 0 dX10_lays_99 rfl rfl ?_
      refine am_getR 9 dX10_lays_100 fl_RX10_41 h_a0 rfl (fun r11 e12 h13 => ?_)
      refine am_iconst dX10_lays_103 am_kc_2 ?_
      refine am_iald dX10_lays_104 h13 (fun b14 => ?_)
      refine am_iload_n 1 dX10_lays_105 rfl rfl ?_
      refine am_iconst dX10_lays_106 am_kc_1 ?_
      refine am_icmp_ne (tgt := 119) dX10_lays_107 (by decide) (fun c15 => ?_) (fun c15 => ?_)
      · refine am_iconst dX10_lays_119 am_kc_0 ?_
        refine am_sub [] rfl ?_
        exact sX10_lays_120 G 0 (M.1 r11 ((2 : Int32).toNatClampNeg)) (M.1 r7 ((1 : Int32).toNatClampNeg)) (M.1 r3 ((0 : Int32).toNatClampNeg)) (a1 - 1) a2 (M.1 a0 15) a0 M h_a0
      · refine am_aload_n 0 dX10_lays_110 rfl rfl ?_
        refine am_getR 9 dX10_lays_111 fl_RX10_41 h_a0 rfl (fun r21 e22 h23 => ?_)
        refine am_iconst dX10_lays_114 am_kc_3 ?_
        refine am_iald dX10_lays_115 h23 (fun b24 => ?_)
        refine am_goto (tgt := 120) dX10_lays_116 (by decide) ?_
        refine am_sub [] rfl ?_
        exact sX10_lays_120 G (M.1 r21 ((3 : Int32).toNatClampNeg)) (M.1 r11 ((2 : Int32).toNatClampNeg)) (M.1 r7 ((1 : Int32).toNatClampNeg)) (M.1 r3 ((0 : Int32).toNatClampNeg)) (a1 - 1) a2 (M.1 a0 15) a0 M h_a0
    · refine am_aload_n 0 dX10_lays_45 rfl rfl ?_
      refine am_getR 9 dX10_lays_46 fl_RX10_29 h_a0 rfl (fun r25 e26 h27 => ?_)
      refine am_aload_n 0 dX10_lays_49 rfl rfl ?_
      refine am_getI 9 dX10_lays_50 fl_RX10_99 h_a0 rfl ?_
      refine am_aload_n 0 dX10_lays_53 rfl rfl ?_
      refine am_getR 9 dX10_lays_54 fl_RX10_41 h_a0 rfl (fun r28 e29 h30 => ?_)
      refine am_iconst dX10_lays_57 am_kc_0 ?_
      refine am_iald dX10_lays_58 h30 (fun b31 => ?_)
      refine am_iast dX10_lays_59 h27 (fun b32 => ?_)
      refine am_aload_n 0 dX10_lays_60 rfl rfl ?_
      refine am_getR 9 dX10_lays_61 fl_RX10_32 (am_sh.of h_a0 rfl) rfl (fun r33 e34 h35 => ?_)
      refine am_aload_n 0 dX10_lays_64 rfl rfl ?_
      refine am_getI 9 dX10_lays_65 fl_RX10_99 (am_sh.of h_a0 rfl) rfl ?_
      refine am_aload_n 0 dX10_lays_68 rfl rfl ?_
      refine am_getR 9 dX10_lays_69 fl_RX10_41 (am_sh.of h_a0 rfl) rfl (fun r36 e37 h38 => ?_)
      refine am_iconst dX10_lays_72 am_kc_1 ?_
      refine am_iald dX10_lays_73 (am_sh.of (am_sh.of (M := am_pI M r25 (M.1 a0 16).toNatClampNeg (M.1 r28 ((0 : Int32).toNatClampNeg))) h38 rfl) rfl) (fun b39 => ?_)
      refine am_iast dX10_lays_74 (am_sh.of (am_sh.of (M := am_pI M r25 (M.1 a0 16).toNatClampNeg (M.1 r28 ((0 : Int32).toNatClampNeg))) h35 rfl) rfl) (fun b40 => ?_)
      refine am_goto (tgt := 123) dX10_lays_75 (by decide) ?_
      exact am_vret dX10_lays_123
  · refine am_aload_n 0 dX10_lays_4 rfl rfl ?_
    refine am_aload_n 0 dX10_lays_5 rfl rfl ?_
    refine am_getR 9 dX10_lays_6 fl_RX10_41 h_a0 rfl (fun r41 e42 h43 => ?_)
    refine am_iconst dX10_lays_9 am_kc_0 ?_
    refine am_iald dX10_lays_10 h43 (fun b44 => ?_)
    refine am_putI 9 dX10_lays_11 fl_RX10_7 h_a0 rfl rfl rfl rfl ?_
    refine am_aload_n 0 dX10_lays_14 rfl rfl ?_
    refine am_aload_n 0 dX10_lays_15 rfl rfl ?_
    refine am_getR 9 dX10_lays_16 fl_RX10_41 (am_sh.of h_a0 rfl) rfl (fun r45 e46 h47 => ?_)
    refine am_iconst dX10_lays_19 am_kc_1 ?_
    refine am_iald dX10_lays_20 (am_sh.of (am_sh.of (M := am_pI M a0 0 (M.1 r41 ((0 : Int32).toNatClampNeg))) h47 rfl) rfl) (fun b48 => ?_)
    refine am_putI 9 dX10_lays_21 fl_RX10_13 (am_sh.of h_a0 rfl) rfl rfl rfl rfl ?_
    refine am_aload_n 0 dX10_lays_24 rfl rfl ?_
    refine am_iconst dX10_lays_25 am_kc_0 ?_
    refine am_putI 9 dX10_lays_26 fl_RX10_105 (am_sh.of h_a0 rfl) rfl rfl rfl rfl ?_
    refine am_aload_n 0 dX10_lays_29 rfl rfl ?_
    refine am_aload_n 0 dX10_lays_30 rfl rfl ?_
    refine am_getI 9 dX10_lays_31 fl_RX10_7 (am_sh.of h_a0 rfl) rfl ?_
    refine am_putI 9 dX10_lays_34 fl_RX10_16 (am_sh.of h_a0 rfl) rfl rfl rfl rfl ?_
    refine am_goto (tgt := 123) dX10_lays_37 (by decide) ?_
    exact am_vret dX10_lays_123
theorem CX10_lays (G : am_G) (a0 : Nat) (a1 : Int32) (a2 : Int32) (M : am_M) (h_a0 : am_sh M a0 14) : am_C am_ev G 1 yX10_lays cX10_lays 3 none [.ref a0, .int a1, .int a2] M (fX10_lays a0 a1 a2 M) :=
  am_meth (by decide) rfl (Nat.le_of_ble_eq_true rfl) (sX10_lays_0 G a0 a1 a2 M h_a0)
def fX10_readsItem_190 (x0 : Nat) (s0 : Int32) (s1 : Int32) (s2 : Nat) (M : am_M) : Option (Int32 × am_M) := some (1, am_pI (am_pI M s2 16 (s1 + s0)) x0 14 (((am_pI M s2 16 (s1 + s0)).1 x0 14) + 1))
def fX10_readsItem_171 (x0 : Nat) (x3 : Int32) (s0 : Int32) (s1 : Int32) (s2 : Nat) (M : am_M) : Option (Int32 × am_M) := if x3 = 3 then fX10_readsItem_190 x0 1 ((am_pI M s2 15 (s1 + s0)).1 x0 16) x0 (am_pI M s2 15 (s1 + s0)) else fX10_readsItem_190 x0 0 ((am_pI M s2 15 (s1 + s0)).1 x0 16) x0 (am_pI M s2 15 (s1 + s0))
def fX10_readsItem_166 (x0 : Nat) (x3 : Int32) (s0 : Int32) (s1 : Nat) (M : am_M) : Option (Int32 × am_M) := fX10_readsItem_171 x0 x3 1 s0 s1 M
def fX10_readsItem_148 (x0 : Nat) (x3 : Int32) (s0 : Int32) (s1 : Nat) (M : am_M) : Option (Int32 × am_M) := if x3 = 1 then fX10_readsItem_166 x0 x3 ((am_pI M s1 17 s0).1 x0 15) x0 (am_pI M s1 17 s0) else if x3 = 2 then fX10_readsItem_166 x0 x3 ((am_pI M s1 17 s0).1 x0 15) x0 (am_pI M s1 17 s0) else fX10_readsItem_171 x0 x3 0 ((am_pI M s1 17 s0).1 x0 15) x0 (am_pI M s1 17 s0)
def fX10_readsItem_128 (x0 : Nat) (x3 : Int32) (M : am_M) : Option (Int32 × am_M) := if x3 = 0 then (M.2.2.1 x0 18).bind fun r37 => if (0 : Int32) < 0 ∨ am_len M r37 ≤ (0 : Int32).toNatClampNeg then none else fX10_readsItem_148 x0 x3 (1 <<< ((M.1 r37 ((0 : Int32).toNatClampNeg)) &&& 31)) x0 M else fX10_readsItem_148 x0 x3 (M.1 x0 17) x0 M
def fX10_readsItem_109 (x0 : Nat) (x1 : Int32) (x2 : Int32) (x3 : Int32) (s0 : Int32) (M : am_M) : Option (Int32 × am_M) := if s0 = 0 then some (0, M) else if x1 = 0 then fX10_readsItem_128 x0 x3 M else (fX10_lays x0 x3 x2 M).bind fun M42 => fX10_readsItem_128 x0 x3 M42
def fX10_readsItem_108 (x0 : Nat) (x1 : Int32) (x2 : Int32) (x3 : Int32) (M : am_M) : Option (Int32 × am_M) := fX10_readsItem_109 x0 x1 x2 x3 0 M
def fX10_readsItem_14 (x0 : Nat) (x1 : Int32) (s0 : Int32) (M : am_M) : Option (Int32 × am_M) := (fX10_begins x0 M).bind fun p13 => (fX10_mayBegin x0 p13.1 p13.2).bind fun p19 => if p19.1 = 0 then (fX10_causes x0 1 0 p19.2).bind fun p76 => some (p76.1 &&& 1, p76.2) else if p13.1 = 0 then (fX10_readsWorld x0 p19.2).bind fun p70 => fX10_readsItem_109 x0 x1 s0 p13.1 p70.1 p70.2 else if p13.1 = 1 then (fX10_readsBox x0 p19.2).bind fun p64 => fX10_readsItem_109 x0 x1 s0 p13.1 p64.1 p64.2 else if p13.1 = 2 then (fX10_readsDisc x0 p19.2).bind fun p58 => fX10_readsItem_109 x0 x1 s0 p13.1 p58.1 p58.2 else (fX10_number x0 0 44 0 ((p19.2.1 x0 17) - 1) p19.2).bind fun p29 => if p29.1 = 0 then fX10_readsItem_108 x0 x1 s0 p13.1 p29.2 else (fX10_number x0 1 59 0 ((p29.2.1 x0 17) - 1) p29.2).bind fun p51 => if p51.1 = 0 then fX10_readsItem_108 x0 x1 s0 p13.1 p51.2 else fX10_readsItem_109 x0 x1 s0 p13.1 1 p51.2
def fX10_readsItem (a0 : Nat) (a1 : Int32) (M : am_M) : Option (Int32 × am_M) := (fX10_here a0 M).bind fun p6 => if p6.1 = 43 then fX10_readsItem_14 a0 a1 1 p6.2 else fX10_readsItem_14 a0 a1 0 p6.2
set_option maxRecDepth 100000 in
set_option maxHeartbeats 4000000 in
theorem sX10_readsItem_190 (G : am_G) (x0 : Nat) (s0 : Int32) (s1 : Int32) (s2 : Nat) (M : am_M) (h_x0 : am_sh M x0 14) (h_s2 : am_sh M s2 14) : am_S am_ei G 4 yX10_readsItem.cls yX10_readsItem.name cX10_readsItem 5 (some FieldType.boolean) 190 [(0, .ref x0)] [.int s0, .int s1, .ref s2] M (fX10_readsItem_190 x0 s0 s1 s2 M) := by
  show am_S am_ei G 4 yX10_readsItem.cls yX10_readsItem.name cX10_readsItem 5 (some FieldType.boolean) 190 [(0, .ref x0)] [.int s0, .int s1, .ref s2] M (some (1, am_pI (am_pI M s2 16 (s1 + s0)) x0 14 (((am_pI M s2 16 (s1 + s0)).1 x0 14) + 1)))
  refine am_iadd dX10_readsItem_190 ?_
  refine am_putI 9 dX10_readsItem_191 fl_RX10_99 h_s2 rfl rfl rfl rfl ?_
  refine am_aload_n 0 dX10_readsItem_194 rfl rfl ?_
  refine am_dup dX10_readsItem_195 rfl ?_
  refine am_getI 9 dX10_readsItem_196 fl_RX10_96 (am_sh.of h_x0 rfl) rfl ?_
  refine am_iconst dX10_readsItem_199 am_kc_1 ?_
  refine am_iadd dX10_readsItem_200 ?_
  refine am_putI 9 dX10_readsItem_201 fl_RX10_96 (am_sh.of h_x0 rfl) rfl rfl rfl rfl ?_
  refine am_iconst dX10_readsItem_204 am_kc_1 ?_
  exact am_zret1 dX10_readsItem_205
set_option maxRecDepth 100000 in
set_option maxHeartbeats 4000000 in
theorem sX10_readsItem_171 (G : am_G) (x0 : Nat) (x3 : Int32) (s0 : Int32) (s1 : Int32) (s2 : Nat) (M : am_M) (h_x0 : am_sh M x0 14) (h_s2 : am_sh M s2 14) : am_S am_ei G 4 yX10_readsItem.cls yX10_readsItem.name cX10_readsItem 5 (some FieldType.boolean) 171 [(0, .ref x0), (3, .int x3)] [.int s0, .int s1, .ref s2] M (fX10_readsItem_171 x0 x3 s0 s1 s2 M) := by
  show am_S am_ei G 4 yX10_readsItem.cls yX10_readsItem.name cX10_readsItem 5 (some FieldType.boolean) 171 [(0, .ref x0), (3, .int x3)] [.int s0, .int s1, .ref s2] M (if x3 = 3 then fX10_readsItem_190 x0 1 ((am_pI M s2 15 (s1 + s0)).1 x0 16) x0 (am_pI M s2 15 (s1 + s0)) else fX10_readsItem_190 x0 0 ((am_pI M s2 15 (s1 + s0)).1 x0 16) x0 (am_pI M s2 15 (s1 + s0)))
  refine am_iadd dX10_readsItem_171 ?_
  refine am_putI 9 dX10_readsItem_172 fl_RX10_102 h_s2 rfl rfl rfl rfl ?_
  refine am_aload_n 0 dX10_readsItem_175 rfl rfl ?_
  refine am_dup dX10_readsItem_176 rfl ?_
  refine am_getI 9 dX10_readsItem_177 fl_RX10_99 (am_sh.of h_x0 rfl) rfl ?_
  refine am_iload_n 1 dX10_readsItem_180 rfl rfl ?_
  refine am_iconst dX10_readsItem_181 am_kc_3 ?_
  refine am_icmp_ne (tgt := 189) dX10_readsItem_182 (by decide) (fun c35 => ?_) (fun c35 => ?_)
  · refine am_iconst dX10_readsItem_189 am_kc_0 ?_
    refine am_sub [0] rfl ?_
    exact sX10_readsItem_190 G x0 0 ((am_pI M s2 15 (s1 + s0)).1 x0 16) x0 (am_pI M s2 15 (s1 + s0)) (am_sh.of h_x0 rfl) (am_sh.of h_x0 rfl)
  · refine am_iconst dX10_readsItem_185 am_kc_1 ?_
    refine am_goto (tgt := 190) dX10_readsItem_186 (by decide) ?_
    refine am_sub [0] rfl ?_
    exact sX10_readsItem_190 G x0 1 ((am_pI M s2 15 (s1 + s0)).1 x0 16) x0 (am_pI M s2 15 (s1 + s0)) (am_sh.of h_x0 rfl) (am_sh.of h_x0 rfl)
set_option maxRecDepth 100000 in
set_option maxHeartbeats 4000000 in
theorem sX10_readsItem_166 (G : am_G) (x0 : Nat) (x3 : Int32) (s0 : Int32) (s1 : Nat) (M : am_M) (h_x0 : am_sh M x0 14) (h_s1 : am_sh M s1 14) : am_S am_ei G 4 yX10_readsItem.cls yX10_readsItem.name cX10_readsItem 5 (some FieldType.boolean) 166 [(0, .ref x0), (3, .int x3)] [.int s0, .ref s1] M (fX10_readsItem_166 x0 x3 s0 s1 M) := by
  show am_S am_ei G 4 yX10_readsItem.cls yX10_readsItem.name cX10_readsItem 5 (some FieldType.boolean) 166 [(0, .ref x0), (3, .int x3)] [.int s0, .ref s1] M (fX10_readsItem_171 x0 x3 1 s0 s1 M)
  refine am_iconst dX10_readsItem_166 am_kc_1 ?_
  refine am_goto (tgt := 171) dX10_readsItem_167 (by decide) ?_
  exact sX10_readsItem_171 G x0 x3 1 s0 s1 M h_x0 h_s1
set_option maxRecDepth 100000 in
set_option maxHeartbeats 4000000 in
theorem sX10_readsItem_148 (G : am_G) (x0 : Nat) (x3 : Int32) (s0 : Int32) (s1 : Nat) (M : am_M) (h_x0 : am_sh M x0 14) (h_s1 : am_sh M s1 14) : am_S am_ei G 4 yX10_readsItem.cls yX10_readsItem.name cX10_readsItem 5 (some FieldType.boolean) 148 [(0, .ref x0), (3, .int x3)] [.int s0, .ref s1] M (fX10_readsItem_148 x0 x3 s0 s1 M) := by
  show am_S am_ei G 4 yX10_readsItem.cls yX10_readsItem.name cX10_readsItem 5 (some FieldType.boolean) 148 [(0, .ref x0), (3, .int x3)] [.int s0, .ref s1] M (if x3 = 1 then fX10_readsItem_166 x0 x3 ((am_pI M s1 17 s0).1 x0 15) x0 (am_pI M s1 17 s0) else if x3 = 2 then fX10_readsItem_166 x0 x3 ((am_pI M s1 17 s0).1 x0 15) x0 (am_pI M s1 17 s0) else fX10_readsItem_171 x0 x3 0 ((am_pI M s1 17 s0).1 x0 15) x0 (am_pI M s1 17 s0))
  refine am_putI 9 dX10_readsItem_148 fl_RX10_93 h_s1 rfl rfl rfl rfl ?_
  refine am_aload_n 0 dX10_readsItem_151 rfl rfl ?_
  refine am_dup dX10_readsItem_152 rfl ?_
  refine am_getI 9 dX10_readsItem_153 fl_RX10_102 (am_sh.of h_x0 rfl) rfl ?_
  refine am_iload_n 1 dX10_readsItem_156 rfl rfl ?_
  refine am_iconst dX10_readsItem_157 am_kc_1 ?_
  refine am_icmp_eq (tgt := 166) dX10_readsItem_158 (by decide) (fun c34 => ?_) (fun c34 => ?_)
  · exact sX10_readsItem_166 G x0 x3 ((am_pI M s1 17 s0).1 x0 15) x0 (am_pI M s1 17 s0) (am_sh.of h_x0 rfl) (am_sh.of h_x0 rfl)
  · refine am_iload_n 1 dX10_readsItem_161 rfl rfl ?_
    refine am_iconst dX10_readsItem_162 am_kc_2 ?_
    refine am_icmp_ne (tgt := 170) dX10_readsItem_163 (by decide) (fun c36 => ?_) (fun c36 => ?_)
    · refine am_iconst dX10_readsItem_170 am_kc_0 ?_
      exact sX10_readsItem_171 G x0 x3 0 ((am_pI M s1 17 s0).1 x0 15) x0 (am_pI M s1 17 s0) (am_sh.of h_x0 rfl) (am_sh.of h_x0 rfl)
    · exact sX10_readsItem_166 G x0 x3 ((am_pI M s1 17 s0).1 x0 15) x0 (am_pI M s1 17 s0) (am_sh.of h_x0 rfl) (am_sh.of h_x0 rfl)
set_option maxRecDepth 100000 in
set_option maxHeartbeats 4000000 in
theorem sX10_readsItem_128 (G : am_G) (x0 : Nat) (x3 : Int32) (M : am_M) (h_x0 : am_sh M x0 14) : am_S am_ei G 4 yX10_readsItem.cls yX10_readsItem.name cX10_readsItem 5 (some FieldType.boolean) 128 [(0, .ref x0), (3, .int x3)] [] M (fX10_readsItem_128 x0 x3 M) := by
  show am_S am_ei G 4 yX10_readsItem.cls yX10_readsItem.name cX10_readsItem 5 (some FieldType.boolean) 128 [(0, .ref x0), (3, .int x3)] [] M (if x3 = 0 then (M.2.2.1 x0 18).bind fun r37 => if (0 : Int32) < 0 ∨ am_len M r37 ≤ (0 : Int32).toNatClampNeg then none else fX10_readsItem_148 x0 x3 (1 <<< ((M.1 r37 ((0 : Int32).toNatClampNeg)) &&& 31)) x0 M else fX10_readsItem_148 x0 x3 (M.1 x0 17) x0 M)
  refine am_aload_n 0 dX10_readsItem_128 rfl rfl ?_
  refine am_iload_n 1 dX10_readsItem_129 rfl rfl ?_
  refine am_if_ne (tgt := 144) dX10_readsItem_130 (by decide) (fun c33 => ?_) (fun c33 => ?_)
  · refine am_aload_n 0 dX10_readsItem_144 rfl rfl ?_
    refine am_getI 9 dX10_readsItem_145 fl_RX10_93 h_x0 rfl ?_
    exact sX10_readsItem_148 G x0 x3 (M.1 x0 17) x0 M h_x0 h_x0
  · refine am_iconst dX10_readsItem_133 am_kc_1 ?_
    refine am_aload_n 0 dX10_readsItem_134 rfl rfl ?_
    refine am_getR 9 dX10_readsItem_135 fl_RX10_41 h_x0 rfl (fun r37 e38 h39 => ?_)
    refine am_iconst dX10_readsItem_138 am_kc_0 ?_
    refine am_iald dX10_readsItem_139 h39 (fun b40 => ?_)
    refine am_ishl dX10_readsItem_140 ?_
    refine am_goto (tgt := 148) dX10_readsItem_141 (by decide) ?_
    exact sX10_readsItem_148 G x0 x3 (1 <<< ((M.1 r37 ((0 : Int32).toNatClampNeg)) &&& 31)) x0 M h_x0 h_x0
set_option maxRecDepth 100000 in
set_option maxHeartbeats 4000000 in
theorem sX10_readsItem_109 (G : am_G) (x0 : Nat) (x1 : Int32) (x2 : Int32) (x3 : Int32) (s0 : Int32) (M : am_M) (h_x0 : am_sh M x0 14) : am_S am_ei G 4 yX10_readsItem.cls yX10_readsItem.name cX10_readsItem 5 (some FieldType.boolean) 109 [(0, .ref x0), (1, .int x1), (2, .int x2), (3, .int x3)] [.int s0] M (fX10_readsItem_109 x0 x1 x2 x3 s0 M) := by
  show am_S am_ei G 4 yX10_readsItem.cls yX10_readsItem.name cX10_readsItem 5 (some FieldType.boolean) 109 [(0, .ref x0), (1, .int x1), (2, .int x2), (3, .int x3)] [.int s0] M (if s0 = 0 then some (0, M) else if x1 = 0 then fX10_readsItem_128 x0 x3 M else (fX10_lays x0 x3 x2 M).bind fun M42 => fX10_readsItem_128 x0 x3 M42)
  refine am_istore (L' := [(4, .int s0), (0, .ref x0), (1, .int x1), (2, .int x2), (3, .int x3)]) dX10_readsItem_109 (by decide) rfl ?_
  refine am_iload 0 dX10_readsItem_111 rfl ?_
  refine am_if_ne (tgt := 118) dX10_readsItem_113 (by decide) (fun c31 => ?_) (fun c31 => ?_)
  · refine am_iload_n 2 dX10_readsItem_118 rfl rfl ?_
    refine am_if_eq (tgt := 128) dX10_readsItem_119 (by decide) (fun c32 => ?_) (fun c32 => ?_)
    · refine am_sub [1, 4] rfl ?_
      exact sX10_readsItem_128 G x0 x3 M h_x0
    · refine am_aload_n 1 dX10_readsItem_122 rfl rfl ?_
      refine am_iload_n 4 dX10_readsItem_123 rfl rfl ?_
      refine am_iload_n 3 dX10_readsItem_124 rfl rfl ?_
      refine am_callVv 9 [.int x3, .int x2] (CX10_lays G x0 x3 x2 M h_x0) dX10_readsItem_125 mb_yX10_lays ⟨ml_RX10_128, im_yX10_lays, se_yX10_lays⟩ rfl h_x0 (by decide) rfl rfl (Nat.le_of_ble_eq_true rfl) (fun M42 q41 w44 l43 => ?_)
      refine am_sub [1, 4] rfl ?_
      exact sX10_readsItem_128 G x0 x3 M42 (am_sh.mono l43 h_x0)
  · refine am_iconst dX10_readsItem_116 am_kc_0 ?_
    exact am_zret0 dX10_readsItem_117
set_option maxRecDepth 100000 in
set_option maxHeartbeats 4000000 in
theorem sX10_readsItem_108 (G : am_G) (x0 : Nat) (x1 : Int32) (x2 : Int32) (x3 : Int32) (M : am_M) (h_x0 : am_sh M x0 14) : am_S am_ei G 4 yX10_readsItem.cls yX10_readsItem.name cX10_readsItem 5 (some FieldType.boolean) 108 [(0, .ref x0), (1, .int x1), (2, .int x2), (3, .int x3)] [] M (fX10_readsItem_108 x0 x1 x2 x3 M) := by
  show am_S am_ei G 4 yX10_readsItem.cls yX10_readsItem.name cX10_readsItem 5 (some FieldType.boolean) 108 [(0, .ref x0), (1, .int x1), (2, .int x2), (3, .int x3)] [] M (fX10_readsItem_109 x0 x1 x2 x3 0 M)
  refine am_iconst dX10_readsItem_108 am_kc_0 ?_
  exact sX10_readsItem_109 G x0 x1 x2 x3 0 M h_x0
set_option maxRecDepth 100000 in
set_option maxHeartbeats 4000000 in
theorem sX10_readsItem_14 (G : am_G) (x0 : Nat) (x1 : Int32) (s0 : Int32) (M : am_M) (h_x0 : am_sh M x0 14) : am_S am_ei G 4 yX10_readsItem.cls yX10_readsItem.name cX10_readsItem 5 (some FieldType.boolean) 14 [(0, .ref x0), (1, .int x1)] [.int s0] M (fX10_readsItem_14 x0 x1 s0 M) := by
  show am_S am_ei G 4 yX10_readsItem.cls yX10_readsItem.name cX10_readsItem 5 (some FieldType.boolean) 14 [(0, .ref x0), (1, .int x1)] [.int s0] M ((fX10_begins x0 M).bind fun p13 => (fX10_mayBegin x0 p13.1 p13.2).bind fun p19 => if p19.1 = 0 then (fX10_causes x0 1 0 p19.2).bind fun p76 => some (p76.1 &&& 1, p76.2) else if p13.1 = 0 then (fX10_readsWorld x0 p19.2).bind fun p70 => fX10_readsItem_109 x0 x1 s0 p13.1 p70.1 p70.2 else if p13.1 = 1 then (fX10_readsBox x0 p19.2).bind fun p64 => fX10_readsItem_109 x0 x1 s0 p13.1 p64.1 p64.2 else if p13.1 = 2 then (fX10_readsDisc x0 p19.2).bind fun p58 => fX10_readsItem_109 x0 x1 s0 p13.1 p58.1 p58.2 else (fX10_number x0 0 44 0 ((p19.2.1 x0 17) - 1) p19.2).bind fun p29 => if p29.1 = 0 then fX10_readsItem_108 x0 x1 s0 p13.1 p29.2 else (fX10_number x0 1 59 0 ((p29.2.1 x0 17) - 1) p29.2).bind fun p51 => if p51.1 = 0 then fX10_readsItem_108 x0 x1 s0 p13.1 p51.2 else fX10_readsItem_109 x0 x1 s0 p13.1 1 p51.2)
  refine am_istore_n (L' := [(2, .int s0), (0, .ref x0), (1, .int x1)]) dX10_readsItem_14 rfl (by decide) rfl ?_
  refine am_aload_n 1 dX10_readsItem_15 rfl rfl ?_
  refine am_callVi 9 [] (CX10_begins G x0 M h_x0) dX10_readsItem_16 mb_yX10_begins ⟨ml_RX10_112, im_yX10_begins, se_yX10_begins⟩ rfl h_x0 (by decide) rfl rfl (Nat.le_of_ble_eq_true rfl) (fun v12 M9 q8 w11 l10 => ?_)
  refine am_istore_n (L' := [(3, .int v12), (2, .int s0), (0, .ref x0), (1, .int x1)]) dX10_readsItem_19 rfl (by decide) rfl ?_
  refine am_aload_n 2 dX10_readsItem_20 rfl rfl ?_
  refine am_iload_n 0 dX10_readsItem_21 rfl rfl ?_
  refine am_callVi 9 [.int v12] (CX10_mayBegin G x0 v12 M9 (am_sh.mono l10 h_x0)) dX10_readsItem_22 mb_yX10_mayBegin ⟨ml_RX10_115, im_yX10_mayBegin, se_yX10_mayBegin⟩ rfl (am_sh.mono l10 h_x0) (by decide) rfl rfl (Nat.le_of_ble_eq_true rfl) (fun v18 M15 q14 w17 l16 => ?_)
  refine am_if_ne (tgt := 35) dX10_readsItem_25 (by decide) (fun c20 => ?_) (fun c20 => ?_)
  · refine am_iload_n 0 dX10_readsItem_35 rfl rfl ?_
    refine am_if_ne (tgt := 46) dX10_readsItem_36 (by decide) (fun c21 => ?_) (fun c21 => ?_)
    · refine am_iload_n 0 dX10_readsItem_46 rfl rfl ?_
      refine am_iconst dX10_readsItem_47 am_kc_1 ?_
      refine am_icmp_ne (tgt := 58) dX10_readsItem_48 (by decide) (fun c22 => ?_) (fun c22 => ?_)
      · refine am_iload_n 0 dX10_readsItem_58 rfl rfl ?_
        refine am_iconst dX10_readsItem_59 am_kc_2 ?_
        refine am_icmp_ne (tgt := 70) dX10_readsItem_60 (by decide) (fun c23 => ?_) (fun c23 => ?_)
        · refine am_aload_n 2 dX10_readsItem_70 rfl rfl ?_
          refine am_iconst dX10_readsItem_71 am_kc_0 ?_
          refine am_bipush (x := 44) dX10_readsItem_72 (by decide) ?_
          refine am_iconst dX10_readsItem_74 am_kc_0 ?_
          refine am_aload_n 2 dX10_readsItem_75 rfl rfl ?_
          refine am_getI 9 dX10_readsItem_76 fl_RX10_93 (am_sh.mono l16 (am_sh.mono l10 h_x0)) rfl ?_
          refine am_iconst dX10_readsItem_79 am_kc_1 ?_
          refine am_isub dX10_readsItem_80 ?_
          refine am_callVi 9 [.int 0, .int 44, .int 0, .int ((M15.1 x0 17) - 1)] (CX10_number G x0 0 44 0 ((M15.1 x0 17) - 1) M15 (am_sh.mono l16 (am_sh.mono l10 h_x0))) dX10_readsItem_81 mb_yX10_number ⟨ml_RX10_89, im_yX10_number, se_yX10_number⟩ rfl (am_sh.mono l16 (am_sh.mono l10 h_x0)) (by decide) rfl rfl (Nat.le_of_ble_eq_true rfl) (fun v28 M25 q24 w27 l26 => ?_)
          refine am_if_eq (tgt := 108) dX10_readsItem_84 (by decide) (fun c30 => ?_) (fun c30 => ?_)
          · refine am_sub [2, 3, 1, 0] rfl ?_
            exact sX10_readsItem_108 G x0 x1 s0 v12 M25 (am_sh.mono l26 (am_sh.mono l16 (am_sh.mono l10 h_x0)))
          · refine am_aload_n 2 dX10_readsItem_87 rfl rfl ?_
            refine am_iconst dX10_readsItem_88 am_kc_1 ?_
            refine am_bipush (x := 59) dX10_readsItem_89 (by decide) ?_
            refine am_iconst dX10_readsItem_91 am_kc_0 ?_
            refine am_aload_n 2 dX10_readsItem_92 rfl rfl ?_
            refine am_getI 9 dX10_readsItem_93 fl_RX10_93 (am_sh.mono l26 (am_sh.mono l16 (am_sh.mono l10 h_x0))) rfl ?_
            refine am_iconst dX10_readsItem_96 am_kc_1 ?_
            refine am_isub dX10_readsItem_97 ?_
            refine am_callVi 9 [.int 1, .int 59, .int 0, .int ((M25.1 x0 17) - 1)] (CX10_number G x0 1 59 0 ((M25.1 x0 17) - 1) M25 (am_sh.mono l26 (am_sh.mono l16 (am_sh.mono l10 h_x0)))) dX10_readsItem_98 mb_yX10_number ⟨ml_RX10_89, im_yX10_number, se_yX10_number⟩ rfl (am_sh.mono l26 (am_sh.mono l16 (am_sh.mono l10 h_x0))) (by decide) rfl rfl (Nat.le_of_ble_eq_true rfl) (fun v50 M47 q46 w49 l48 => ?_)
            refine am_if_eq (tgt := 108) dX10_readsItem_101 (by decide) (fun c52 => ?_) (fun c52 => ?_)
            · refine am_sub [2, 3, 1, 0] rfl ?_
              exact sX10_readsItem_108 G x0 x1 s0 v12 M47 (am_sh.mono l48 (am_sh.mono l26 (am_sh.mono l16 (am_sh.mono l10 h_x0))))
            · refine am_iconst dX10_readsItem_104 am_kc_1 ?_
              refine am_goto (tgt := 109) dX10_readsItem_105 (by decide) ?_
              refine am_sub [2, 3, 1, 0] rfl ?_
              exact sX10_readsItem_109 G x0 x1 s0 v12 1 M47 (am_sh.mono l48 (am_sh.mono l26 (am_sh.mono l16 (am_sh.mono l10 h_x0))))
        · refine am_aload_n 2 dX10_readsItem_63 rfl rfl ?_
          refine am_callVi 9 [] (CX10_readsDisc G x0 M15 (am_sh.mono l16 (am_sh.mono l10 h_x0))) dX10_readsItem_64 mb_yX10_readsDisc ⟨ml_RX10_125, im_yX10_readsDisc, se_yX10_readsDisc⟩ rfl (am_sh.mono l16 (am_sh.mono l10 h_x0)) (by decide) rfl rfl (Nat.le_of_ble_eq_true rfl) (fun v57 M54 q53 w56 l55 => ?_)
          refine am_goto (tgt := 109) dX10_readsItem_67 (by decide) ?_
          refine am_sub [2, 3, 1, 0] rfl ?_
          exact sX10_readsItem_109 G x0 x1 s0 v12 v57 M54 (am_sh.mono l55 (am_sh.mono l16 (am_sh.mono l10 h_x0)))
      · refine am_aload_n 2 dX10_readsItem_51 rfl rfl ?_
        refine am_callVi 9 [] (CX10_readsBox G x0 M15 (am_sh.mono l16 (am_sh.mono l10 h_x0))) dX10_readsItem_52 mb_yX10_readsBox ⟨ml_RX10_122, im_yX10_readsBox, se_yX10_readsBox⟩ rfl (am_sh.mono l16 (am_sh.mono l10 h_x0)) (by decide) rfl rfl (Nat.le_of_ble_eq_true rfl) (fun v63 M60 q59 w62 l61 => ?_)
        refine am_goto (tgt := 109) dX10_readsItem_55 (by decide) ?_
        refine am_sub [2, 3, 1, 0] rfl ?_
        exact sX10_readsItem_109 G x0 x1 s0 v12 v63 M60 (am_sh.mono l61 (am_sh.mono l16 (am_sh.mono l10 h_x0)))
    · refine am_aload_n 2 dX10_readsItem_39 rfl rfl ?_
      refine am_callVi 9 [] (CX10_readsWorld G x0 M15 (am_sh.mono l16 (am_sh.mono l10 h_x0))) dX10_readsItem_40 mb_yX10_readsWorld ⟨ml_RX10_119, im_yX10_readsWorld, se_yX10_readsWorld⟩ rfl (am_sh.mono l16 (am_sh.mono l10 h_x0)) (by decide) rfl rfl (Nat.le_of_ble_eq_true rfl) (fun v69 M66 q65 w68 l67 => ?_)
      refine am_goto (tgt := 109) dX10_readsItem_43 (by decide) ?_
      refine am_sub [2, 3, 1, 0] rfl ?_
      exact sX10_readsItem_109 G x0 x1 s0 v12 v69 M66 (am_sh.mono l67 (am_sh.mono l16 (am_sh.mono l10 h_x0)))
  · refine am_aload_n 2 dX10_readsItem_28 rfl rfl ?_
    refine am_iconst dX10_readsItem_29 am_kc_1 ?_
    refine am_iconst dX10_readsItem_30 am_kc_0 ?_
    refine am_callVi 9 [.int 1, .int 0] (CX10_causes G x0 1 0 M15 (am_sh.mono l16 (am_sh.mono l10 h_x0))) dX10_readsItem_31 mb_yX10_causes ⟨ml_RX10_86, im_yX10_causes, se_yX10_causes⟩ rfl (am_sh.mono l16 (am_sh.mono l10 h_x0)) (by decide) rfl rfl (Nat.le_of_ble_eq_true rfl) (fun v75 M72 q71 w74 l73 => ?_)
    exact am_zret dX10_readsItem_34
set_option maxRecDepth 100000 in
set_option maxHeartbeats 4000000 in
theorem sX10_readsItem_0 (G : am_G) (a0 : Nat) (a1 : Int32) (M : am_M) (h_a0 : am_sh M a0 14) : am_S am_ei G 4 yX10_readsItem.cls yX10_readsItem.name cX10_readsItem 5 (some FieldType.boolean) 0 [(0, .ref a0), (1, .int a1)] [] M (fX10_readsItem a0 a1 M) := by
  show am_S am_ei G 4 yX10_readsItem.cls yX10_readsItem.name cX10_readsItem 5 (some FieldType.boolean) 0 [(0, .ref a0), (1, .int a1)] [] M ((fX10_here a0 M).bind fun p6 => if p6.1 = 43 then fX10_readsItem_14 a0 a1 1 p6.2 else fX10_readsItem_14 a0 a1 0 p6.2)
  refine am_aload_n 0 dX10_readsItem_0 rfl rfl ?_
  refine am_callVi 9 [] (CX10_here G a0 M h_a0) dX10_readsItem_1 mb_yX10_here ⟨ml_RX10_76, im_yX10_here, se_yX10_here⟩ rfl h_a0 (by decide) rfl rfl (Nat.le_of_ble_eq_true rfl) (fun v5 M2 q1 w4 l3 => ?_)
  refine am_bipush (x := 43) dX10_readsItem_4 (by decide) ?_
  refine am_icmp_ne (tgt := 13) dX10_readsItem_6 (by decide) (fun c7 => ?_) (fun c7 => ?_)
  · refine am_iconst dX10_readsItem_13 am_kc_0 ?_
    exact sX10_readsItem_14 G a0 a1 0 M2 (am_sh.mono l3 h_a0)
  · refine am_iconst dX10_readsItem_9 am_kc_1 ?_
    refine am_goto (tgt := 14) dX10_readsItem_10 (by decide) ?_
    exact sX10_readsItem_14 G a0 a1 1 M2 (am_sh.mono l3 h_a0)
theorem CX10_readsItem (G : am_G) (a0 : Nat) (a1 : Int32) (M : am_M) (h_a0 : am_sh M a0 14) : am_C am_ei G 4 yX10_readsItem cX10_readsItem 5 (some FieldType.boolean) [.ref a0, .int a1] M (fX10_readsItem a0 a1 M) :=
  am_meth (by decide) rfl (Nat.le_of_ble_eq_true rfl) (sX10_readsItem_0 G a0 a1 M h_a0)
def fX10_goesThrough_25 : ((Nat × Int32 × am_M) → Option (Int32 × am_M)) → (Nat × Int32 × am_M) → Option (Int32 × am_M) := fun k25 q0 => match q0 with
  | (x0, x1, M) => if M.1 x0 10 ≤ M.1 x0 13 then some ((-4), M) else (fX10_readsItem x0 x1 M).bind fun p7 => if p7.1 = 0 then (p7.2.2.2.1 x0 12).bind fun r9 => if (0 : Int32) < 0 ∨ am_len p7.2 r9 ≤ (0 : Int32).toNatClampNeg then none else some (M.1 x0 13, am_pI p7.2 r9 ((0 : Int32).toNatClampNeg) (100 + (p7.2.1 x0 14))) else k25 (x0, x1, p7.2)
def fX10_goesThrough (a0 : Nat) (a1 : Int32) (M : am_M) : Option (Int32 × am_M) := am_loop (fX10_goesThrough_25) 100000 (a0, a1, am_pI (am_pI (am_pI (am_pI (am_pI M a0 13 0) a0 14 0) a0 15 0) a0 16 0) a0 11 0)
set_option maxRecDepth 100000 in
set_option maxHeartbeats 4000000 in
theorem sX10_goesThrough_25 (G : am_G) (k25 : (Nat × Int32 × am_M) → Option (Int32 × am_M)) (hk25 : ∀ q : (Nat × Int32 × am_M), (match q with | (x0, x1, M) => am_sh M x0 14) → match q with | (x0, x1, M) => am_S am_ei G 5 yX10_goesThrough.cls yX10_goesThrough.name cX10_goesThrough 3 (some FieldType.int) 25 [(0, .ref x0), (1, .int x1)] [] M (k25 (x0, x1, M))) (x0 : Nat) (x1 : Int32) (M : am_M) (h_x0 : am_sh M x0 14) : am_S am_ei G 5 yX10_goesThrough.cls yX10_goesThrough.name cX10_goesThrough 3 (some FieldType.int) 25 [(0, .ref x0), (1, .int x1)] [] M (fX10_goesThrough_25 k25 (x0, x1, M)) := by
  show am_S am_ei G 5 yX10_goesThrough.cls yX10_goesThrough.name cX10_goesThrough 3 (some FieldType.int) 25 [(0, .ref x0), (1, .int x1)] [] M (if M.1 x0 10 ≤ M.1 x0 13 then some ((-4), M) else (fX10_readsItem x0 x1 M).bind fun p7 => if p7.1 = 0 then (p7.2.2.2.1 x0 12).bind fun r9 => if (0 : Int32) < 0 ∨ am_len p7.2 r9 ≤ (0 : Int32).toNatClampNeg then none else some (M.1 x0 13, am_pI p7.2 r9 ((0 : Int32).toNatClampNeg) (100 + (p7.2.1 x0 14))) else k25 (x0, x1, p7.2))
  refine am_aload_n 0 dX10_goesThrough_25 rfl rfl ?_
  refine am_getI 9 dX10_goesThrough_26 fl_RX10_73 h_x0 rfl ?_
  refine am_aload_n 0 dX10_goesThrough_29 rfl rfl ?_
  refine am_getI 9 dX10_goesThrough_30 fl_RX10_70 h_x0 rfl ?_
  refine am_icmp_ge (tgt := 67) dX10_goesThrough_33 (by decide) (fun c1 => ?_) (fun c1 => ?_)
  · refine am_bipush (x := -4) dX10_goesThrough_67 (by decide) ?_
    exact am_iret dX10_goesThrough_69
  · refine am_aload_n 0 dX10_goesThrough_36 rfl rfl ?_
    refine am_getI 9 dX10_goesThrough_37 fl_RX10_73 h_x0 rfl ?_
    refine am_istore_n (L' := [(2, .int (M.1 x0 13)), (0, .ref x0), (1, .int x1)]) dX10_goesThrough_40 rfl (by decide) rfl ?_
    refine am_aload_n 1 dX10_goesThrough_41 rfl rfl ?_
    refine am_iload_n 2 dX10_goesThrough_42 rfl rfl ?_
    refine am_callVi 9 [.int x1] (CX10_readsItem G x0 x1 M h_x0) dX10_goesThrough_43 mb_yX10_readsItem ⟨ml_RX10_132, im_yX10_readsItem, se_yX10_readsItem⟩ rfl h_x0 (by decide) rfl rfl (Nat.le_of_ble_eq_true rfl) (fun v6 M3 q2 w5 l4 => ?_)
    refine am_if_ne (tgt := 64) dX10_goesThrough_46 (by decide) (fun c8 => ?_) (fun c8 => ?_)
    · refine am_goto (tgt := 25) dX10_goesThrough_64 (by decide) ?_
      refine am_sub [1, 2] rfl ?_
      exact hk25 (x0, x1, M3) (am_sh.mono l4 h_x0)
    · refine am_aload_n 1 dX10_goesThrough_49 rfl rfl ?_
      refine am_getR 9 dX10_goesThrough_50 fl_RX10_38 (am_sh.mono l4 h_x0) rfl (fun r9 e10 h11 => ?_)
      refine am_iconst dX10_goesThrough_53 am_kc_0 ?_
      refine am_bipush (x := 100) dX10_goesThrough_54 (by decide) ?_
      refine am_aload_n 1 dX10_goesThrough_56 rfl rfl ?_
      refine am_getI 9 dX10_goesThrough_57 fl_RX10_96 (am_sh.mono l4 h_x0) rfl ?_
      refine am_iadd dX10_goesThrough_60 ?_
      refine am_iast dX10_goesThrough_61 h11 (fun b12 => ?_)
      refine am_iload_n 0 dX10_goesThrough_62 rfl rfl ?_
      exact am_iret dX10_goesThrough_63
set_option maxRecDepth 100000 in
set_option maxHeartbeats 4000000 in
theorem lX10_goesThrough_25 (G : am_G) (n : Nat) (q : (Nat × Int32 × am_M)) (hq : match q with | (x0, x1, M) => am_sh M x0 14) : match q with | (x0, x1, M) => am_S am_ei G 5 yX10_goesThrough.cls yX10_goesThrough.name cX10_goesThrough 3 (some FieldType.int) 25 [(0, .ref x0), (1, .int x1)] [] M (am_loop (fX10_goesThrough_25) n (x0, x1, M)) := by
  exact am_loop_ok (fun q : (Nat × Int32 × am_M) => match q with | (x0, x1, M) => am_sh M x0 14) (fun q X => match q with | (x0, x1, M) => am_S am_ei G 5 yX10_goesThrough.cls yX10_goesThrough.name cX10_goesThrough 3 (some FieldType.int) 25 [(0, .ref x0), (1, .int x1)] [] M X) (fun _ => am_none) (fun k25 hk25 q hq => match q, hq with | (x0, x1, M), h_x0 => sX10_goesThrough_25 G k25 hk25 x0 x1 M h_x0) n q hq
set_option maxRecDepth 100000 in
set_option maxHeartbeats 4000000 in
theorem sX10_goesThrough_0 (G : am_G) (a0 : Nat) (a1 : Int32) (M : am_M) (h_a0 : am_sh M a0 14) : am_S am_ei G 5 yX10_goesThrough.cls yX10_goesThrough.name cX10_goesThrough 3 (some FieldType.int) 0 [(0, .ref a0), (1, .int a1)] [] M (fX10_goesThrough a0 a1 M) := by
  show am_S am_ei G 5 yX10_goesThrough.cls yX10_goesThrough.name cX10_goesThrough 3 (some FieldType.int) 0 [(0, .ref a0), (1, .int a1)] [] M (am_loop (fX10_goesThrough_25) 100000 (a0, a1, am_pI (am_pI (am_pI (am_pI (am_pI M a0 13 0) a0 14 0) a0 15 0) a0 16 0) a0 11 0))
  refine am_aload_n 0 dX10_goesThrough_0 rfl rfl ?_
  refine am_iconst dX10_goesThrough_1 am_kc_0 ?_
  refine am_putI 9 dX10_goesThrough_2 fl_RX10_73 h_a0 rfl rfl rfl rfl ?_
  refine am_aload_n 0 dX10_goesThrough_5 rfl rfl ?_
  refine am_iconst dX10_goesThrough_6 am_kc_0 ?_
  refine am_putI 9 dX10_goesThrough_7 fl_RX10_96 (am_sh.of h_a0 rfl) rfl rfl rfl rfl ?_
  refine am_aload_n 0 dX10_goesThrough_10 rfl rfl ?_
  refine am_iconst dX10_goesThrough_11 am_kc_0 ?_
  refine am_putI 9 dX10_goesThrough_12 fl_RX10_102 (am_sh.of h_a0 rfl) rfl rfl rfl rfl ?_
  refine am_aload_n 0 dX10_goesThrough_15 rfl rfl ?_
  refine am_iconst dX10_goesThrough_16 am_kc_0 ?_
  refine am_putI 9 dX10_goesThrough_17 fl_RX10_99 (am_sh.of h_a0 rfl) rfl rfl rfl rfl ?_
  refine am_aload_n 0 dX10_goesThrough_20 rfl rfl ?_
  refine am_iconst dX10_goesThrough_21 am_kc_0 ?_
  refine am_putI 9 dX10_goesThrough_22 fl_RX10_79 (am_sh.of h_a0 rfl) rfl rfl rfl rfl ?_
  exact lX10_goesThrough_25 G 100000 (a0, a1, am_pI (am_pI (am_pI (am_pI (am_pI M a0 13 0) a0 14 0) a0 15 0) a0 16 0) a0 11 0) (am_sh.of h_a0 rfl)
theorem CX10_goesThrough (G : am_G) (a0 : Nat) (a1 : Int32) (M : am_M) (h_a0 : am_sh M a0 14) : am_C am_ei G 5 yX10_goesThrough cX10_goesThrough 3 (some FieldType.int) [.ref a0, .int a1] M (fX10_goesThrough a0 a1 M) :=
  am_meth (by decide) rfl (Nat.le_of_ble_eq_true rfl) (sX10_goesThrough_0 G a0 a1 M h_a0)
def fX10_fault (a0 : Nat) (M : am_M) : Option (Int32 × am_M) := (fX10_goesThrough a0 0 M).bind fun p6 => some (p6.1, p6.2)
set_option maxRecDepth 100000 in
set_option maxHeartbeats 4000000 in
theorem sX10_fault_0 (G : am_G) (a0 : Nat) (M : am_M) (h_a0 : am_sh M a0 14) : am_S am_ei G 6 yX10_fault.cls yX10_fault.name cX10_fault 1 (some FieldType.int) 0 [(0, .ref a0)] [] M (fX10_fault a0 M) := by
  show am_S am_ei G 6 yX10_fault.cls yX10_fault.name cX10_fault 1 (some FieldType.int) 0 [(0, .ref a0)] [] M ((fX10_goesThrough a0 0 M).bind fun p6 => some (p6.1, p6.2))
  refine am_aload_n 0 dX10_fault_0 rfl rfl ?_
  refine am_iconst dX10_fault_1 am_kc_0 ?_
  refine am_callVi 9 [.int 0] (CX10_goesThrough G a0 0 M h_a0) dX10_fault_2 mb_yX10_goesThrough ⟨ml_RX10_136, im_yX10_goesThrough, se_yX10_goesThrough⟩ rfl h_a0 (by decide) rfl rfl (Nat.le_of_ble_eq_true rfl) (fun v5 M2 q1 w4 l3 => ?_)
  exact am_iret dX10_fault_5
theorem CX10_fault (G : am_G) (a0 : Nat) (M : am_M) (h_a0 : am_sh M a0 14) : am_C am_ei G 6 yX10_fault cX10_fault 1 (some FieldType.int) [.ref a0] M (fX10_fault a0 M) :=
  am_meth (by decide) rfl (Nat.le_of_ble_eq_true rfl) (sX10_fault_0 G a0 M h_a0)
def fX10_lay (a0 : Nat) (M : am_M) : Option (Int32 × am_M) := (fX10_goesThrough a0 0 M).bind fun p6 => if p6.1 = (-4) then if p6.2.1 a0 10 = 0 then (p6.2.2.2.1 a0 12).bind fun r21 => if (0 : Int32) < 0 ∨ am_len p6.2 r21 ≤ (0 : Int32).toNatClampNeg then none else some ((-2), am_pI (am_pI p6.2 r21 ((0 : Int32).toNatClampNeg) 5) a0 11 1) else (fX10_goesThrough a0 1 p6.2).bind fun p14 => (fX10_side a0 (am_pI (am_pI p14.2 a0 4 (p14.2.1 a0 15)) a0 6 ((am_pI p14.2 a0 4 (p14.2.1 a0 15)).1 a0 16))).bind fun p20 => some (p20.1, p20.2) else some ((-2), p6.2)
set_option maxRecDepth 100000 in
set_option maxHeartbeats 4000000 in
theorem sX10_lay_0 (G : am_G) (a0 : Nat) (M : am_M) (h_a0 : am_sh M a0 14) : am_S am_ei G 6 yX10_lay.cls yX10_lay.name cX10_lay 1 (some FieldType.int) 0 [(0, .ref a0)] [] M (fX10_lay a0 M) := by
  show am_S am_ei G 6 yX10_lay.cls yX10_lay.name cX10_lay 1 (some FieldType.int) 0 [(0, .ref a0)] [] M ((fX10_goesThrough a0 0 M).bind fun p6 => if p6.1 = (-4) then if p6.2.1 a0 10 = 0 then (p6.2.2.2.1 a0 12).bind fun r21 => if (0 : Int32) < 0 ∨ am_len p6.2 r21 ≤ (0 : Int32).toNatClampNeg then none else some ((-2), am_pI (am_pI p6.2 r21 ((0 : Int32).toNatClampNeg) 5) a0 11 1) else (fX10_goesThrough a0 1 p6.2).bind fun p14 => (fX10_side a0 (am_pI (am_pI p14.2 a0 4 (p14.2.1 a0 15)) a0 6 ((am_pI p14.2 a0 4 (p14.2.1 a0 15)).1 a0 16))).bind fun p20 => some (p20.1, p20.2) else some ((-2), p6.2))
  refine am_aload_n 0 dX10_lay_0 rfl rfl ?_
  refine am_iconst dX10_lay_1 am_kc_0 ?_
  refine am_callVi 9 [.int 0] (CX10_goesThrough G a0 0 M h_a0) dX10_lay_2 mb_yX10_goesThrough ⟨ml_RX10_136, im_yX10_goesThrough, se_yX10_goesThrough⟩ rfl h_a0 (by decide) rfl rfl (Nat.le_of_ble_eq_true rfl) (fun v5 M2 q1 w4 l3 => ?_)
  refine am_bipush (x := -4) dX10_lay_5 (by decide) ?_
  refine am_icmp_eq (tgt := 13) dX10_lay_7 (by decide) (fun c7 => ?_) (fun c7 => ?_)
  · refine am_aload_n 0 dX10_lay_13 rfl rfl ?_
    refine am_getI 9 dX10_lay_14 fl_RX10_70 (am_sh.mono l3 h_a0) rfl ?_
    refine am_if_ne (tgt := 35) dX10_lay_17 (by decide) (fun c8 => ?_) (fun c8 => ?_)
    · refine am_aload_n 0 dX10_lay_35 rfl rfl ?_
      refine am_iconst dX10_lay_36 am_kc_1 ?_
      refine am_callVi 9 [.int 1] (CX10_goesThrough G a0 1 M2 (am_sh.mono l3 h_a0)) dX10_lay_37 mb_yX10_goesThrough ⟨ml_RX10_136, im_yX10_goesThrough, se_yX10_goesThrough⟩ rfl (am_sh.mono l3 h_a0) (by decide) rfl rfl (Nat.le_of_ble_eq_true rfl) (fun v13 M10 q9 w12 l11 => ?_)
      refine am_pop dX10_lay_40 rfl ?_
      refine am_aload_n 0 dX10_lay_41 rfl rfl ?_
      refine am_aload_n 0 dX10_lay_42 rfl rfl ?_
      refine am_getI 9 dX10_lay_43 fl_RX10_102 (am_sh.mono l11 (am_sh.mono l3 h_a0)) rfl ?_
      refine am_putI 9 dX10_lay_46 fl_RX10_19 (am_sh.mono l11 (am_sh.mono l3 h_a0)) rfl rfl rfl rfl ?_
      refine am_aload_n 0 dX10_lay_49 rfl rfl ?_
      refine am_aload_n 0 dX10_lay_50 rfl rfl ?_
      refine am_getI 9 dX10_lay_51 fl_RX10_99 (am_sh.of (am_sh.mono l11 (am_sh.mono l3 h_a0)) rfl) rfl ?_
      refine am_putI 9 dX10_lay_54 fl_RX10_26 (am_sh.of (am_sh.mono l11 (am_sh.mono l3 h_a0)) rfl) rfl rfl rfl rfl ?_
      refine am_aload_n 0 dX10_lay_57 rfl rfl ?_
      refine am_callVi 9 [] (CX10_side G a0 (am_pI (am_pI M10 a0 4 (M10.1 a0 15)) a0 6 ((am_pI M10 a0 4 (M10.1 a0 15)).1 a0 16)) (am_sh.of (am_sh.mono l11 (am_sh.mono l3 h_a0)) rfl)) dX10_lay_58 mb_yX10_side ⟨ml_RX10_62, im_yX10_side, se_yX10_side⟩ rfl (am_sh.of (am_sh.mono l11 (am_sh.mono l3 h_a0)) rfl) (by decide) rfl rfl (Nat.le_of_ble_eq_true rfl) (fun v19 M16 q15 w18 l17 => ?_)
      exact am_iret dX10_lay_61
    · refine am_aload_n 0 dX10_lay_20 rfl rfl ?_
      refine am_getR 9 dX10_lay_21 fl_RX10_38 (am_sh.mono l3 h_a0) rfl (fun r21 e22 h23 => ?_)
      refine am_iconst dX10_lay_24 am_kc_0 ?_
      refine am_iconst dX10_lay_25 am_kc_5 ?_
      refine am_iast dX10_lay_26 h23 (fun b24 => ?_)
      refine am_aload_n 0 dX10_lay_27 rfl rfl ?_
      refine am_iconst dX10_lay_28 am_kc_1 ?_
      refine am_putI 9 dX10_lay_29 fl_RX10_79 (am_sh.of (am_sh.mono l3 h_a0) rfl) rfl rfl rfl rfl ?_
      refine am_bipush (x := -2) dX10_lay_32 (by decide) ?_
      exact am_iret dX10_lay_34
  · refine am_bipush (x := -2) dX10_lay_10 (by decide) ?_
    exact am_iret dX10_lay_12
theorem CX10_lay (G : am_G) (a0 : Nat) (M : am_M) (h_a0 : am_sh M a0 14) : am_C am_ei G 6 yX10_lay cX10_lay 1 (some FieldType.int) [.ref a0] M (fX10_lay a0 M) :=
  am_meth (by decide) rfl (Nat.le_of_ble_eq_true rfl) (sX10_lay_0 G a0 M h_a0)
def fX10_cause (a0 : Nat) (a1 : Int32) (M : am_M) : Option (Int32 × am_M) := if (0 : Int32) ≤ a1 then if M.1 a0 11 ≤ a1 then some ((-4), M) else (M.2.2.1 a0 12).bind fun r3 => if a1 < 0 ∨ am_len M r3 ≤ a1.toNatClampNeg then none else some (M.1 r3 (a1.toNatClampNeg), M) else some ((-1), M)
set_option maxRecDepth 100000 in
set_option maxHeartbeats 4000000 in
theorem sX10_cause_0 (G : am_G) (a0 : Nat) (a1 : Int32) (M : am_M) (h_a0 : am_sh M a0 14) : am_S am_ei G 0 yX10_cause.cls yX10_cause.name cX10_cause 2 (some FieldType.int) 0 [(0, .ref a0), (1, .int a1)] [] M (fX10_cause a0 a1 M) := by
  show am_S am_ei G 0 yX10_cause.cls yX10_cause.name cX10_cause 2 (some FieldType.int) 0 [(0, .ref a0), (1, .int a1)] [] M (if (0 : Int32) ≤ a1 then if M.1 a0 11 ≤ a1 then some ((-4), M) else (M.2.2.1 a0 12).bind fun r3 => if a1 < 0 ∨ am_len M r3 ≤ a1.toNatClampNeg then none else some (M.1 r3 (a1.toNatClampNeg), M) else some ((-1), M))
  refine am_iload_n 1 dX10_cause_0 rfl rfl ?_
  refine am_if_ge (tgt := 8) dX10_cause_1 (by decide) (fun c1 => ?_) (fun c1 => ?_)
  · refine am_iload_n 1 dX10_cause_8 rfl rfl ?_
    refine am_aload_n 0 dX10_cause_9 rfl rfl ?_
    refine am_getI 9 dX10_cause_10 fl_RX10_79 h_a0 rfl ?_
    refine am_icmp_ge (tgt := 25) dX10_cause_13 (by decide) (fun c2 => ?_) (fun c2 => ?_)
    · refine am_bipush (x := -4) dX10_cause_25 (by decide) ?_
      exact am_iret dX10_cause_27
    · refine am_aload_n 0 dX10_cause_16 rfl rfl ?_
      refine am_getR 9 dX10_cause_17 fl_RX10_38 h_a0 rfl (fun r3 e4 h5 => ?_)
      refine am_iload_n 1 dX10_cause_20 rfl rfl ?_
      refine am_iald dX10_cause_21 h5 (fun b6 => ?_)
      refine am_goto (tgt := 27) dX10_cause_22 (by decide) ?_
      exact am_iret dX10_cause_27
  · refine am_iconst dX10_cause_4 am_kc_m1 ?_
    refine am_goto (tgt := 27) dX10_cause_5 (by decide) ?_
    exact am_iret dX10_cause_27
theorem CX10_cause (G : am_G) (a0 : Nat) (a1 : Int32) (M : am_M) (h_a0 : am_sh M a0 14) : am_C am_ei G 0 yX10_cause cX10_cause 2 (some FieldType.int) [.ref a0, .int a1] M (fX10_cause a0 a1 M) :=
  am_meth (by decide) rfl (Nat.le_of_ble_eq_true rfl) (sX10_cause_0 G a0 a1 M h_a0)
def fX10_curve (a0 : Nat) (a1 : Int32) (M : am_M) : Option (Int32 × am_M) := (fX10_isIn a1 0 1 M).bind fun p6 => if p6.1 = 0 then some ((-1), p6.2) else if a1 = p6.2.1 a0 1 then some ((-2), p6.2) else some (1 - a1, am_pI p6.2 a0 1 a1)
set_option maxRecDepth 100000 in
set_option maxHeartbeats 4000000 in
theorem sX10_curve_0 (G : am_G) (a0 : Nat) (a1 : Int32) (M : am_M) (h_a0 : am_sh M a0 14) : am_S am_ei G 1 yX10_curve.cls yX10_curve.name cX10_curve 2 (some FieldType.int) 0 [(0, .ref a0), (1, .int a1)] [] M (fX10_curve a0 a1 M) := by
  show am_S am_ei G 1 yX10_curve.cls yX10_curve.name cX10_curve 2 (some FieldType.int) 0 [(0, .ref a0), (1, .int a1)] [] M ((fX10_isIn a1 0 1 M).bind fun p6 => if p6.1 = 0 then some ((-1), p6.2) else if a1 = p6.2.1 a0 1 then some ((-2), p6.2) else some (1 - a1, am_pI p6.2 a0 1 a1))
  refine am_iload_n 1 dX10_curve_0 rfl rfl ?_
  refine am_iconst dX10_curve_1 am_kc_0 ?_
  refine am_iconst dX10_curve_2 am_kc_1 ?_
  refine am_callSi [.int a1, .int 0, .int 1] (CX10_isIn G a1 0 1 M) dX10_curve_3 mb_yX10_isIn ⟨ml_RX10_66, sm_yX10_isIn⟩ (by decide) rfl rfl (Nat.le_of_ble_eq_true rfl) (fun v5 M2 q1 w4 l3 => ?_)
  refine am_if_ne (tgt := 11) dX10_curve_6 (by decide) (fun c7 => ?_) (fun c7 => ?_)
  · refine am_iload_n 1 dX10_curve_11 rfl rfl ?_
    refine am_aload_n 0 dX10_curve_12 rfl rfl ?_
    refine am_getI 9 dX10_curve_13 fl_RX10_13 (am_sh.mono l3 h_a0) rfl ?_
    refine am_icmp_ne (tgt := 22) dX10_curve_16 (by decide) (fun c8 => ?_) (fun c8 => ?_)
    · refine am_aload_n 0 dX10_curve_22 rfl rfl ?_
      refine am_iload_n 1 dX10_curve_23 rfl rfl ?_
      refine am_putI 9 dX10_curve_24 fl_RX10_13 (am_sh.mono l3 h_a0) rfl rfl rfl rfl ?_
      refine am_iconst dX10_curve_27 am_kc_1 ?_
      refine am_iload_n 1 dX10_curve_28 rfl rfl ?_
      refine am_isub dX10_curve_29 ?_
      exact am_iret dX10_curve_30
    · refine am_bipush (x := -2) dX10_curve_19 (by decide) ?_
      exact am_iret dX10_curve_21
  · refine am_iconst dX10_curve_9 am_kc_m1 ?_
    exact am_iret dX10_curve_10
theorem CX10_curve (G : am_G) (a0 : Nat) (a1 : Int32) (M : am_M) (h_a0 : am_sh M a0 14) : am_C am_ei G 1 yX10_curve cX10_curve 2 (some FieldType.int) [.ref a0, .int a1] M (fX10_curve a0 a1 M) :=
  am_meth (by decide) rfl (Nat.le_of_ble_eq_true rfl) (sX10_curve_0 G a0 a1 M h_a0)
def fX10_levels_42 (x0 : Nat) (x1 : Int32) (x2 : Int32) (M : am_M) : Option (Int32 × am_M) := some ((M.1 x0 2) + (10 * (M.1 x0 3)), am_pI (am_pI M x0 2 x1) x0 3 x2)
def fX10_levels (a0 : Nat) (a1 : Int32) (a2 : Int32) (M : am_M) : Option (Int32 × am_M) := (fX10_isIn a2 0 (M.1 a0 0) M).bind fun p6 => if p6.1 = 0 then some ((-1), p6.2) else (fX10_isIn a1 0 a2 p6.2).bind fun p13 => if p13.1 = 0 then some ((-1), p13.2) else if a1 = p13.2.1 a0 2 then if a2 = p13.2.1 a0 3 then some ((-2), p13.2) else fX10_levels_42 a0 a1 a2 p13.2 else fX10_levels_42 a0 a1 a2 p13.2
set_option maxRecDepth 100000 in
set_option maxHeartbeats 4000000 in
theorem sX10_levels_42 (G : am_G) (x0 : Nat) (x1 : Int32) (x2 : Int32) (M : am_M) (h_x0 : am_sh M x0 14) : am_S am_ei G 1 yX10_levels.cls yX10_levels.name cX10_levels 4 (some FieldType.int) 42 [(0, .ref x0), (1, .int x1), (2, .int x2)] [] M (fX10_levels_42 x0 x1 x2 M) := by
  show am_S am_ei G 1 yX10_levels.cls yX10_levels.name cX10_levels 4 (some FieldType.int) 42 [(0, .ref x0), (1, .int x1), (2, .int x2)] [] M (some ((M.1 x0 2) + (10 * (M.1 x0 3)), am_pI (am_pI M x0 2 x1) x0 3 x2))
  refine am_aload_n 0 dX10_levels_42 rfl rfl ?_
  refine am_getI 9 dX10_levels_43 fl_RX10_105 h_x0 rfl ?_
  refine am_bipush (x := 10) dX10_levels_46 (by decide) ?_
  refine am_aload_n 0 dX10_levels_48 rfl rfl ?_
  refine am_getI 9 dX10_levels_49 fl_RX10_16 h_x0 rfl ?_
  refine am_imul dX10_levels_52 ?_
  refine am_iadd dX10_levels_53 ?_
  refine am_istore_n (L' := [(3, .int ((M.1 x0 2) + (10 * (M.1 x0 3)))), (0, .ref x0), (1, .int x1), (2, .int x2)]) dX10_levels_54 rfl (by decide) rfl ?_
  refine am_aload_n 1 dX10_levels_55 rfl rfl ?_
  refine am_iload_n 2 dX10_levels_56 rfl rfl ?_
  refine am_putI 9 dX10_levels_57 fl_RX10_105 h_x0 rfl rfl rfl rfl ?_
  refine am_aload_n 1 dX10_levels_60 rfl rfl ?_
  refine am_iload_n 3 dX10_levels_61 rfl rfl ?_
  refine am_putI 9 dX10_levels_62 fl_RX10_16 (am_sh.of h_x0 rfl) rfl rfl rfl rfl ?_
  refine am_iload_n 0 dX10_levels_65 rfl rfl ?_
  exact am_iret dX10_levels_66
set_option maxRecDepth 100000 in
set_option maxHeartbeats 4000000 in
theorem sX10_levels_0 (G : am_G) (a0 : Nat) (a1 : Int32) (a2 : Int32) (M : am_M) (h_a0 : am_sh M a0 14) : am_S am_ei G 1 yX10_levels.cls yX10_levels.name cX10_levels 4 (some FieldType.int) 0 [(0, .ref a0), (1, .int a1), (2, .int a2)] [] M (fX10_levels a0 a1 a2 M) := by
  show am_S am_ei G 1 yX10_levels.cls yX10_levels.name cX10_levels 4 (some FieldType.int) 0 [(0, .ref a0), (1, .int a1), (2, .int a2)] [] M ((fX10_isIn a2 0 (M.1 a0 0) M).bind fun p6 => if p6.1 = 0 then some ((-1), p6.2) else (fX10_isIn a1 0 a2 p6.2).bind fun p13 => if p13.1 = 0 then some ((-1), p13.2) else if a1 = p13.2.1 a0 2 then if a2 = p13.2.1 a0 3 then some ((-2), p13.2) else fX10_levels_42 a0 a1 a2 p13.2 else fX10_levels_42 a0 a1 a2 p13.2)
  refine am_iload_n 2 dX10_levels_0 rfl rfl ?_
  refine am_iconst dX10_levels_1 am_kc_0 ?_
  refine am_aload_n 0 dX10_levels_2 rfl rfl ?_
  refine am_getI 9 dX10_levels_3 fl_RX10_7 h_a0 rfl ?_
  refine am_callSi [.int a2, .int 0, .int (M.1 a0 0)] (CX10_isIn G a2 0 (M.1 a0 0) M) dX10_levels_6 mb_yX10_isIn ⟨ml_RX10_66, sm_yX10_isIn⟩ (by decide) rfl rfl (Nat.le_of_ble_eq_true rfl) (fun v5 M2 q1 w4 l3 => ?_)
  refine am_if_eq (tgt := 21) dX10_levels_9 (by decide) (fun c7 => ?_) (fun c7 => ?_)
  · refine am_iconst dX10_levels_21 am_kc_m1 ?_
    exact am_iret dX10_levels_22
  · refine am_iload_n 1 dX10_levels_12 rfl rfl ?_
    refine am_iconst dX10_levels_13 am_kc_0 ?_
    refine am_iload_n 2 dX10_levels_14 rfl rfl ?_
    refine am_callSi [.int a1, .int 0, .int a2] (CX10_isIn G a1 0 a2 M2) dX10_levels_15 mb_yX10_isIn ⟨ml_RX10_66, sm_yX10_isIn⟩ (by decide) rfl rfl (Nat.le_of_ble_eq_true rfl) (fun v12 M9 q8 w11 l10 => ?_)
    refine am_if_ne (tgt := 23) dX10_levels_18 (by decide) (fun c14 => ?_) (fun c14 => ?_)
    · refine am_iload_n 1 dX10_levels_23 rfl rfl ?_
      refine am_aload_n 0 dX10_levels_24 rfl rfl ?_
      refine am_getI 9 dX10_levels_25 fl_RX10_105 (am_sh.mono l10 (am_sh.mono l3 h_a0)) rfl ?_
      refine am_icmp_ne (tgt := 42) dX10_levels_28 (by decide) (fun c15 => ?_) (fun c15 => ?_)
      · exact sX10_levels_42 G a0 a1 a2 M9 (am_sh.mono l10 (am_sh.mono l3 h_a0))
      · refine am_iload_n 2 dX10_levels_31 rfl rfl ?_
        refine am_aload_n 0 dX10_levels_32 rfl rfl ?_
        refine am_getI 9 dX10_levels_33 fl_RX10_16 (am_sh.mono l10 (am_sh.mono l3 h_a0)) rfl ?_
        refine am_icmp_ne (tgt := 42) dX10_levels_36 (by decide) (fun c16 => ?_) (fun c16 => ?_)
        · exact sX10_levels_42 G a0 a1 a2 M9 (am_sh.mono l10 (am_sh.mono l3 h_a0))
        · refine am_bipush (x := -2) dX10_levels_39 (by decide) ?_
          exact am_iret dX10_levels_41
    · refine am_iconst dX10_levels_21 am_kc_m1 ?_
      exact am_iret dX10_levels_22
theorem CX10_levels (G : am_G) (a0 : Nat) (a1 : Int32) (a2 : Int32) (M : am_M) (h_a0 : am_sh M a0 14) : am_C am_ei G 1 yX10_levels cX10_levels 4 (some FieldType.int) [.ref a0, .int a1, .int a2] M (fX10_levels a0 a1 a2 M) :=
  am_meth (by decide) rfl (Nat.le_of_ble_eq_true rfl) (sX10_levels_0 G a0 a1 a2 M h_a0)
def fX10_more (a0 : Nat) (a1 : Int32) (a2 : Int32) (a3 : Int32) (a4 : Int32) (a5 : Int32) (a6 : Int32) (M : am_M) : Option (Int32 × am_M) := if M.1 a0 4 = 8 then some ((-3), M) else (fX10_puts a0 (M.1 a0 4) a1 a2 a3 a4 a5 a6 M).bind fun M3 => some ((am_pI M3 a0 4 ((M3.1 a0 4) + 1)).1 a0 4, am_pI M3 a0 4 ((M3.1 a0 4) + 1))
set_option maxRecDepth 100000 in
set_option maxHeartbeats 4000000 in
theorem sX10_more_0 (G : am_G) (a0 : Nat) (a1 : Int32) (a2 : Int32) (a3 : Int32) (a4 : Int32) (a5 : Int32) (a6 : Int32) (M : am_M) (h_a0 : am_sh M a0 14) : am_S am_ei G 1 yX10_more.cls yX10_more.name cX10_more 7 (some FieldType.int) 0 [(0, .ref a0), (1, .int a1), (2, .int a2), (3, .int a3), (4, .int a4), (5, .int a5), (6, .int a6)] [] M (fX10_more a0 a1 a2 a3 a4 a5 a6 M) := by
  show am_S am_ei G 1 yX10_more.cls yX10_more.name cX10_more 7 (some FieldType.int) 0 [(0, .ref a0), (1, .int a1), (2, .int a2), (3, .int a3), (4, .int a4), (5, .int a5), (6, .int a6)] [] M (if M.1 a0 4 = 8 then some ((-3), M) else (fX10_puts a0 (M.1 a0 4) a1 a2 a3 a4 a5 a6 M).bind fun M3 => some ((am_pI M3 a0 4 ((M3.1 a0 4) + 1)).1 a0 4, am_pI M3 a0 4 ((M3.1 a0 4) + 1)))
  refine am_aload_n 0 dX10_more_0 rfl rfl ?_
  refine am_getI 9 dX10_more_1 fl_RX10_19 h_a0 rfl ?_
  refine am_bipush (x := 8) dX10_more_4 (by decide) ?_
  refine am_icmp_ne (tgt := 12) dX10_more_6 (by decide) (fun c1 => ?_) (fun c1 => ?_)
  · refine am_aload_n 0 dX10_more_12 rfl rfl ?_
    refine am_aload_n 0 dX10_more_13 rfl rfl ?_
    refine am_getI 9 dX10_more_14 fl_RX10_19 h_a0 rfl ?_
    refine am_iload_n 1 dX10_more_17 rfl rfl ?_
    refine am_iload_n 2 dX10_more_18 rfl rfl ?_
    refine am_iload_n 3 dX10_more_19 rfl rfl ?_
    refine am_iload 4 dX10_more_20 rfl ?_
    refine am_iload 5 dX10_more_22 rfl ?_
    refine am_iload 6 dX10_more_24 rfl ?_
    refine am_callVv 9 [.int (M.1 a0 4), .int a1, .int a2, .int a3, .int a4, .int a5, .int a6] (CX10_puts G a0 (M.1 a0 4) a1 a2 a3 a4 a5 a6 M h_a0) dX10_more_26 mb_yX10_puts ⟨ml_RX10_108, im_yX10_puts, se_yX10_puts⟩ rfl h_a0 (by decide) rfl rfl (Nat.le_of_ble_eq_true rfl) (fun M3 q2 w5 l4 => ?_)
    refine am_aload_n 0 dX10_more_29 rfl rfl ?_
    refine am_dup dX10_more_30 rfl ?_
    refine am_getI 9 dX10_more_31 fl_RX10_19 (am_sh.mono l4 h_a0) rfl ?_
    refine am_iconst dX10_more_34 am_kc_1 ?_
    refine am_iadd dX10_more_35 ?_
    refine am_putI 9 dX10_more_36 fl_RX10_19 (am_sh.mono l4 h_a0) rfl rfl rfl rfl ?_
    refine am_aload_n 0 dX10_more_39 rfl rfl ?_
    refine am_getI 9 dX10_more_40 fl_RX10_19 (am_sh.of (am_sh.mono l4 h_a0) rfl) rfl ?_
    exact am_iret dX10_more_43
  · refine am_bipush (x := -3) dX10_more_9 (by decide) ?_
    exact am_iret dX10_more_11
theorem CX10_more (G : am_G) (a0 : Nat) (a1 : Int32) (a2 : Int32) (a3 : Int32) (a4 : Int32) (a5 : Int32) (a6 : Int32) (M : am_M) (h_a0 : am_sh M a0 14) : am_C am_ei G 1 yX10_more cX10_more 7 (some FieldType.int) [.ref a0, .int a1, .int a2, .int a3, .int a4, .int a5, .int a6] M (fX10_more a0 a1 a2 a3 a4 a5 a6 M) :=
  am_meth (by decide) rfl (Nat.le_of_ble_eq_true rfl) (sX10_more_0 G a0 a1 a2 a3 a4 a5 a6 M h_a0)
def fX10_box (a0 : Nat) (a1 : Int32) (a2 : Int32) (a3 : Int32) (a4 : Int32) (a5 : Int32) (M : am_M) : Option (Int32 × am_M) := (fX10_isIn a1 0 1 M).bind fun p6 => if p6.1 = 0 then some ((-1), p6.2) else (fX10_isCell a0 a2 a3 p6.2).bind fun p13 => if p13.1 = 0 then some ((-1), p13.2) else (fX10_isCell a0 a4 a5 p13.2).bind fun p20 => if p20.1 = 0 then some ((-1), p20.2) else if a4 < a2 then some ((-1), p20.2) else if a5 < a3 then some ((-1), p20.2) else (fX10_more a0 a1 0 a2 a3 a4 a5 p20.2).bind fun p29 => some (p29.1, p29.2)
set_option maxRecDepth 100000 in
set_option maxHeartbeats 4000000 in
theorem sX10_box_0 (G : am_G) (a0 : Nat) (a1 : Int32) (a2 : Int32) (a3 : Int32) (a4 : Int32) (a5 : Int32) (M : am_M) (h_a0 : am_sh M a0 14) : am_S am_ei G 2 yX10_box.cls yX10_box.name cX10_box 6 (some FieldType.int) 0 [(0, .ref a0), (1, .int a1), (2, .int a2), (3, .int a3), (4, .int a4), (5, .int a5)] [] M (fX10_box a0 a1 a2 a3 a4 a5 M) := by
  show am_S am_ei G 2 yX10_box.cls yX10_box.name cX10_box 6 (some FieldType.int) 0 [(0, .ref a0), (1, .int a1), (2, .int a2), (3, .int a3), (4, .int a4), (5, .int a5)] [] M ((fX10_isIn a1 0 1 M).bind fun p6 => if p6.1 = 0 then some ((-1), p6.2) else (fX10_isCell a0 a2 a3 p6.2).bind fun p13 => if p13.1 = 0 then some ((-1), p13.2) else (fX10_isCell a0 a4 a5 p13.2).bind fun p20 => if p20.1 = 0 then some ((-1), p20.2) else if a4 < a2 then some ((-1), p20.2) else if a5 < a3 then some ((-1), p20.2) else (fX10_more a0 a1 0 a2 a3 a4 a5 p20.2).bind fun p29 => some (p29.1, p29.2))
  refine am_iload_n 1 dX10_box_0 rfl rfl ?_
  refine am_iconst dX10_box_1 am_kc_0 ?_
  refine am_iconst dX10_box_2 am_kc_1 ?_
  refine am_callSi [.int a1, .int 0, .int 1] (CX10_isIn G a1 0 1 M) dX10_box_3 mb_yX10_isIn ⟨ml_RX10_66, sm_yX10_isIn⟩ (by decide) rfl rfl (Nat.le_of_ble_eq_true rfl) (fun v5 M2 q1 w4 l3 => ?_)
  refine am_if_eq (tgt := 56) dX10_box_6 (by decide) (fun c7 => ?_) (fun c7 => ?_)
  · refine am_iconst dX10_box_56 am_kc_m1 ?_
    exact am_iret dX10_box_57
  · refine am_aload_n 0 dX10_box_9 rfl rfl ?_
    refine am_iload_n 2 dX10_box_10 rfl rfl ?_
    refine am_iload_n 3 dX10_box_11 rfl rfl ?_
    refine am_callVi 9 [.int a2, .int a3] (CX10_isCell G a0 a2 a3 M2 (am_sh.mono l3 h_a0)) dX10_box_12 mb_yX10_isCell ⟨ml_RX10_140, im_yX10_isCell, se_yX10_isCell⟩ rfl (am_sh.mono l3 h_a0) (by decide) rfl rfl (Nat.le_of_ble_eq_true rfl) (fun v12 M9 q8 w11 l10 => ?_)
    refine am_if_eq (tgt := 56) dX10_box_15 (by decide) (fun c14 => ?_) (fun c14 => ?_)
    · refine am_iconst dX10_box_56 am_kc_m1 ?_
      exact am_iret dX10_box_57
    · refine am_aload_n 0 dX10_box_18 rfl rfl ?_
      refine am_iload 4 dX10_box_19 rfl ?_
      refine am_iload 5 dX10_box_21 rfl ?_
      refine am_callVi 9 [.int a4, .int a5] (CX10_isCell G a0 a4 a5 M9 (am_sh.mono l10 (am_sh.mono l3 h_a0))) dX10_box_23 mb_yX10_isCell ⟨ml_RX10_140, im_yX10_isCell, se_yX10_isCell⟩ rfl (am_sh.mono l10 (am_sh.mono l3 h_a0)) (by decide) rfl rfl (Nat.le_of_ble_eq_true rfl) (fun v19 M16 q15 w18 l17 => ?_)
      refine am_if_eq (tgt := 56) dX10_box_26 (by decide) (fun c21 => ?_) (fun c21 => ?_)
      · refine am_iconst dX10_box_56 am_kc_m1 ?_
        exact am_iret dX10_box_57
      · refine am_iload_n 2 dX10_box_29 rfl rfl ?_
        refine am_iload 4 dX10_box_30 rfl ?_
        refine am_icmp_gt (tgt := 56) dX10_box_32 (by decide) (fun c22 => ?_) (fun c22 => ?_)
        · refine am_iconst dX10_box_56 am_kc_m1 ?_
          exact am_iret dX10_box_57
        · refine am_iload_n 3 dX10_box_35 rfl rfl ?_
          refine am_iload 5 dX10_box_36 rfl ?_
          refine am_icmp_gt (tgt := 56) dX10_box_38 (by decide) (fun c23 => ?_) (fun c23 => ?_)
          · refine am_iconst dX10_box_56 am_kc_m1 ?_
            exact am_iret dX10_box_57
          · refine am_aload_n 0 dX10_box_41 rfl rfl ?_
            refine am_iload_n 1 dX10_box_42 rfl rfl ?_
            refine am_iconst dX10_box_43 am_kc_0 ?_
            refine am_iload_n 2 dX10_box_44 rfl rfl ?_
            refine am_iload_n 3 dX10_box_45 rfl rfl ?_
            refine am_iload 4 dX10_box_46 rfl ?_
            refine am_iload 5 dX10_box_48 rfl ?_
            refine am_callVi 9 [.int a1, .int 0, .int a2, .int a3, .int a4, .int a5] (CX10_more G a0 a1 0 a2 a3 a4 a5 M16 (am_sh.mono l17 (am_sh.mono l10 (am_sh.mono l3 h_a0)))) dX10_box_50 mb_yX10_more ⟨ml_RX10_143, im_yX10_more, se_yX10_more⟩ rfl (am_sh.mono l17 (am_sh.mono l10 (am_sh.mono l3 h_a0))) (by decide) rfl rfl (Nat.le_of_ble_eq_true rfl) (fun v28 M25 q24 w27 l26 => ?_)
            refine am_goto (tgt := 57) dX10_box_53 (by decide) ?_
            exact am_iret dX10_box_57
theorem CX10_box (G : am_G) (a0 : Nat) (a1 : Int32) (a2 : Int32) (a3 : Int32) (a4 : Int32) (a5 : Int32) (M : am_M) (h_a0 : am_sh M a0 14) : am_C am_ei G 2 yX10_box cX10_box 6 (some FieldType.int) [.ref a0, .int a1, .int a2, .int a3, .int a4, .int a5] M (fX10_box a0 a1 a2 a3 a4 a5 M) :=
  am_meth (by decide) rfl (Nat.le_of_ble_eq_true rfl) (sX10_box_0 G a0 a1 a2 a3 a4 a5 M h_a0)
def fX10_disc (a0 : Nat) (a1 : Int32) (a2 : Int32) (a3 : Int32) (a4 : Int32) (M : am_M) : Option (Int32 × am_M) := (fX10_isIn a1 0 1 M).bind fun p6 => if p6.1 = 0 then some ((-1), p6.2) else (fX10_isCell a0 a2 a3 p6.2).bind fun p13 => if p13.1 = 0 then some ((-1), p13.2) else (fX10_isIn a4 0 63 p13.2).bind fun p20 => if p20.1 = 0 then some ((-1), p20.2) else (fX10_more a0 a1 1 a2 a3 a4 0 p20.2).bind fun p27 => some (p27.1, p27.2)
set_option maxRecDepth 100000 in
set_option maxHeartbeats 4000000 in
theorem sX10_disc_0 (G : am_G) (a0 : Nat) (a1 : Int32) (a2 : Int32) (a3 : Int32) (a4 : Int32) (M : am_M) (h_a0 : am_sh M a0 14) : am_S am_ei G 2 yX10_disc.cls yX10_disc.name cX10_disc 5 (some FieldType.int) 0 [(0, .ref a0), (1, .int a1), (2, .int a2), (3, .int a3), (4, .int a4)] [] M (fX10_disc a0 a1 a2 a3 a4 M) := by
  show am_S am_ei G 2 yX10_disc.cls yX10_disc.name cX10_disc 5 (some FieldType.int) 0 [(0, .ref a0), (1, .int a1), (2, .int a2), (3, .int a3), (4, .int a4)] [] M ((fX10_isIn a1 0 1 M).bind fun p6 => if p6.1 = 0 then some ((-1), p6.2) else (fX10_isCell a0 a2 a3 p6.2).bind fun p13 => if p13.1 = 0 then some ((-1), p13.2) else (fX10_isIn a4 0 63 p13.2).bind fun p20 => if p20.1 = 0 then some ((-1), p20.2) else (fX10_more a0 a1 1 a2 a3 a4 0 p20.2).bind fun p27 => some (p27.1, p27.2))
  refine am_iload_n 1 dX10_disc_0 rfl rfl ?_
  refine am_iconst dX10_disc_1 am_kc_0 ?_
  refine am_iconst dX10_disc_2 am_kc_1 ?_
  refine am_callSi [.int a1, .int 0, .int 1] (CX10_isIn G a1 0 1 M) dX10_disc_3 mb_yX10_isIn ⟨ml_RX10_66, sm_yX10_isIn⟩ (by decide) rfl rfl (Nat.le_of_ble_eq_true rfl) (fun v5 M2 q1 w4 l3 => ?_)
  refine am_if_eq (tgt := 43) dX10_disc_6 (by decide) (fun c7 => ?_) (fun c7 => ?_)
  · refine am_iconst dX10_disc_43 am_kc_m1 ?_
    exact am_iret dX10_disc_44
  · refine am_aload_n 0 dX10_disc_9 rfl rfl ?_
    refine am_iload_n 2 dX10_disc_10 rfl rfl ?_
    refine am_iload_n 3 dX10_disc_11 rfl rfl ?_
    refine am_callVi 9 [.int a2, .int a3] (CX10_isCell G a0 a2 a3 M2 (am_sh.mono l3 h_a0)) dX10_disc_12 mb_yX10_isCell ⟨ml_RX10_140, im_yX10_isCell, se_yX10_isCell⟩ rfl (am_sh.mono l3 h_a0) (by decide) rfl rfl (Nat.le_of_ble_eq_true rfl) (fun v12 M9 q8 w11 l10 => ?_)
    refine am_if_eq (tgt := 43) dX10_disc_15 (by decide) (fun c14 => ?_) (fun c14 => ?_)
    · refine am_iconst dX10_disc_43 am_kc_m1 ?_
      exact am_iret dX10_disc_44
    · refine am_iload 4 dX10_disc_18 rfl ?_
      refine am_iconst dX10_disc_20 am_kc_0 ?_
      refine am_bipush (x := 63) dX10_disc_21 (by decide) ?_
      refine am_callSi [.int a4, .int 0, .int 63] (CX10_isIn G a4 0 63 M9) dX10_disc_23 mb_yX10_isIn ⟨ml_RX10_66, sm_yX10_isIn⟩ (by decide) rfl rfl (Nat.le_of_ble_eq_true rfl) (fun v19 M16 q15 w18 l17 => ?_)
      refine am_if_eq (tgt := 43) dX10_disc_26 (by decide) (fun c21 => ?_) (fun c21 => ?_)
      · refine am_iconst dX10_disc_43 am_kc_m1 ?_
        exact am_iret dX10_disc_44
      · refine am_aload_n 0 dX10_disc_29 rfl rfl ?_
        refine am_iload_n 1 dX10_disc_30 rfl rfl ?_
        refine am_iconst dX10_disc_31 am_kc_1 ?_
        refine am_iload_n 2 dX10_disc_32 rfl rfl ?_
        refine am_iload_n 3 dX10_disc_33 rfl rfl ?_
        refine am_iload 4 dX10_disc_34 rfl ?_
        refine am_iconst dX10_disc_36 am_kc_0 ?_
        refine am_callVi 9 [.int a1, .int 1, .int a2, .int a3, .int a4, .int 0] (CX10_more G a0 a1 1 a2 a3 a4 0 M16 (am_sh.mono l17 (am_sh.mono l10 (am_sh.mono l3 h_a0)))) dX10_disc_37 mb_yX10_more ⟨ml_RX10_143, im_yX10_more, se_yX10_more⟩ rfl (am_sh.mono l17 (am_sh.mono l10 (am_sh.mono l3 h_a0))) (by decide) rfl rfl (Nat.le_of_ble_eq_true rfl) (fun v26 M23 q22 w25 l24 => ?_)
        refine am_goto (tgt := 44) dX10_disc_40 (by decide) ?_
        exact am_iret dX10_disc_44
theorem CX10_disc (G : am_G) (a0 : Nat) (a1 : Int32) (a2 : Int32) (a3 : Int32) (a4 : Int32) (M : am_M) (h_a0 : am_sh M a0 14) : am_C am_ei G 2 yX10_disc cX10_disc 5 (some FieldType.int) [.ref a0, .int a1, .int a2, .int a3, .int a4] M (fX10_disc a0 a1 a2 a3 a4 M) :=
  am_meth (by decide) rfl (Nat.le_of_ble_eq_true rfl) (sX10_disc_0 G a0 a1 a2 a3 a4 M h_a0)
def fX10_drop_31 : ((Nat × Int32 × am_M) → Option (Int32 × am_M)) → (Nat × Int32 × am_M) → Option (Int32 × am_M) := fun k31 q0 => match q0 with
  | (x0, x2, M) => if 6 * (M.1 x0 4) ≤ x2 then some (M.1 x0 4, M) else (M.2.2.1 x0 5).bind fun r9 => (M.2.2.1 x0 5).bind fun r12 => if x2 + 6 < 0 ∨ am_len M r12 ≤ (x2 + 6).toNatClampNeg then none else if x2 < 0 ∨ am_len M r9 ≤ x2.toNatClampNeg then none else k31 (x0, x2 + 1, am_pI M r9 x2.toNatClampNeg (M.1 r12 ((x2 + 6).toNatClampNeg)))
def fX10_drop (a0 : Nat) (a1 : Int32) (M : am_M) : Option (Int32 × am_M) := (fX10_isIn a1 0 ((M.1 a0 4) - 1) M).bind fun p6 => if p6.1 = 0 then some ((-1), p6.2) else am_loop (fX10_drop_31) 100000 (a0, 6 * a1, am_pI p6.2 a0 4 ((p6.2.1 a0 4) - 1))
set_option maxRecDepth 100000 in
set_option maxHeartbeats 4000000 in
theorem sX10_drop_31 (G : am_G) (k31 : (Nat × Int32 × am_M) → Option (Int32 × am_M)) (hk31 : ∀ q : (Nat × Int32 × am_M), (match q with | (x0, x2, M) => am_sh M x0 14) → match q with | (x0, x2, M) => am_S am_ei G 1 yX10_drop.cls yX10_drop.name cX10_drop 3 (some FieldType.int) 31 [(0, .ref x0), (2, .int x2)] [] M (k31 (x0, x2, M))) (x0 : Nat) (x2 : Int32) (M : am_M) (h_x0 : am_sh M x0 14) : am_S am_ei G 1 yX10_drop.cls yX10_drop.name cX10_drop 3 (some FieldType.int) 31 [(0, .ref x0), (2, .int x2)] [] M (fX10_drop_31 k31 (x0, x2, M)) := by
  show am_S am_ei G 1 yX10_drop.cls yX10_drop.name cX10_drop 3 (some FieldType.int) 31 [(0, .ref x0), (2, .int x2)] [] M (if 6 * (M.1 x0 4) ≤ x2 then some (M.1 x0 4, M) else (M.2.2.1 x0 5).bind fun r9 => (M.2.2.1 x0 5).bind fun r12 => if x2 + 6 < 0 ∨ am_len M r12 ≤ (x2 + 6).toNatClampNeg then none else if x2 < 0 ∨ am_len M r9 ≤ x2.toNatClampNeg then none else k31 (x0, x2 + 1, am_pI M r9 x2.toNatClampNeg (M.1 r12 ((x2 + 6).toNatClampNeg))))
  refine am_iload_n 1 dX10_drop_31 rfl rfl ?_
  refine am_bipush (x := 6) dX10_drop_32 (by decide) ?_
  refine am_aload_n 0 dX10_drop_34 rfl rfl ?_
  refine am_getI 9 dX10_drop_35 fl_RX10_19 h_x0 rfl ?_
  refine am_imul dX10_drop_38 ?_
  refine am_icmp_ge (tgt := 63) dX10_drop_39 (by decide) (fun c8 => ?_) (fun c8 => ?_)
  · refine am_aload_n 0 dX10_drop_63 rfl rfl ?_
    refine am_getI 9 dX10_drop_64 fl_RX10_19 h_x0 rfl ?_
    exact am_iret dX10_drop_67
  · refine am_aload_n 0 dX10_drop_42 rfl rfl ?_
    refine am_getR 9 dX10_drop_43 fl_RX10_22 h_x0 rfl (fun r9 e10 h11 => ?_)
    refine am_iload_n 1 dX10_drop_46 rfl rfl ?_
    refine am_aload_n 0 dX10_drop_47 rfl rfl ?_
    refine am_getR 9 dX10_drop_48 fl_RX10_22 h_x0 rfl (fun r12 e13 h14 => ?_)
    refine am_iload_n 1 dX10_drop_51 rfl rfl ?_
    refine am_bipush (x := 6) dX10_drop_52 (by decide) ?_
    refine am_iadd dX10_drop_54 ?_
    refine am_iald dX10_drop_55 h14 (fun b15 => ?_)
    refine am_iast dX10_drop_56 h11 (fun b16 => ?_)
    refine am_iinc (L' := [(2, .int (x2 + 1)), (0, .ref x0)]) 1 dX10_drop_57 rfl (by rfl) (by decide) rfl ?_
    refine am_goto (tgt := 31) dX10_drop_60 (by decide) ?_
    refine am_sub [1, 0] rfl ?_
    exact hk31 (x0, x2 + 1, am_pI M r9 x2.toNatClampNeg (M.1 r12 ((x2 + 6).toNatClampNeg))) (am_sh.of h_x0 rfl)
set_option maxRecDepth 100000 in
set_option maxHeartbeats 4000000 in
theorem lX10_drop_31 (G : am_G) (n : Nat) (q : (Nat × Int32 × am_M)) (hq : match q with | (x0, x2, M) => am_sh M x0 14) : match q with | (x0, x2, M) => am_S am_ei G 1 yX10_drop.cls yX10_drop.name cX10_drop 3 (some FieldType.int) 31 [(0, .ref x0), (2, .int x2)] [] M (am_loop (fX10_drop_31) n (x0, x2, M)) := by
  exact am_loop_ok (fun q : (Nat × Int32 × am_M) => match q with | (x0, x2, M) => am_sh M x0 14) (fun q X => match q with | (x0, x2, M) => am_S am_ei G 1 yX10_drop.cls yX10_drop.name cX10_drop 3 (some FieldType.int) 31 [(0, .ref x0), (2, .int x2)] [] M X) (fun _ => am_none) (fun k31 hk31 q hq => match q, hq with | (x0, x2, M), h_x0 => sX10_drop_31 G k31 hk31 x0 x2 M h_x0) n q hq
set_option maxRecDepth 100000 in
set_option maxHeartbeats 4000000 in
theorem sX10_drop_0 (G : am_G) (a0 : Nat) (a1 : Int32) (M : am_M) (h_a0 : am_sh M a0 14) : am_S am_ei G 1 yX10_drop.cls yX10_drop.name cX10_drop 3 (some FieldType.int) 0 [(0, .ref a0), (1, .int a1)] [] M (fX10_drop a0 a1 M) := by
  show am_S am_ei G 1 yX10_drop.cls yX10_drop.name cX10_drop 3 (some FieldType.int) 0 [(0, .ref a0), (1, .int a1)] [] M ((fX10_isIn a1 0 ((M.1 a0 4) - 1) M).bind fun p6 => if p6.1 = 0 then some ((-1), p6.2) else am_loop (fX10_drop_31) 100000 (a0, 6 * a1, am_pI p6.2 a0 4 ((p6.2.1 a0 4) - 1)))
  refine am_iload_n 1 dX10_drop_0 rfl rfl ?_
  refine am_iconst dX10_drop_1 am_kc_0 ?_
  refine am_aload_n 0 dX10_drop_2 rfl rfl ?_
  refine am_getI 9 dX10_drop_3 fl_RX10_19 h_a0 rfl ?_
  refine am_iconst dX10_drop_6 am_kc_1 ?_
  refine am_isub dX10_drop_7 ?_
  refine am_callSi [.int a1, .int 0, .int ((M.1 a0 4) - 1)] (CX10_isIn G a1 0 ((M.1 a0 4) - 1) M) dX10_drop_8 mb_yX10_isIn ⟨ml_RX10_66, sm_yX10_isIn⟩ (by decide) rfl rfl (Nat.le_of_ble_eq_true rfl) (fun v5 M2 q1 w4 l3 => ?_)
  refine am_if_ne (tgt := 16) dX10_drop_11 (by decide) (fun c7 => ?_) (fun c7 => ?_)
  · refine am_aload_n 0 dX10_drop_16 rfl rfl ?_
    refine am_dup dX10_drop_17 rfl ?_
    refine am_getI 9 dX10_drop_18 fl_RX10_19 (am_sh.mono l3 h_a0) rfl ?_
    refine am_iconst dX10_drop_21 am_kc_1 ?_
    refine am_isub dX10_drop_22 ?_
    refine am_putI 9 dX10_drop_23 fl_RX10_19 (am_sh.mono l3 h_a0) rfl rfl rfl rfl ?_
    refine am_bipush (x := 6) dX10_drop_26 (by decide) ?_
    refine am_iload_n 1 dX10_drop_28 rfl rfl ?_
    refine am_imul dX10_drop_29 ?_
    refine am_istore_n (L' := [(2, .int (6 * a1)), (0, .ref a0), (1, .int a1)]) dX10_drop_30 rfl (by decide) rfl ?_
    refine am_sub [1, 0] rfl ?_
    exact lX10_drop_31 G 100000 (a0, 6 * a1, am_pI M2 a0 4 ((M2.1 a0 4) - 1)) (am_sh.of (am_sh.mono l3 h_a0) rfl)
  · refine am_iconst dX10_drop_14 am_kc_m1 ?_
    exact am_iret dX10_drop_15
theorem CX10_drop (G : am_G) (a0 : Nat) (a1 : Int32) (M : am_M) (h_a0 : am_sh M a0 14) : am_C am_ei G 1 yX10_drop cX10_drop 3 (some FieldType.int) [.ref a0, .int a1] M (fX10_drop a0 a1 M) :=
  am_meth (by decide) rfl (Nat.le_of_ble_eq_true rfl) (sX10_drop_0 G a0 a1 M h_a0)
def fX10_point (a0 : Nat) (a1 : Int32) (a2 : Int32) (M : am_M) : Option (Int32 × am_M) := (fX10_isCell a0 a1 a2 M).bind fun p6 => if p6.1 = 0 then some ((-1), p6.2) else if p6.2.1 a0 6 = 40 then some ((-3), p6.2) else (p6.2.2.2.1 a0 7).bind fun r9 => if p6.2.1 a0 6 < 0 ∨ am_len p6.2 r9 ≤ (p6.2.1 a0 6).toNatClampNeg then none else ((am_pI p6.2 r9 (p6.2.1 a0 6).toNatClampNeg a1).2.2.1 a0 8).bind fun r13 => if (am_pI p6.2 r9 (p6.2.1 a0 6).toNatClampNeg a1).1 a0 6 < 0 ∨ am_len (am_pI p6.2 r9 (p6.2.1 a0 6).toNatClampNeg a1) r13 ≤ ((am_pI p6.2 r9 (p6.2.1 a0 6).toNatClampNeg a1).1 a0 6).toNatClampNeg then none else some (((am_pI (am_pI (am_pI p6.2 r9 (p6.2.1 a0 6).toNatClampNeg a1) r13 ((am_pI p6.2 r9 (p6.2.1 a0 6).toNatClampNeg a1).1 a0 6).toNatClampNeg a2) a0 6 (((am_pI (am_pI p6.2 r9 (p6.2.1 a0 6).toNatClampNeg a1) r13 ((am_pI p6.2 r9 (p6.2.1 a0 6).toNatClampNeg a1).1 a0 6).toNatClampNeg a2).1 a0 6) + 1)).1 a0 6) - 1, am_pI (am_pI (am_pI p6.2 r9 (p6.2.1 a0 6).toNatClampNeg a1) r13 ((am_pI p6.2 r9 (p6.2.1 a0 6).toNatClampNeg a1).1 a0 6).toNatClampNeg a2) a0 6 (((am_pI (am_pI p6.2 r9 (p6.2.1 a0 6).toNatClampNeg a1) r13 ((am_pI p6.2 r9 (p6.2.1 a0 6).toNatClampNeg a1).1 a0 6).toNatClampNeg a2).1 a0 6) + 1))
set_option maxRecDepth 100000 in
set_option maxHeartbeats 4000000 in
theorem sX10_point_0 (G : am_G) (a0 : Nat) (a1 : Int32) (a2 : Int32) (M : am_M) (h_a0 : am_sh M a0 14) : am_S am_ei G 2 yX10_point.cls yX10_point.name cX10_point 3 (some FieldType.int) 0 [(0, .ref a0), (1, .int a1), (2, .int a2)] [] M (fX10_point a0 a1 a2 M) := by
  show am_S am_ei G 2 yX10_point.cls yX10_point.name cX10_point 3 (some FieldType.int) 0 [(0, .ref a0), (1, .int a1), (2, .int a2)] [] M ((fX10_isCell a0 a1 a2 M).bind fun p6 => if p6.1 = 0 then some ((-1), p6.2) else if p6.2.1 a0 6 = 40 then some ((-3), p6.2) else (p6.2.2.2.1 a0 7).bind fun r9 => if p6.2.1 a0 6 < 0 ∨ am_len p6.2 r9 ≤ (p6.2.1 a0 6).toNatClampNeg then none else ((am_pI p6.2 r9 (p6.2.1 a0 6).toNatClampNeg a1).2.2.1 a0 8).bind fun r13 => if (am_pI p6.2 r9 (p6.2.1 a0 6).toNatClampNeg a1).1 a0 6 < 0 ∨ am_len (am_pI p6.2 r9 (p6.2.1 a0 6).toNatClampNeg a1) r13 ≤ ((am_pI p6.2 r9 (p6.2.1 a0 6).toNatClampNeg a1).1 a0 6).toNatClampNeg then none else some (((am_pI (am_pI (am_pI p6.2 r9 (p6.2.1 a0 6).toNatClampNeg a1) r13 ((am_pI p6.2 r9 (p6.2.1 a0 6).toNatClampNeg a1).1 a0 6).toNatClampNeg a2) a0 6 (((am_pI (am_pI p6.2 r9 (p6.2.1 a0 6).toNatClampNeg a1) r13 ((am_pI p6.2 r9 (p6.2.1 a0 6).toNatClampNeg a1).1 a0 6).toNatClampNeg a2).1 a0 6) + 1)).1 a0 6) - 1, am_pI (am_pI (am_pI p6.2 r9 (p6.2.1 a0 6).toNatClampNeg a1) r13 ((am_pI p6.2 r9 (p6.2.1 a0 6).toNatClampNeg a1).1 a0 6).toNatClampNeg a2) a0 6 (((am_pI (am_pI p6.2 r9 (p6.2.1 a0 6).toNatClampNeg a1) r13 ((am_pI p6.2 r9 (p6.2.1 a0 6).toNatClampNeg a1).1 a0 6).toNatClampNeg a2).1 a0 6) + 1)))
  refine am_aload_n 0 dX10_point_0 rfl rfl ?_
  refine am_iload_n 1 dX10_point_1 rfl rfl ?_
  refine am_iload_n 2 dX10_point_2 rfl rfl ?_
  refine am_callVi 9 [.int a1, .int a2] (CX10_isCell G a0 a1 a2 M h_a0) dX10_point_3 mb_yX10_isCell ⟨ml_RX10_140, im_yX10_isCell, se_yX10_isCell⟩ rfl h_a0 (by decide) rfl rfl (Nat.le_of_ble_eq_true rfl) (fun v5 M2 q1 w4 l3 => ?_)
  refine am_if_ne (tgt := 11) dX10_point_6 (by decide) (fun c7 => ?_) (fun c7 => ?_)
  · refine am_aload_n 0 dX10_point_11 rfl rfl ?_
    refine am_getI 9 dX10_point_12 fl_RX10_26 (am_sh.mono l3 h_a0) rfl ?_
    refine am_bipush (x := 40) dX10_point_15 (by decide) ?_
    refine am_icmp_ne (tgt := 23) dX10_point_17 (by decide) (fun c8 => ?_) (fun c8 => ?_)
    · refine am_aload_n 0 dX10_point_23 rfl rfl ?_
      refine am_getR 9 dX10_point_24 fl_RX10_29 (am_sh.mono l3 h_a0) rfl (fun r9 e10 h11 => ?_)
      refine am_aload_n 0 dX10_point_27 rfl rfl ?_
      refine am_getI 9 dX10_point_28 fl_RX10_26 (am_sh.mono l3 h_a0) rfl ?_
      refine am_iload_n 1 dX10_point_31 rfl rfl ?_
      refine am_iast dX10_point_32 h11 (fun b12 => ?_)
      refine am_aload_n 0 dX10_point_33 rfl rfl ?_
      refine am_getR 9 dX10_point_34 fl_RX10_32 (am_sh.of (am_sh.mono l3 h_a0) rfl) rfl (fun r13 e14 h15 => ?_)
      refine am_aload_n 0 dX10_point_37 rfl rfl ?_
      refine am_getI 9 dX10_point_38 fl_RX10_26 (am_sh.of (am_sh.mono l3 h_a0) rfl) rfl ?_
      refine am_iload_n 2 dX10_point_41 rfl rfl ?_
      refine am_iast dX10_point_42 (am_sh.of (am_sh.of (M := am_pI M2 r9 (M2.1 a0 6).toNatClampNeg a1) h15 rfl) rfl) (fun b16 => ?_)
      refine am_aload_n 0 dX10_point_43 rfl rfl ?_
      refine am_dup dX10_point_44 rfl ?_
      refine am_getI 9 dX10_point_45 fl_RX10_26 (am_sh.of (am_sh.mono l3 h_a0) rfl) rfl ?_
      refine am_iconst dX10_point_48 am_kc_1 ?_
      refine am_iadd dX10_point_49 ?_
      refine am_putI 9 dX10_point_50 fl_RX10_26 (am_sh.of (am_sh.mono l3 h_a0) rfl) rfl rfl rfl rfl ?_
      refine am_aload_n 0 dX10_point_53 rfl rfl ?_
      refine am_getI 9 dX10_point_54 fl_RX10_26 (am_sh.of (am_sh.mono l3 h_a0) rfl) rfl ?_
      refine am_iconst dX10_point_57 am_kc_1 ?_
      refine am_isub dX10_point_58 ?_
      exact am_iret dX10_point_59
    · refine am_bipush (x := -3) dX10_point_20 (by decide) ?_
      exact am_iret dX10_point_22
  · refine am_iconst dX10_point_9 am_kc_m1 ?_
    exact am_iret dX10_point_10
theorem CX10_point (G : am_G) (a0 : Nat) (a1 : Int32) (a2 : Int32) (M : am_M) (h_a0 : am_sh M a0 14) : am_C am_ei G 2 yX10_point cX10_point 3 (some FieldType.int) [.ref a0, .int a1, .int a2] M (fX10_point a0 a1 a2 M) :=
  am_meth (by decide) rfl (Nat.le_of_ble_eq_true rfl) (sX10_point_0 G a0 a1 a2 M h_a0)
def fX10_lift_28 : ((Nat × Int32 × am_M) → Option (Int32 × am_M)) → (Nat × Int32 × am_M) → Option (Int32 × am_M) := fun k28 q0 => match q0 with
  | (x0, x2, M) => if M.1 x0 6 ≤ x2 then some (M.1 x0 6, M) else (M.2.2.1 x0 7).bind fun r9 => (M.2.2.1 x0 7).bind fun r12 => if x2 + 1 < 0 ∨ am_len M r12 ≤ (x2 + 1).toNatClampNeg then none else if x2 < 0 ∨ am_len M r9 ≤ x2.toNatClampNeg then none else ((am_pI M r9 x2.toNatClampNeg (M.1 r12 ((x2 + 1).toNatClampNeg))).2.2.1 x0 8).bind fun r17 => ((am_pI M r9 x2.toNatClampNeg (M.1 r12 ((x2 + 1).toNatClampNeg))).2.2.1 x0 8).bind fun r20 => if x2 + 1 < 0 ∨ am_len (am_pI M r9 x2.toNatClampNeg (M.1 r12 ((x2 + 1).toNatClampNeg))) r20 ≤ (x2 + 1).toNatClampNeg then none else if x2 < 0 ∨ am_len (am_pI M r9 x2.toNatClampNeg (M.1 r12 ((x2 + 1).toNatClampNeg))) r17 ≤ x2.toNatClampNeg then none else k28 (x0, x2 + 1, am_pI (am_pI M r9 x2.toNatClampNeg (M.1 r12 ((x2 + 1).toNatClampNeg))) r17 x2.toNatClampNeg ((am_pI M r9 x2.toNatClampNeg (M.1 r12 ((x2 + 1).toNatClampNeg))).1 r20 ((x2 + 1).toNatClampNeg)))
def fX10_lift (a0 : Nat) (a1 : Int32) (M : am_M) : Option (Int32 × am_M) := (fX10_isIn a1 0 ((M.1 a0 6) - 1) M).bind fun p6 => if p6.1 = 0 then some ((-1), p6.2) else am_loop (fX10_lift_28) 100000 (a0, a1, am_pI p6.2 a0 6 ((p6.2.1 a0 6) - 1))
set_option maxRecDepth 100000 in
set_option maxHeartbeats 4000000 in
theorem sX10_lift_28 (G : am_G) (k28 : (Nat × Int32 × am_M) → Option (Int32 × am_M)) (hk28 : ∀ q : (Nat × Int32 × am_M), (match q with | (x0, x2, M) => am_sh M x0 14) → match q with | (x0, x2, M) => am_S am_ei G 1 yX10_lift.cls yX10_lift.name cX10_lift 3 (some FieldType.int) 28 [(0, .ref x0), (2, .int x2)] [] M (k28 (x0, x2, M))) (x0 : Nat) (x2 : Int32) (M : am_M) (h_x0 : am_sh M x0 14) : am_S am_ei G 1 yX10_lift.cls yX10_lift.name cX10_lift 3 (some FieldType.int) 28 [(0, .ref x0), (2, .int x2)] [] M (fX10_lift_28 k28 (x0, x2, M)) := by
  show am_S am_ei G 1 yX10_lift.cls yX10_lift.name cX10_lift 3 (some FieldType.int) 28 [(0, .ref x0), (2, .int x2)] [] M (if M.1 x0 6 ≤ x2 then some (M.1 x0 6, M) else (M.2.2.1 x0 7).bind fun r9 => (M.2.2.1 x0 7).bind fun r12 => if x2 + 1 < 0 ∨ am_len M r12 ≤ (x2 + 1).toNatClampNeg then none else if x2 < 0 ∨ am_len M r9 ≤ x2.toNatClampNeg then none else ((am_pI M r9 x2.toNatClampNeg (M.1 r12 ((x2 + 1).toNatClampNeg))).2.2.1 x0 8).bind fun r17 => ((am_pI M r9 x2.toNatClampNeg (M.1 r12 ((x2 + 1).toNatClampNeg))).2.2.1 x0 8).bind fun r20 => if x2 + 1 < 0 ∨ am_len (am_pI M r9 x2.toNatClampNeg (M.1 r12 ((x2 + 1).toNatClampNeg))) r20 ≤ (x2 + 1).toNatClampNeg then none else if x2 < 0 ∨ am_len (am_pI M r9 x2.toNatClampNeg (M.1 r12 ((x2 + 1).toNatClampNeg))) r17 ≤ x2.toNatClampNeg then none else k28 (x0, x2 + 1, am_pI (am_pI M r9 x2.toNatClampNeg (M.1 r12 ((x2 + 1).toNatClampNeg))) r17 x2.toNatClampNeg ((am_pI M r9 x2.toNatClampNeg (M.1 r12 ((x2 + 1).toNatClampNeg))).1 r20 ((x2 + 1).toNatClampNeg))))
  refine am_iload_n 1 dX10_lift_28 rfl rfl ?_
  refine am_aload_n 0 dX10_lift_29 rfl rfl ?_
  refine am_getI 9 dX10_lift_30 fl_RX10_26 h_x0 rfl ?_
  refine am_icmp_ge (tgt := 70) dX10_lift_33 (by decide) (fun c8 => ?_) (fun c8 => ?_)
  · refine am_aload_n 0 dX10_lift_70 rfl rfl ?_
    refine am_getI 9 dX10_lift_71 fl_RX10_26 h_x0 rfl ?_
    exact am_iret dX10_lift_74
  · refine am_aload_n 0 dX10_lift_36 rfl rfl ?_
    refine am_getR 9 dX10_lift_37 fl_RX10_29 h_x0 rfl (fun r9 e10 h11 => ?_)
    refine am_iload_n 1 dX10_lift_40 rfl rfl ?_
    refine am_aload_n 0 dX10_lift_41 rfl rfl ?_
    refine am_getR 9 dX10_lift_42 fl_RX10_29 h_x0 rfl (fun r12 e13 h14 => ?_)
    refine am_iload_n 1 dX10_lift_45 rfl rfl ?_
    refine am_iconst dX10_lift_46 am_kc_1 ?_
    refine am_iadd dX10_lift_47 ?_
    refine am_iald dX10_lift_48 h14 (fun b15 => ?_)
    refine am_iast dX10_lift_49 h11 (fun b16 => ?_)
    refine am_aload_n 0 dX10_lift_50 rfl rfl ?_
    refine am_getR 9 dX10_lift_51 fl_RX10_32 (am_sh.of h_x0 rfl) rfl (fun r17 e18 h19 => ?_)
    refine am_iload_n 1 dX10_lift_54 rfl rfl ?_
    refine am_aload_n 0 dX10_lift_55 rfl rfl ?_
    refine am_getR 9 dX10_lift_56 fl_RX10_32 (am_sh.of h_x0 rfl) rfl (fun r20 e21 h22 => ?_)
    refine am_iload_n 1 dX10_lift_59 rfl rfl ?_
    refine am_iconst dX10_lift_60 am_kc_1 ?_
    refine am_iadd dX10_lift_61 ?_
    refine am_iald dX10_lift_62 (am_sh.of (am_sh.of (M := am_pI M r9 x2.toNatClampNeg (M.1 r12 ((x2 + 1).toNatClampNeg))) h22 rfl) rfl) (fun b23 => ?_)
    refine am_iast dX10_lift_63 (am_sh.of (am_sh.of (M := am_pI M r9 x2.toNatClampNeg (M.1 r12 ((x2 + 1).toNatClampNeg))) h19 rfl) rfl) (fun b24 => ?_)
    refine am_iinc (L' := [(2, .int (x2 + 1)), (0, .ref x0)]) 1 dX10_lift_64 rfl (by rfl) (by decide) rfl ?_
    refine am_goto (tgt := 28) dX10_lift_67 (by decide) ?_
    refine am_sub [1, 0] rfl ?_
    exact hk28 (x0, x2 + 1, am_pI (am_pI M r9 x2.toNatClampNeg (M.1 r12 ((x2 + 1).toNatClampNeg))) r17 x2.toNatClampNeg ((am_pI M r9 x2.toNatClampNeg (M.1 r12 ((x2 + 1).toNatClampNeg))).1 r20 ((x2 + 1).toNatClampNeg))) (am_sh.of h_x0 rfl)
set_option maxRecDepth 100000 in
set_option maxHeartbeats 4000000 in
theorem lX10_lift_28 (G : am_G) (n : Nat) (q : (Nat × Int32 × am_M)) (hq : match q with | (x0, x2, M) => am_sh M x0 14) : match q with | (x0, x2, M) => am_S am_ei G 1 yX10_lift.cls yX10_lift.name cX10_lift 3 (some FieldType.int) 28 [(0, .ref x0), (2, .int x2)] [] M (am_loop (fX10_lift_28) n (x0, x2, M)) := by
  exact am_loop_ok (fun q : (Nat × Int32 × am_M) => match q with | (x0, x2, M) => am_sh M x0 14) (fun q X => match q with | (x0, x2, M) => am_S am_ei G 1 yX10_lift.cls yX10_lift.name cX10_lift 3 (some FieldType.int) 28 [(0, .ref x0), (2, .int x2)] [] M X) (fun _ => am_none) (fun k28 hk28 q hq => match q, hq with | (x0, x2, M), h_x0 => sX10_lift_28 G k28 hk28 x0 x2 M h_x0) n q hq
set_option maxRecDepth 100000 in
set_option maxHeartbeats 4000000 in
theorem sX10_lift_0 (G : am_G) (a0 : Nat) (a1 : Int32) (M : am_M) (h_a0 : am_sh M a0 14) : am_S am_ei G 1 yX10_lift.cls yX10_lift.name cX10_lift 3 (some FieldType.int) 0 [(0, .ref a0), (1, .int a1)] [] M (fX10_lift a0 a1 M) := by
  show am_S am_ei G 1 yX10_lift.cls yX10_lift.name cX10_lift 3 (some FieldType.int) 0 [(0, .ref a0), (1, .int a1)] [] M ((fX10_isIn a1 0 ((M.1 a0 6) - 1) M).bind fun p6 => if p6.1 = 0 then some ((-1), p6.2) else am_loop (fX10_lift_28) 100000 (a0, a1, am_pI p6.2 a0 6 ((p6.2.1 a0 6) - 1)))
  refine am_iload_n 1 dX10_lift_0 rfl rfl ?_
  refine am_iconst dX10_lift_1 am_kc_0 ?_
  refine am_aload_n 0 dX10_lift_2 rfl rfl ?_
  refine am_getI 9 dX10_lift_3 fl_RX10_26 h_a0 rfl ?_
  refine am_iconst dX10_lift_6 am_kc_1 ?_
  refine am_isub dX10_lift_7 ?_
  refine am_callSi [.int a1, .int 0, .int ((M.1 a0 6) - 1)] (CX10_isIn G a1 0 ((M.1 a0 6) - 1) M) dX10_lift_8 mb_yX10_isIn ⟨ml_RX10_66, sm_yX10_isIn⟩ (by decide) rfl rfl (Nat.le_of_ble_eq_true rfl) (fun v5 M2 q1 w4 l3 => ?_)
  refine am_if_ne (tgt := 16) dX10_lift_11 (by decide) (fun c7 => ?_) (fun c7 => ?_)
  · refine am_aload_n 0 dX10_lift_16 rfl rfl ?_
    refine am_dup dX10_lift_17 rfl ?_
    refine am_getI 9 dX10_lift_18 fl_RX10_26 (am_sh.mono l3 h_a0) rfl ?_
    refine am_iconst dX10_lift_21 am_kc_1 ?_
    refine am_isub dX10_lift_22 ?_
    refine am_putI 9 dX10_lift_23 fl_RX10_26 (am_sh.mono l3 h_a0) rfl rfl rfl rfl ?_
    refine am_iload_n 1 dX10_lift_26 rfl rfl ?_
    refine am_istore_n (L' := [(2, .int a1), (0, .ref a0), (1, .int a1)]) dX10_lift_27 rfl (by decide) rfl ?_
    refine am_sub [1, 0] rfl ?_
    exact lX10_lift_28 G 100000 (a0, a1, am_pI M2 a0 6 ((M2.1 a0 6) - 1)) (am_sh.of (am_sh.mono l3 h_a0) rfl)
  · refine am_iconst dX10_lift_14 am_kc_m1 ?_
    exact am_iret dX10_lift_15
theorem CX10_lift (G : am_G) (a0 : Nat) (a1 : Int32) (M : am_M) (h_a0 : am_sh M a0 14) : am_C am_ei G 1 yX10_lift cX10_lift 3 (some FieldType.int) [.ref a0, .int a1] M (fX10_lift a0 a1 M) :=
  am_meth (by decide) rfl (Nat.le_of_ble_eq_true rfl) (sX10_lift_0 G a0 a1 M h_a0)
def fX10_keyOf_167 (k16 : (Nat × Int32 × Int32 × Int32 × Int32 × am_M) → Option (Int32 × am_M)) (x0 : Nat) (x3 : Int32) (x4 : Int32) (x5 : Int32) (x6 : Int32) (M : am_M) : Option (Int32 × am_M) := k16 (x0, x3, x4, x5, x6 / 2, M)
def fX10_keyOf_165 (k16 : (Nat × Int32 × Int32 × Int32 × Int32 × am_M) → Option (Int32 × am_M)) (x0 : Nat) (x3 : Int32) (x5 : Int32) (x6 : Int32) (s0 : Int32) (M : am_M) : Option (Int32 × am_M) := fX10_keyOf_167 k16 x0 x3 s0 x5 x6 M
def fX10_keyOf_147 (k16 : (Nat × Int32 × Int32 × Int32 × Int32 × am_M) → Option (Int32 × am_M)) (x0 : Nat) (x5 : Int32) (x6 : Int32) (x9 : Int32) (x10 : Int32) (s0 : Int32) (M : am_M) : Option (Int32 × am_M) := if x9 = 0 then fX10_keyOf_165 k16 x0 s0 x5 x6 x10 M else fX10_keyOf_165 k16 x0 s0 x5 x6 ((x6 - 1) - x10) M
def fX10_keyOf_127 (k16 : (Nat × Int32 × Int32 × Int32 × Int32 × am_M) → Option (Int32 × am_M)) (x0 : Nat) (x3 : Int32) (x4 : Int32) (x5 : Int32) (x6 : Int32) (x9 : Int32) (M : am_M) : Option (Int32 × am_M) := if x9 = 0 then fX10_keyOf_147 k16 x0 x5 x6 x9 x3 x4 M else fX10_keyOf_147 k16 x0 x5 x6 x9 x3 ((x6 - 1) - x4) M
def fX10_keyOf_79 (k16 : (Nat × Int32 × Int32 × Int32 × Int32 × am_M) → Option (Int32 × am_M)) (x0 : Nat) (x3 : Int32) (x4 : Int32) (x5 : Int32) (x6 : Int32) (x7 : Int32) (x8 : Int32) (s0 : Int32) (M : am_M) : Option (Int32 × am_M) := if M.1 x0 1 = 1 then if s0 = 0 then fX10_keyOf_127 k16 x0 (x3 - (x7 * x6)) (x4 - (x8 * x6)) ((4 * x5) + s0) x6 s0 M else if s0 = 3 then fX10_keyOf_127 k16 x0 (x3 - (x7 * x6)) (x4 - (x8 * x6)) ((4 * x5) + s0) x6 s0 M else fX10_keyOf_167 k16 x0 (x3 - (x7 * x6)) (x4 - (x8 * x6)) ((4 * x5) + s0) x6 M else fX10_keyOf_167 k16 x0 (x3 - (x7 * x6)) (x4 - (x8 * x6)) ((4 * x5) + s0) x6 M
def fX10_keyOf_46 (k16 : (Nat × Int32 × Int32 × Int32 × Int32 × am_M) → Option (Int32 × am_M)) (x0 : Nat) (x3 : Int32) (x4 : Int32) (x5 : Int32) (x6 : Int32) (x7 : Int32) (s0 : Int32) (M : am_M) : Option (Int32 × am_M) := if M.1 x0 1 = 0 then fX10_keyOf_79 k16 x0 x3 x4 x5 x6 x7 s0 (x7 + (2 * s0)) M else if x7 = 0 then fX10_keyOf_79 k16 x0 x3 x4 x5 x6 x7 s0 s0 M else fX10_keyOf_79 k16 x0 x3 x4 x5 x6 x7 s0 (3 - s0) M
def fX10_keyOf_32 (k16 : (Nat × Int32 × Int32 × Int32 × Int32 × am_M) → Option (Int32 × am_M)) (x0 : Nat) (x3 : Int32) (x4 : Int32) (x5 : Int32) (x6 : Int32) (s0 : Int32) (M : am_M) : Option (Int32 × am_M) := if x4 < x6 then fX10_keyOf_46 k16 x0 x3 x4 x5 x6 s0 0 M else fX10_keyOf_46 k16 x0 x3 x4 x5 x6 s0 1 M
def fX10_keyOf_16 : ((Nat × Int32 × Int32 × Int32 × Int32 × am_M) → Option (Int32 × am_M)) → (Nat × Int32 × Int32 × Int32 × Int32 × am_M) → Option (Int32 × am_M) := fun k16 q0 => match q0 with
  | (x0, x3, x4, x5, x6, M) => if x6 ≤ 0 then some (x5, M) else if x3 < x6 then fX10_keyOf_32 k16 x0 x3 x4 x5 x6 0 M else fX10_keyOf_32 k16 x0 x3 x4 x5 x6 1 M
def fX10_keyOf (a0 : Nat) (a1 : Int32) (a2 : Int32) (M : am_M) : Option (Int32 × am_M) := (fX10_side a0 M).bind fun p6 => am_loop (fX10_keyOf_16) 100000 (a0, a1, a2, 0, p6.1 / 2, p6.2)
set_option maxRecDepth 100000 in
set_option maxHeartbeats 4000000 in
theorem sX10_keyOf_167 (G : am_G) (k16 : (Nat × Int32 × Int32 × Int32 × Int32 × am_M) → Option (Int32 × am_M)) (hk16 : ∀ q : (Nat × Int32 × Int32 × Int32 × Int32 × am_M), (match q with | (x0, x3, x4, x5, x6, M) => am_sh M x0 14) → match q with | (x0, x3, x4, x5, x6, M) => am_S am_ei G 1 yX10_keyOf.cls yX10_keyOf.name cX10_keyOf 11 (some FieldType.int) 16 [(0, .ref x0), (3, .int x3), (4, .int x4), (5, .int x5), (6, .int x6)] [] M (k16 (x0, x3, x4, x5, x6, M))) (x0 : Nat) (x3 : Int32) (x4 : Int32) (x5 : Int32) (x6 : Int32) (M : am_M) (h_x0 : am_sh M x0 14) : am_S am_ei G 1 yX10_keyOf.cls yX10_keyOf.name cX10_keyOf 11 (some FieldType.int) 167 [(0, .ref x0), (3, .int x3), (4, .int x4), (5, .int x5), (6, .int x6)] [] M (fX10_keyOf_167 k16 x0 x3 x4 x5 x6 M) := by
  show am_S am_ei G 1 yX10_keyOf.cls yX10_keyOf.name cX10_keyOf 11 (some FieldType.int) 167 [(0, .ref x0), (3, .int x3), (4, .int x4), (5, .int x5), (6, .int x6)] [] M (k16 (x0, x3, x4, x5, x6 / 2, M))
  refine am_iload 4 dX10_keyOf_167 rfl ?_
  refine am_iconst dX10_keyOf_169 am_kc_2 ?_
  refine am_idivk dX10_keyOf_170 (by decide) ?_
  refine am_istore (L' := [(6, .int (x6 / 2)), (0, .ref x0), (3, .int x3), (4, .int x4), (5, .int x5)]) dX10_keyOf_171 (by decide) rfl ?_
  refine am_goto (tgt := 16) dX10_keyOf_173 (by decide) ?_
  refine am_sub [1, 2, 3, 4, 0] rfl ?_
  exact hk16 (x0, x3, x4, x5, x6 / 2, M) h_x0
set_option maxRecDepth 100000 in
set_option maxHeartbeats 4000000 in
theorem sX10_keyOf_165 (G : am_G) (k16 : (Nat × Int32 × Int32 × Int32 × Int32 × am_M) → Option (Int32 × am_M)) (hk16 : ∀ q : (Nat × Int32 × Int32 × Int32 × Int32 × am_M), (match q with | (x0, x3, x4, x5, x6, M) => am_sh M x0 14) → match q with | (x0, x3, x4, x5, x6, M) => am_S am_ei G 1 yX10_keyOf.cls yX10_keyOf.name cX10_keyOf 11 (some FieldType.int) 16 [(0, .ref x0), (3, .int x3), (4, .int x4), (5, .int x5), (6, .int x6)] [] M (k16 (x0, x3, x4, x5, x6, M))) (x0 : Nat) (x3 : Int32) (x5 : Int32) (x6 : Int32) (s0 : Int32) (M : am_M) (h_x0 : am_sh M x0 14) : am_S am_ei G 1 yX10_keyOf.cls yX10_keyOf.name cX10_keyOf 11 (some FieldType.int) 165 [(0, .ref x0), (3, .int x3), (5, .int x5), (6, .int x6)] [.int s0] M (fX10_keyOf_165 k16 x0 x3 x5 x6 s0 M) := by
  show am_S am_ei G 1 yX10_keyOf.cls yX10_keyOf.name cX10_keyOf 11 (some FieldType.int) 165 [(0, .ref x0), (3, .int x3), (5, .int x5), (6, .int x6)] [.int s0] M (fX10_keyOf_167 k16 x0 x3 s0 x5 x6 M)
  refine am_istore (L' := [(4, .int s0), (0, .ref x0), (3, .int x3), (5, .int x5), (6, .int x6)]) dX10_keyOf_165 (by decide) rfl ?_
  refine am_sub [1, 2, 0, 3, 4] rfl ?_
  exact sX10_keyOf_167 G k16 hk16 x0 x3 s0 x5 x6 M h_x0
set_option maxRecDepth 100000 in
set_option maxHeartbeats 4000000 in
theorem sX10_keyOf_147 (G : am_G) (k16 : (Nat × Int32 × Int32 × Int32 × Int32 × am_M) → Option (Int32 × am_M)) (hk16 : ∀ q : (Nat × Int32 × Int32 × Int32 × Int32 × am_M), (match q with | (x0, x3, x4, x5, x6, M) => am_sh M x0 14) → match q with | (x0, x3, x4, x5, x6, M) => am_S am_ei G 1 yX10_keyOf.cls yX10_keyOf.name cX10_keyOf 11 (some FieldType.int) 16 [(0, .ref x0), (3, .int x3), (4, .int x4), (5, .int x5), (6, .int x6)] [] M (k16 (x0, x3, x4, x5, x6, M))) (x0 : Nat) (x5 : Int32) (x6 : Int32) (x9 : Int32) (x10 : Int32) (s0 : Int32) (M : am_M) (h_x0 : am_sh M x0 14) : am_S am_ei G 1 yX10_keyOf.cls yX10_keyOf.name cX10_keyOf 11 (some FieldType.int) 147 [(0, .ref x0), (5, .int x5), (6, .int x6), (9, .int x9), (10, .int x10)] [.int s0] M (fX10_keyOf_147 k16 x0 x5 x6 x9 x10 s0 M) := by
  show am_S am_ei G 1 yX10_keyOf.cls yX10_keyOf.name cX10_keyOf 11 (some FieldType.int) 147 [(0, .ref x0), (5, .int x5), (6, .int x6), (9, .int x9), (10, .int x10)] [.int s0] M (if x9 = 0 then fX10_keyOf_165 k16 x0 s0 x5 x6 x10 M else fX10_keyOf_165 k16 x0 s0 x5 x6 ((x6 - 1) - x10) M)
  refine am_istore_n (L' := [(3, .int s0), (0, .ref x0), (5, .int x5), (6, .int x6), (9, .int x9), (10, .int x10)]) dX10_keyOf_147 rfl (by decide) rfl ?_
  refine am_iload 4 dX10_keyOf_148 rfl ?_
  refine am_if_ne (tgt := 158) dX10_keyOf_150 (by decide) (fun c15 => ?_) (fun c15 => ?_)
  · refine am_iload 3 dX10_keyOf_158 rfl ?_
    refine am_iconst dX10_keyOf_160 am_kc_1 ?_
    refine am_isub dX10_keyOf_161 ?_
    refine am_iload 5 dX10_keyOf_162 rfl ?_
    refine am_isub dX10_keyOf_164 ?_
    refine am_sub [1, 0, 2, 3] rfl ?_
    exact sX10_keyOf_165 G k16 hk16 x0 s0 x5 x6 ((x6 - 1) - x10) M h_x0
  · refine am_iload 5 dX10_keyOf_153 rfl ?_
    refine am_goto (tgt := 165) dX10_keyOf_155 (by decide) ?_
    refine am_sub [1, 0, 2, 3] rfl ?_
    exact sX10_keyOf_165 G k16 hk16 x0 s0 x5 x6 x10 M h_x0
set_option maxRecDepth 100000 in
set_option maxHeartbeats 4000000 in
theorem sX10_keyOf_127 (G : am_G) (k16 : (Nat × Int32 × Int32 × Int32 × Int32 × am_M) → Option (Int32 × am_M)) (hk16 : ∀ q : (Nat × Int32 × Int32 × Int32 × Int32 × am_M), (match q with | (x0, x3, x4, x5, x6, M) => am_sh M x0 14) → match q with | (x0, x3, x4, x5, x6, M) => am_S am_ei G 1 yX10_keyOf.cls yX10_keyOf.name cX10_keyOf 11 (some FieldType.int) 16 [(0, .ref x0), (3, .int x3), (4, .int x4), (5, .int x5), (6, .int x6)] [] M (k16 (x0, x3, x4, x5, x6, M))) (x0 : Nat) (x3 : Int32) (x4 : Int32) (x5 : Int32) (x6 : Int32) (x9 : Int32) (M : am_M) (h_x0 : am_sh M x0 14) : am_S am_ei G 1 yX10_keyOf.cls yX10_keyOf.name cX10_keyOf 11 (some FieldType.int) 127 [(0, .ref x0), (3, .int x3), (4, .int x4), (5, .int x5), (6, .int x6), (9, .int x9)] [] M (fX10_keyOf_127 k16 x0 x3 x4 x5 x6 x9 M) := by
  show am_S am_ei G 1 yX10_keyOf.cls yX10_keyOf.name cX10_keyOf 11 (some FieldType.int) 127 [(0, .ref x0), (3, .int x3), (4, .int x4), (5, .int x5), (6, .int x6), (9, .int x9)] [] M (if x9 = 0 then fX10_keyOf_147 k16 x0 x5 x6 x9 x3 x4 M else fX10_keyOf_147 k16 x0 x5 x6 x9 x3 ((x6 - 1) - x4) M)
  refine am_iload_n 1 dX10_keyOf_127 rfl rfl ?_
  refine am_istore (L' := [(10, .int x3), (0, .ref x0), (3, .int x3), (4, .int x4), (5, .int x5), (6, .int x6), (9, .int x9)]) dX10_keyOf_128 (by decide) rfl ?_
  refine am_iload 6 dX10_keyOf_130 rfl ?_
  refine am_if_ne (tgt := 140) dX10_keyOf_132 (by decide) (fun c14 => ?_) (fun c14 => ?_)
  · refine am_iload 5 dX10_keyOf_140 rfl ?_
    refine am_iconst dX10_keyOf_142 am_kc_1 ?_
    refine am_isub dX10_keyOf_143 ?_
    refine am_iload 3 dX10_keyOf_144 rfl ?_
    refine am_isub dX10_keyOf_146 ?_
    refine am_sub [1, 4, 5, 6, 0] rfl ?_
    exact sX10_keyOf_147 G k16 hk16 x0 x5 x6 x9 x3 ((x6 - 1) - x4) M h_x0
  · refine am_iload 3 dX10_keyOf_135 rfl ?_
    refine am_goto (tgt := 147) dX10_keyOf_137 (by decide) ?_
    refine am_sub [1, 4, 5, 6, 0] rfl ?_
    exact sX10_keyOf_147 G k16 hk16 x0 x5 x6 x9 x3 x4 M h_x0
set_option maxRecDepth 100000 in
set_option maxHeartbeats 4000000 in
theorem sX10_keyOf_79 (G : am_G) (k16 : (Nat × Int32 × Int32 × Int32 × Int32 × am_M) → Option (Int32 × am_M)) (hk16 : ∀ q : (Nat × Int32 × Int32 × Int32 × Int32 × am_M), (match q with | (x0, x3, x4, x5, x6, M) => am_sh M x0 14) → match q with | (x0, x3, x4, x5, x6, M) => am_S am_ei G 1 yX10_keyOf.cls yX10_keyOf.name cX10_keyOf 11 (some FieldType.int) 16 [(0, .ref x0), (3, .int x3), (4, .int x4), (5, .int x5), (6, .int x6)] [] M (k16 (x0, x3, x4, x5, x6, M))) (x0 : Nat) (x3 : Int32) (x4 : Int32) (x5 : Int32) (x6 : Int32) (x7 : Int32) (x8 : Int32) (s0 : Int32) (M : am_M) (h_x0 : am_sh M x0 14) : am_S am_ei G 1 yX10_keyOf.cls yX10_keyOf.name cX10_keyOf 11 (some FieldType.int) 79 [(0, .ref x0), (3, .int x3), (4, .int x4), (5, .int x5), (6, .int x6), (7, .int x7), (8, .int x8)] [.int s0] M (fX10_keyOf_79 k16 x0 x3 x4 x5 x6 x7 x8 s0 M) := by
  show am_S am_ei G 1 yX10_keyOf.cls yX10_keyOf.name cX10_keyOf 11 (some FieldType.int) 79 [(0, .ref x0), (3, .int x3), (4, .int x4), (5, .int x5), (6, .int x6), (7, .int x7), (8, .int x8)] [.int s0] M (if M.1 x0 1 = 1 then if s0 = 0 then fX10_keyOf_127 k16 x0 (x3 - (x7 * x6)) (x4 - (x8 * x6)) ((4 * x5) + s0) x6 s0 M else if s0 = 3 then fX10_keyOf_127 k16 x0 (x3 - (x7 * x6)) (x4 - (x8 * x6)) ((4 * x5) + s0) x6 s0 M else fX10_keyOf_167 k16 x0 (x3 - (x7 * x6)) (x4 - (x8 * x6)) ((4 * x5) + s0) x6 M else fX10_keyOf_167 k16 x0 (x3 - (x7 * x6)) (x4 - (x8 * x6)) ((4 * x5) + s0) x6 M)
  refine am_istore (L' := [(9, .int s0), (0, .ref x0), (3, .int x3), (4, .int x4), (5, .int x5), (6, .int x6), (7, .int x7), (8, .int x8)]) dX10_keyOf_79 (by decide) rfl ?_
  refine am_iconst dX10_keyOf_81 am_kc_4 ?_
  refine am_iload 4 dX10_keyOf_82 rfl ?_
  refine am_imul dX10_keyOf_84 ?_
  refine am_iload 0 dX10_keyOf_85 rfl ?_
  refine am_iadd dX10_keyOf_87 ?_
  refine am_istore (L' := [(5, .int ((4 * x5) + s0)), (9, .int s0), (0, .ref x0), (3, .int x3), (4, .int x4), (6, .int x6), (7, .int x7), (8, .int x8)]) dX10_keyOf_88 (by decide) rfl ?_
  refine am_iload_n 3 dX10_keyOf_90 rfl rfl ?_
  refine am_iload 6 dX10_keyOf_91 rfl ?_
  refine am_iload 5 dX10_keyOf_93 rfl ?_
  refine am_imul dX10_keyOf_95 ?_
  refine am_isub dX10_keyOf_96 ?_
  refine am_istore_n (L' := [(3, .int (x3 - (x7 * x6))), (5, .int ((4 * x5) + s0)), (9, .int s0), (0, .ref x0), (4, .int x4), (6, .int x6), (7, .int x7), (8, .int x8)]) dX10_keyOf_97 rfl (by decide) rfl ?_
  refine am_iload 4 dX10_keyOf_98 rfl ?_
  refine am_iload 7 dX10_keyOf_100 rfl ?_
  refine am_iload 5 dX10_keyOf_102 rfl ?_
  refine am_imul dX10_keyOf_104 ?_
  refine am_isub dX10_keyOf_105 ?_
  refine am_istore (L' := [(4, .int (x4 - (x8 * x6))), (3, .int (x3 - (x7 * x6))), (5, .int ((4 * x5) + s0)), (9, .int s0), (0, .ref x0), (6, .int x6), (7, .int x7), (8, .int x8)]) dX10_keyOf_106 (by decide) rfl ?_
  refine am_aload_n 4 dX10_keyOf_108 rfl rfl ?_
  refine am_getI 9 dX10_keyOf_109 fl_RX10_13 h_x0 rfl ?_
  refine am_iconst dX10_keyOf_112 am_kc_1 ?_
  refine am_icmp_ne (tgt := 167) dX10_keyOf_113 (by decide) (fun c12 => ?_) (fun c12 => ?_)
  · refine am_sub [4, 1, 0, 2, 5] rfl ?_
    exact sX10_keyOf_167 G k16 hk16 x0 (x3 - (x7 * x6)) (x4 - (x8 * x6)) ((4 * x5) + s0) x6 M h_x0
  · refine am_iload 3 dX10_keyOf_116 rfl ?_
    refine am_if_eq (tgt := 127) dX10_keyOf_118 (by decide) (fun c13 => ?_) (fun c13 => ?_)
    · refine am_sub [4, 1, 0, 2, 5, 3] rfl ?_
      exact sX10_keyOf_127 G k16 hk16 x0 (x3 - (x7 * x6)) (x4 - (x8 * x6)) ((4 * x5) + s0) x6 s0 M h_x0
    · refine am_iload 3 dX10_keyOf_121 rfl ?_
      refine am_iconst dX10_keyOf_123 am_kc_3 ?_
      refine am_icmp_ne (tgt := 167) dX10_keyOf_124 (by decide) (fun c16 => ?_) (fun c16 => ?_)
      · refine am_sub [4, 1, 0, 2, 5] rfl ?_
        exact sX10_keyOf_167 G k16 hk16 x0 (x3 - (x7 * x6)) (x4 - (x8 * x6)) ((4 * x5) + s0) x6 M h_x0
      · refine am_sub [4, 1, 0, 2, 5, 3] rfl ?_
        exact sX10_keyOf_127 G k16 hk16 x0 (x3 - (x7 * x6)) (x4 - (x8 * x6)) ((4 * x5) + s0) x6 s0 M h_x0
set_option maxRecDepth 100000 in
set_option maxHeartbeats 4000000 in
theorem sX10_keyOf_46 (G : am_G) (k16 : (Nat × Int32 × Int32 × Int32 × Int32 × am_M) → Option (Int32 × am_M)) (hk16 : ∀ q : (Nat × Int32 × Int32 × Int32 × Int32 × am_M), (match q with | (x0, x3, x4, x5, x6, M) => am_sh M x0 14) → match q with | (x0, x3, x4, x5, x6, M) => am_S am_ei G 1 yX10_keyOf.cls yX10_keyOf.name cX10_keyOf 11 (some FieldType.int) 16 [(0, .ref x0), (3, .int x3), (4, .int x4), (5, .int x5), (6, .int x6)] [] M (k16 (x0, x3, x4, x5, x6, M))) (x0 : Nat) (x3 : Int32) (x4 : Int32) (x5 : Int32) (x6 : Int32) (x7 : Int32) (s0 : Int32) (M : am_M) (h_x0 : am_sh M x0 14) : am_S am_ei G 1 yX10_keyOf.cls yX10_keyOf.name cX10_keyOf 11 (some FieldType.int) 46 [(0, .ref x0), (3, .int x3), (4, .int x4), (5, .int x5), (6, .int x6), (7, .int x7)] [.int s0] M (fX10_keyOf_46 k16 x0 x3 x4 x5 x6 x7 s0 M) := by
  show am_S am_ei G 1 yX10_keyOf.cls yX10_keyOf.name cX10_keyOf 11 (some FieldType.int) 46 [(0, .ref x0), (3, .int x3), (4, .int x4), (5, .int x5), (6, .int x6), (7, .int x7)] [.int s0] M (if M.1 x0 1 = 0 then fX10_keyOf_79 k16 x0 x3 x4 x5 x6 x7 s0 (x7 + (2 * s0)) M else if x7 = 0 then fX10_keyOf_79 k16 x0 x3 x4 x5 x6 x7 s0 s0 M else fX10_keyOf_79 k16 x0 x3 x4 x5 x6 x7 s0 (3 - s0) M)
  refine am_istore (L' := [(8, .int s0), (0, .ref x0), (3, .int x3), (4, .int x4), (5, .int x5), (6, .int x6), (7, .int x7)]) dX10_keyOf_46 (by decide) rfl ?_
  refine am_aload_n 1 dX10_keyOf_48 rfl rfl ?_
  refine am_getI 9 dX10_keyOf_49 fl_RX10_13 h_x0 rfl ?_
  refine am_if_ne (tgt := 65) dX10_keyOf_52 (by decide) (fun c10 => ?_) (fun c10 => ?_)
  · refine am_iload 6 dX10_keyOf_65 rfl ?_
    refine am_if_ne (tgt := 75) dX10_keyOf_67 (by decide) (fun c11 => ?_) (fun c11 => ?_)
    · refine am_iconst dX10_keyOf_75 am_kc_3 ?_
      refine am_iload 0 dX10_keyOf_76 rfl ?_
      refine am_isub dX10_keyOf_78 ?_
      refine am_sub [1, 2, 3, 4, 5, 6, 0] rfl ?_
      exact sX10_keyOf_79 G k16 hk16 x0 x3 x4 x5 x6 x7 s0 (3 - s0) M h_x0
    · refine am_iload 0 dX10_keyOf_70 rfl ?_
      refine am_goto (tgt := 79) dX10_keyOf_72 (by decide) ?_
      refine am_sub [1, 2, 3, 4, 5, 6, 0] rfl ?_
      exact sX10_keyOf_79 G k16 hk16 x0 x3 x4 x5 x6 x7 s0 s0 M h_x0
  · refine am_iload 6 dX10_keyOf_55 rfl ?_
    refine am_iconst dX10_keyOf_57 am_kc_2 ?_
    refine am_iload 0 dX10_keyOf_58 rfl ?_
    refine am_imul dX10_keyOf_60 ?_
    refine am_iadd dX10_keyOf_61 ?_
    refine am_goto (tgt := 79) dX10_keyOf_62 (by decide) ?_
    refine am_sub [1, 2, 3, 4, 5, 6, 0] rfl ?_
    exact sX10_keyOf_79 G k16 hk16 x0 x3 x4 x5 x6 x7 s0 (x7 + (2 * s0)) M h_x0
set_option maxRecDepth 100000 in
set_option maxHeartbeats 4000000 in
theorem sX10_keyOf_32 (G : am_G) (k16 : (Nat × Int32 × Int32 × Int32 × Int32 × am_M) → Option (Int32 × am_M)) (hk16 : ∀ q : (Nat × Int32 × Int32 × Int32 × Int32 × am_M), (match q with | (x0, x3, x4, x5, x6, M) => am_sh M x0 14) → match q with | (x0, x3, x4, x5, x6, M) => am_S am_ei G 1 yX10_keyOf.cls yX10_keyOf.name cX10_keyOf 11 (some FieldType.int) 16 [(0, .ref x0), (3, .int x3), (4, .int x4), (5, .int x5), (6, .int x6)] [] M (k16 (x0, x3, x4, x5, x6, M))) (x0 : Nat) (x3 : Int32) (x4 : Int32) (x5 : Int32) (x6 : Int32) (s0 : Int32) (M : am_M) (h_x0 : am_sh M x0 14) : am_S am_ei G 1 yX10_keyOf.cls yX10_keyOf.name cX10_keyOf 11 (some FieldType.int) 32 [(0, .ref x0), (3, .int x3), (4, .int x4), (5, .int x5), (6, .int x6)] [.int s0] M (fX10_keyOf_32 k16 x0 x3 x4 x5 x6 s0 M) := by
  show am_S am_ei G 1 yX10_keyOf.cls yX10_keyOf.name cX10_keyOf 11 (some FieldType.int) 32 [(0, .ref x0), (3, .int x3), (4, .int x4), (5, .int x5), (6, .int x6)] [.int s0] M (if x4 < x6 then fX10_keyOf_46 k16 x0 x3 x4 x5 x6 s0 0 M else fX10_keyOf_46 k16 x0 x3 x4 x5 x6 s0 1 M)
  refine am_istore (L' := [(7, .int s0), (0, .ref x0), (3, .int x3), (4, .int x4), (5, .int x5), (6, .int x6)]) dX10_keyOf_32 (by decide) rfl ?_
  refine am_iload 3 dX10_keyOf_34 rfl ?_
  refine am_iload 5 dX10_keyOf_36 rfl ?_
  refine am_icmp_lt (tgt := 45) dX10_keyOf_38 (by decide) (fun c9 => ?_) (fun c9 => ?_)
  · refine am_iconst dX10_keyOf_45 am_kc_0 ?_
    refine am_sub [1, 2, 3, 4, 5, 0] rfl ?_
    exact sX10_keyOf_46 G k16 hk16 x0 x3 x4 x5 x6 s0 0 M h_x0
  · refine am_iconst dX10_keyOf_41 am_kc_1 ?_
    refine am_goto (tgt := 46) dX10_keyOf_42 (by decide) ?_
    refine am_sub [1, 2, 3, 4, 5, 0] rfl ?_
    exact sX10_keyOf_46 G k16 hk16 x0 x3 x4 x5 x6 s0 1 M h_x0
set_option maxRecDepth 100000 in
set_option maxHeartbeats 4000000 in
theorem sX10_keyOf_16 (G : am_G) (k16 : (Nat × Int32 × Int32 × Int32 × Int32 × am_M) → Option (Int32 × am_M)) (hk16 : ∀ q : (Nat × Int32 × Int32 × Int32 × Int32 × am_M), (match q with | (x0, x3, x4, x5, x6, M) => am_sh M x0 14) → match q with | (x0, x3, x4, x5, x6, M) => am_S am_ei G 1 yX10_keyOf.cls yX10_keyOf.name cX10_keyOf 11 (some FieldType.int) 16 [(0, .ref x0), (3, .int x3), (4, .int x4), (5, .int x5), (6, .int x6)] [] M (k16 (x0, x3, x4, x5, x6, M))) (x0 : Nat) (x3 : Int32) (x4 : Int32) (x5 : Int32) (x6 : Int32) (M : am_M) (h_x0 : am_sh M x0 14) : am_S am_ei G 1 yX10_keyOf.cls yX10_keyOf.name cX10_keyOf 11 (some FieldType.int) 16 [(0, .ref x0), (3, .int x3), (4, .int x4), (5, .int x5), (6, .int x6)] [] M (fX10_keyOf_16 k16 (x0, x3, x4, x5, x6, M)) := by
  show am_S am_ei G 1 yX10_keyOf.cls yX10_keyOf.name cX10_keyOf 11 (some FieldType.int) 16 [(0, .ref x0), (3, .int x3), (4, .int x4), (5, .int x5), (6, .int x6)] [] M (if x6 ≤ 0 then some (x5, M) else if x3 < x6 then fX10_keyOf_32 k16 x0 x3 x4 x5 x6 0 M else fX10_keyOf_32 k16 x0 x3 x4 x5 x6 1 M)
  refine am_iload 4 dX10_keyOf_16 rfl ?_
  refine am_if_le (tgt := 176) dX10_keyOf_18 (by decide) (fun c7 => ?_) (fun c7 => ?_)
  · refine am_iload 3 dX10_keyOf_176 rfl ?_
    exact am_iret dX10_keyOf_178
  · refine am_iload_n 1 dX10_keyOf_21 rfl rfl ?_
    refine am_iload 4 dX10_keyOf_22 rfl ?_
    refine am_icmp_lt (tgt := 31) dX10_keyOf_24 (by decide) (fun c8 => ?_) (fun c8 => ?_)
    · refine am_iconst dX10_keyOf_31 am_kc_0 ?_
      exact sX10_keyOf_32 G k16 hk16 x0 x3 x4 x5 x6 0 M h_x0
    · refine am_iconst dX10_keyOf_27 am_kc_1 ?_
      refine am_goto (tgt := 32) dX10_keyOf_28 (by decide) ?_
      exact sX10_keyOf_32 G k16 hk16 x0 x3 x4 x5 x6 1 M h_x0
set_option maxRecDepth 100000 in
set_option maxHeartbeats 4000000 in
theorem lX10_keyOf_16 (G : am_G) (n : Nat) (q : (Nat × Int32 × Int32 × Int32 × Int32 × am_M)) (hq : match q with | (x0, x3, x4, x5, x6, M) => am_sh M x0 14) : match q with | (x0, x3, x4, x5, x6, M) => am_S am_ei G 1 yX10_keyOf.cls yX10_keyOf.name cX10_keyOf 11 (some FieldType.int) 16 [(0, .ref x0), (3, .int x3), (4, .int x4), (5, .int x5), (6, .int x6)] [] M (am_loop (fX10_keyOf_16) n (x0, x3, x4, x5, x6, M)) := by
  exact am_loop_ok (fun q : (Nat × Int32 × Int32 × Int32 × Int32 × am_M) => match q with | (x0, x3, x4, x5, x6, M) => am_sh M x0 14) (fun q X => match q with | (x0, x3, x4, x5, x6, M) => am_S am_ei G 1 yX10_keyOf.cls yX10_keyOf.name cX10_keyOf 11 (some FieldType.int) 16 [(0, .ref x0), (3, .int x3), (4, .int x4), (5, .int x5), (6, .int x6)] [] M X) (fun _ => am_none) (fun k16 hk16 q hq => match q, hq with | (x0, x3, x4, x5, x6, M), h_x0 => sX10_keyOf_16 G k16 hk16 x0 x3 x4 x5 x6 M h_x0) n q hq
set_option maxRecDepth 100000 in
set_option maxHeartbeats 4000000 in
theorem sX10_keyOf_0 (G : am_G) (a0 : Nat) (a1 : Int32) (a2 : Int32) (M : am_M) (h_a0 : am_sh M a0 14) : am_S am_ei G 1 yX10_keyOf.cls yX10_keyOf.name cX10_keyOf 11 (some FieldType.int) 0 [(0, .ref a0), (1, .int a1), (2, .int a2)] [] M (fX10_keyOf a0 a1 a2 M) := by
  show am_S am_ei G 1 yX10_keyOf.cls yX10_keyOf.name cX10_keyOf 11 (some FieldType.int) 0 [(0, .ref a0), (1, .int a1), (2, .int a2)] [] M ((fX10_side a0 M).bind fun p6 => am_loop (fX10_keyOf_16) 100000 (a0, a1, a2, 0, p6.1 / 2, p6.2))
  refine am_iload_n 1 dX10_keyOf_0 rfl rfl ?_
  refine am_istore_n (L' := [(3, .int a1), (0, .ref a0), (1, .int a1), (2, .int a2)]) dX10_keyOf_1 rfl (by decide) rfl ?_
  refine am_iload_n 3 dX10_keyOf_2 rfl rfl ?_
  refine am_istore (L' := [(4, .int a2), (3, .int a1), (0, .ref a0), (1, .int a1), (2, .int a2)]) dX10_keyOf_3 (by decide) rfl ?_
  refine am_iconst dX10_keyOf_5 am_kc_0 ?_
  refine am_istore (L' := [(5, .int 0), (4, .int a2), (3, .int a1), (0, .ref a0), (1, .int a1), (2, .int a2)]) dX10_keyOf_6 (by decide) rfl ?_
  refine am_aload_n 3 dX10_keyOf_8 rfl rfl ?_
  refine am_callVi 9 [] (CX10_side G a0 M h_a0) dX10_keyOf_9 mb_yX10_side ⟨ml_RX10_62, im_yX10_side, se_yX10_side⟩ rfl h_a0 (by decide) rfl rfl (Nat.le_of_ble_eq_true rfl) (fun v5 M2 q1 w4 l3 => ?_)
  refine am_iconst dX10_keyOf_12 am_kc_2 ?_
  refine am_idivk dX10_keyOf_13 (by decide) ?_
  refine am_istore (L' := [(6, .int (v5 / 2)), (5, .int 0), (4, .int a2), (3, .int a1), (0, .ref a0), (1, .int a1), (2, .int a2)]) dX10_keyOf_14 (by decide) rfl ?_
  refine am_sub [4, 3, 2, 1, 0] rfl ?_
  exact lX10_keyOf_16 G 100000 (a0, a1, a2, 0, v5 / 2, M2) (am_sh.mono l3 h_a0)
theorem CX10_keyOf (G : am_G) (a0 : Nat) (a1 : Int32) (a2 : Int32) (M : am_M) (h_a0 : am_sh M a0 14) : am_C am_ei G 1 yX10_keyOf cX10_keyOf 11 (some FieldType.int) [.ref a0, .int a1, .int a2] M (fX10_keyOf a0 a1 a2 M) :=
  am_meth (by decide) rfl (Nat.le_of_ble_eq_true rfl) (sX10_keyOf_0 G a0 a1 a2 M h_a0)
def fX10_setCell_140 (k10 : (Nat × Int32 × Int32 × Int32 × Int32 × am_M) → Option am_M) (x0 : Nat) (x2 : Int32) (x3 : Int32) (x4 : Int32) (x5 : Int32) (x7 : Int32) (x8 : Int32) (M : am_M) : Option am_M := k10 (x0, x2 + (x7 * x5), x3 + (x8 * x5), x4, x5 * 2, M)
def fX10_setCell_139 (k10 : (Nat × Int32 × Int32 × Int32 × Int32 × am_M) → Option am_M) (x0 : Nat) (x2 : Int32) (x4 : Int32) (x5 : Int32) (x7 : Int32) (x8 : Int32) (s0 : Int32) (M : am_M) : Option am_M := fX10_setCell_140 k10 x0 x2 s0 x4 x5 x7 x8 M
def fX10_setCell_121 (k10 : (Nat × Int32 × Int32 × Int32 × Int32 × am_M) → Option am_M) (x0 : Nat) (x4 : Int32) (x5 : Int32) (x6 : Int32) (x7 : Int32) (x8 : Int32) (x9 : Int32) (s0 : Int32) (M : am_M) : Option am_M := if x6 = 0 then fX10_setCell_139 k10 x0 s0 x4 x5 x7 x8 x9 M else fX10_setCell_139 k10 x0 s0 x4 x5 x7 x8 ((x5 - 1) - x9) M
def fX10_setCell_103 (k10 : (Nat × Int32 × Int32 × Int32 × Int32 × am_M) → Option am_M) (x0 : Nat) (x2 : Int32) (x3 : Int32) (x4 : Int32) (x5 : Int32) (x6 : Int32) (x7 : Int32) (x8 : Int32) (M : am_M) : Option am_M := if x6 = 0 then fX10_setCell_121 k10 x0 x4 x5 x6 x7 x8 x2 x3 M else fX10_setCell_121 k10 x0 x4 x5 x6 x7 x8 x2 ((x5 - 1) - x3) M
def fX10_setCell_82 (k10 : (Nat × Int32 × Int32 × Int32 × Int32 × am_M) → Option am_M) (x0 : Nat) (x2 : Int32) (x3 : Int32) (x4 : Int32) (x5 : Int32) (x6 : Int32) (x7 : Int32) (s0 : Int32) (M : am_M) : Option am_M := if M.1 x0 1 = 1 then if x6 = 0 then fX10_setCell_103 k10 x0 x2 x3 x4 x5 x6 x7 s0 M else if x6 = 3 then fX10_setCell_103 k10 x0 x2 x3 x4 x5 x6 x7 s0 M else fX10_setCell_140 k10 x0 x2 x3 x4 x5 x7 s0 M else fX10_setCell_140 k10 x0 x2 x3 x4 x5 x7 s0 M
def fX10_setCell_77 (k10 : (Nat × Int32 × Int32 × Int32 × Int32 × am_M) → Option am_M) (x0 : Nat) (x2 : Int32) (x3 : Int32) (x4 : Int32) (x5 : Int32) (x6 : Int32) (x7 : Int32) (M : am_M) : Option am_M := fX10_setCell_82 k10 x0 x2 x3 x4 x5 x6 x7 1 M
def fX10_setCell_49 (k10 : (Nat × Int32 × Int32 × Int32 × Int32 × am_M) → Option am_M) (x0 : Nat) (x2 : Int32) (x3 : Int32) (x4 : Int32) (x5 : Int32) (x6 : Int32) (s0 : Int32) (M : am_M) : Option am_M := if M.1 x0 1 = 0 then fX10_setCell_82 k10 x0 x2 x3 x4 x5 x6 s0 (x6 / 2) M else if x6 = 1 then fX10_setCell_77 k10 x0 x2 x3 x4 x5 x6 s0 M else if x6 = 2 then fX10_setCell_77 k10 x0 x2 x3 x4 x5 x6 s0 M else fX10_setCell_82 k10 x0 x2 x3 x4 x5 x6 s0 0 M
def fX10_setCell_10 : ((Nat × Int32 × Int32 × Int32 × Int32 × am_M) → Option am_M) → (Nat × Int32 × Int32 × Int32 × Int32 × am_M) → Option am_M := fun k10 q0 => match q0 with
  | (x0, x2, x3, x4, x5, M) => (fX10_side x0 M).bind fun p6 => if p6.1 ≤ x5 then some (am_pI (am_pI p6.2 x0 19 x2) x0 20 x3) else if p6.2.1 x0 1 = 0 then fX10_setCell_49 k10 x0 x2 x3 (x4 / 4) x5 (x4 - x4 / 4 * 4) ((x4 - x4 / 4 * 4) - (x4 - x4 / 4 * 4) / 2 * 2) p6.2 else fX10_setCell_49 k10 x0 x2 x3 (x4 / 4) x5 (x4 - x4 / 4 * 4) ((x4 - x4 / 4 * 4) / 2) p6.2
def fX10_setCell (a0 : Nat) (a1 : Int32) (M : am_M) : Option am_M := am_loop (fX10_setCell_10) 100000 (a0, 0, 0, a1, 1, M)
set_option maxRecDepth 100000 in
set_option maxHeartbeats 4000000 in
theorem sX10_setCell_140 (G : am_G) (k10 : (Nat × Int32 × Int32 × Int32 × Int32 × am_M) → Option am_M) (hk10 : ∀ q : (Nat × Int32 × Int32 × Int32 × Int32 × am_M), (match q with | (x0, x2, x3, x4, x5, M) => am_sh M x0 14) → match q with | (x0, x2, x3, x4, x5, M) => am_S am_ev G 1 yX10_setCell.cls yX10_setCell.name cX10_setCell 10 none 10 [(0, .ref x0), (2, .int x2), (3, .int x3), (4, .int x4), (5, .int x5)] [] M (k10 (x0, x2, x3, x4, x5, M))) (x0 : Nat) (x2 : Int32) (x3 : Int32) (x4 : Int32) (x5 : Int32) (x7 : Int32) (x8 : Int32) (M : am_M) (h_x0 : am_sh M x0 14) : am_S am_ev G 1 yX10_setCell.cls yX10_setCell.name cX10_setCell 10 none 140 [(0, .ref x0), (2, .int x2), (3, .int x3), (4, .int x4), (5, .int x5), (7, .int x7), (8, .int x8)] [] M (fX10_setCell_140 k10 x0 x2 x3 x4 x5 x7 x8 M) := by
  show am_S am_ev G 1 yX10_setCell.cls yX10_setCell.name cX10_setCell 10 none 140 [(0, .ref x0), (2, .int x2), (3, .int x3), (4, .int x4), (5, .int x5), (7, .int x7), (8, .int x8)] [] M (k10 (x0, x2 + (x7 * x5), x3 + (x8 * x5), x4, x5 * 2, M))
  refine am_iload_n 1 dX10_setCell_140 rfl rfl ?_
  refine am_iload 5 dX10_setCell_141 rfl ?_
  refine am_iload 4 dX10_setCell_143 rfl ?_
  refine am_imul dX10_setCell_145 ?_
  refine am_iadd dX10_setCell_146 ?_
  refine am_istore_n (L' := [(2, .int (x2 + (x7 * x5))), (0, .ref x0), (3, .int x3), (4, .int x4), (5, .int x5), (7, .int x7), (8, .int x8)]) dX10_setCell_147 rfl (by decide) rfl ?_
  refine am_iload_n 2 dX10_setCell_148 rfl rfl ?_
  refine am_iload 6 dX10_setCell_149 rfl ?_
  refine am_iload 4 dX10_setCell_151 rfl ?_
  refine am_imul dX10_setCell_153 ?_
  refine am_iadd dX10_setCell_154 ?_
  refine am_istore_n (L' := [(3, .int (x3 + (x8 * x5))), (2, .int (x2 + (x7 * x5))), (0, .ref x0), (4, .int x4), (5, .int x5), (7, .int x7), (8, .int x8)]) dX10_setCell_155 rfl (by decide) rfl ?_
  refine am_iload 4 dX10_setCell_156 rfl ?_
  refine am_iconst dX10_setCell_158 am_kc_2 ?_
  refine am_imul dX10_setCell_159 ?_
  refine am_istore (L' := [(5, .int (x5 * 2)), (3, .int (x3 + (x8 * x5))), (2, .int (x2 + (x7 * x5))), (0, .ref x0), (4, .int x4), (7, .int x7), (8, .int x8)]) dX10_setCell_160 (by decide) rfl ?_
  refine am_goto (tgt := 10) dX10_setCell_162 (by decide) ?_
  refine am_sub [3, 2, 1, 4, 0] rfl ?_
  exact hk10 (x0, x2 + (x7 * x5), x3 + (x8 * x5), x4, x5 * 2, M) h_x0
set_option maxRecDepth 100000 in
set_option maxHeartbeats 4000000 in
theorem sX10_setCell_139 (G : am_G) (k10 : (Nat × Int32 × Int32 × Int32 × Int32 × am_M) → Option am_M) (hk10 : ∀ q : (Nat × Int32 × Int32 × Int32 × Int32 × am_M), (match q with | (x0, x2, x3, x4, x5, M) => am_sh M x0 14) → match q with | (x0, x2, x3, x4, x5, M) => am_S am_ev G 1 yX10_setCell.cls yX10_setCell.name cX10_setCell 10 none 10 [(0, .ref x0), (2, .int x2), (3, .int x3), (4, .int x4), (5, .int x5)] [] M (k10 (x0, x2, x3, x4, x5, M))) (x0 : Nat) (x2 : Int32) (x4 : Int32) (x5 : Int32) (x7 : Int32) (x8 : Int32) (s0 : Int32) (M : am_M) (h_x0 : am_sh M x0 14) : am_S am_ev G 1 yX10_setCell.cls yX10_setCell.name cX10_setCell 10 none 139 [(0, .ref x0), (2, .int x2), (4, .int x4), (5, .int x5), (7, .int x7), (8, .int x8)] [.int s0] M (fX10_setCell_139 k10 x0 x2 x4 x5 x7 x8 s0 M) := by
  show am_S am_ev G 1 yX10_setCell.cls yX10_setCell.name cX10_setCell 10 none 139 [(0, .ref x0), (2, .int x2), (4, .int x4), (5, .int x5), (7, .int x7), (8, .int x8)] [.int s0] M (fX10_setCell_140 k10 x0 x2 s0 x4 x5 x7 x8 M)
  refine am_istore_n (L' := [(3, .int s0), (0, .ref x0), (2, .int x2), (4, .int x4), (5, .int x5), (7, .int x7), (8, .int x8)]) dX10_setCell_139 rfl (by decide) rfl ?_
  refine am_sub [1, 2, 0, 3, 4, 5, 6] rfl ?_
  exact sX10_setCell_140 G k10 hk10 x0 x2 s0 x4 x5 x7 x8 M h_x0
set_option maxRecDepth 100000 in
set_option maxHeartbeats 4000000 in
theorem sX10_setCell_121 (G : am_G) (k10 : (Nat × Int32 × Int32 × Int32 × Int32 × am_M) → Option am_M) (hk10 : ∀ q : (Nat × Int32 × Int32 × Int32 × Int32 × am_M), (match q with | (x0, x2, x3, x4, x5, M) => am_sh M x0 14) → match q with | (x0, x2, x3, x4, x5, M) => am_S am_ev G 1 yX10_setCell.cls yX10_setCell.name cX10_setCell 10 none 10 [(0, .ref x0), (2, .int x2), (3, .int x3), (4, .int x4), (5, .int x5)] [] M (k10 (x0, x2, x3, x4, x5, M))) (x0 : Nat) (x4 : Int32) (x5 : Int32) (x6 : Int32) (x7 : Int32) (x8 : Int32) (x9 : Int32) (s0 : Int32) (M : am_M) (h_x0 : am_sh M x0 14) : am_S am_ev G 1 yX10_setCell.cls yX10_setCell.name cX10_setCell 10 none 121 [(0, .ref x0), (4, .int x4), (5, .int x5), (6, .int x6), (7, .int x7), (8, .int x8), (9, .int x9)] [.int s0] M (fX10_setCell_121 k10 x0 x4 x5 x6 x7 x8 x9 s0 M) := by
  show am_S am_ev G 1 yX10_setCell.cls yX10_setCell.name cX10_setCell 10 none 121 [(0, .ref x0), (4, .int x4), (5, .int x5), (6, .int x6), (7, .int x7), (8, .int x8), (9, .int x9)] [.int s0] M (if x6 = 0 then fX10_setCell_139 k10 x0 s0 x4 x5 x7 x8 x9 M else fX10_setCell_139 k10 x0 s0 x4 x5 x7 x8 ((x5 - 1) - x9) M)
  refine am_istore_n (L' := [(2, .int s0), (0, .ref x0), (4, .int x4), (5, .int x5), (6, .int x6), (7, .int x7), (8, .int x8), (9, .int x9)]) dX10_setCell_121 rfl (by decide) rfl ?_
  refine am_iload 4 dX10_setCell_122 rfl ?_
  refine am_if_ne (tgt := 132) dX10_setCell_124 (by decide) (fun c14 => ?_) (fun c14 => ?_)
  · refine am_iload 3 dX10_setCell_132 rfl ?_
    refine am_iconst dX10_setCell_134 am_kc_1 ?_
    refine am_isub dX10_setCell_135 ?_
    refine am_iload 7 dX10_setCell_136 rfl ?_
    refine am_isub dX10_setCell_138 ?_
    refine am_sub [1, 0, 2, 3, 5, 6] rfl ?_
    exact sX10_setCell_139 G k10 hk10 x0 s0 x4 x5 x7 x8 ((x5 - 1) - x9) M h_x0
  · refine am_iload 7 dX10_setCell_127 rfl ?_
    refine am_goto (tgt := 139) dX10_setCell_129 (by decide) ?_
    refine am_sub [1, 0, 2, 3, 5, 6] rfl ?_
    exact sX10_setCell_139 G k10 hk10 x0 s0 x4 x5 x7 x8 x9 M h_x0
set_option maxRecDepth 100000 in
set_option maxHeartbeats 4000000 in
theorem sX10_setCell_103 (G : am_G) (k10 : (Nat × Int32 × Int32 × Int32 × Int32 × am_M) → Option am_M) (hk10 : ∀ q : (Nat × Int32 × Int32 × Int32 × Int32 × am_M), (match q with | (x0, x2, x3, x4, x5, M) => am_sh M x0 14) → match q with | (x0, x2, x3, x4, x5, M) => am_S am_ev G 1 yX10_setCell.cls yX10_setCell.name cX10_setCell 10 none 10 [(0, .ref x0), (2, .int x2), (3, .int x3), (4, .int x4), (5, .int x5)] [] M (k10 (x0, x2, x3, x4, x5, M))) (x0 : Nat) (x2 : Int32) (x3 : Int32) (x4 : Int32) (x5 : Int32) (x6 : Int32) (x7 : Int32) (x8 : Int32) (M : am_M) (h_x0 : am_sh M x0 14) : am_S am_ev G 1 yX10_setCell.cls yX10_setCell.name cX10_setCell 10 none 103 [(0, .ref x0), (2, .int x2), (3, .int x3), (4, .int x4), (5, .int x5), (6, .int x6), (7, .int x7), (8, .int x8)] [] M (fX10_setCell_103 k10 x0 x2 x3 x4 x5 x6 x7 x8 M) := by
  show am_S am_ev G 1 yX10_setCell.cls yX10_setCell.name cX10_setCell 10 none 103 [(0, .ref x0), (2, .int x2), (3, .int x3), (4, .int x4), (5, .int x5), (6, .int x6), (7, .int x7), (8, .int x8)] [] M (if x6 = 0 then fX10_setCell_121 k10 x0 x4 x5 x6 x7 x8 x2 x3 M else fX10_setCell_121 k10 x0 x4 x5 x6 x7 x8 x2 ((x5 - 1) - x3) M)
  refine am_iload_n 1 dX10_setCell_103 rfl rfl ?_
  refine am_istore (L' := [(9, .int x2), (0, .ref x0), (2, .int x2), (3, .int x3), (4, .int x4), (5, .int x5), (6, .int x6), (7, .int x7), (8, .int x8)]) dX10_setCell_104 (by decide) rfl ?_
  refine am_iload 6 dX10_setCell_106 rfl ?_
  refine am_if_ne (tgt := 115) dX10_setCell_108 (by decide) (fun c13 => ?_) (fun c13 => ?_)
  · refine am_iload 5 dX10_setCell_115 rfl ?_
    refine am_iconst dX10_setCell_117 am_kc_1 ?_
    refine am_isub dX10_setCell_118 ?_
    refine am_iload_n 3 dX10_setCell_119 rfl rfl ?_
    refine am_isub dX10_setCell_120 ?_
    refine am_sub [1, 4, 5, 6, 7, 8, 0] rfl ?_
    exact sX10_setCell_121 G k10 hk10 x0 x4 x5 x6 x7 x8 x2 ((x5 - 1) - x3) M h_x0
  · refine am_iload_n 3 dX10_setCell_111 rfl rfl ?_
    refine am_goto (tgt := 121) dX10_setCell_112 (by decide) ?_
    refine am_sub [1, 4, 5, 6, 7, 8, 0] rfl ?_
    exact sX10_setCell_121 G k10 hk10 x0 x4 x5 x6 x7 x8 x2 x3 M h_x0
set_option maxRecDepth 100000 in
set_option maxHeartbeats 4000000 in
theorem sX10_setCell_82 (G : am_G) (k10 : (Nat × Int32 × Int32 × Int32 × Int32 × am_M) → Option am_M) (hk10 : ∀ q : (Nat × Int32 × Int32 × Int32 × Int32 × am_M), (match q with | (x0, x2, x3, x4, x5, M) => am_sh M x0 14) → match q with | (x0, x2, x3, x4, x5, M) => am_S am_ev G 1 yX10_setCell.cls yX10_setCell.name cX10_setCell 10 none 10 [(0, .ref x0), (2, .int x2), (3, .int x3), (4, .int x4), (5, .int x5)] [] M (k10 (x0, x2, x3, x4, x5, M))) (x0 : Nat) (x2 : Int32) (x3 : Int32) (x4 : Int32) (x5 : Int32) (x6 : Int32) (x7 : Int32) (s0 : Int32) (M : am_M) (h_x0 : am_sh M x0 14) : am_S am_ev G 1 yX10_setCell.cls yX10_setCell.name cX10_setCell 10 none 82 [(0, .ref x0), (2, .int x2), (3, .int x3), (4, .int x4), (5, .int x5), (6, .int x6), (7, .int x7)] [.int s0] M (fX10_setCell_82 k10 x0 x2 x3 x4 x5 x6 x7 s0 M) := by
  show am_S am_ev G 1 yX10_setCell.cls yX10_setCell.name cX10_setCell 10 none 82 [(0, .ref x0), (2, .int x2), (3, .int x3), (4, .int x4), (5, .int x5), (6, .int x6), (7, .int x7)] [.int s0] M (if M.1 x0 1 = 1 then if x6 = 0 then fX10_setCell_103 k10 x0 x2 x3 x4 x5 x6 x7 s0 M else if x6 = 3 then fX10_setCell_103 k10 x0 x2 x3 x4 x5 x6 x7 s0 M else fX10_setCell_140 k10 x0 x2 x3 x4 x5 x7 s0 M else fX10_setCell_140 k10 x0 x2 x3 x4 x5 x7 s0 M)
  refine am_istore (L' := [(8, .int s0), (0, .ref x0), (2, .int x2), (3, .int x3), (4, .int x4), (5, .int x5), (6, .int x6), (7, .int x7)]) dX10_setCell_82 (by decide) rfl ?_
  refine am_aload_n 1 dX10_setCell_84 rfl rfl ?_
  refine am_getI 9 dX10_setCell_85 fl_RX10_13 h_x0 rfl ?_
  refine am_iconst dX10_setCell_88 am_kc_1 ?_
  refine am_icmp_ne (tgt := 140) dX10_setCell_89 (by decide) (fun c11 => ?_) (fun c11 => ?_)
  · refine am_sub [1, 2, 3, 4, 5, 7, 0] rfl ?_
    exact sX10_setCell_140 G k10 hk10 x0 x2 x3 x4 x5 x7 s0 M h_x0
  · refine am_iload 6 dX10_setCell_92 rfl ?_
    refine am_if_eq (tgt := 103) dX10_setCell_94 (by decide) (fun c12 => ?_) (fun c12 => ?_)
    · refine am_sub [1, 2, 3, 4, 5, 6, 7, 0] rfl ?_
      exact sX10_setCell_103 G k10 hk10 x0 x2 x3 x4 x5 x6 x7 s0 M h_x0
    · refine am_iload 6 dX10_setCell_97 rfl ?_
      refine am_iconst dX10_setCell_99 am_kc_3 ?_
      refine am_icmp_ne (tgt := 140) dX10_setCell_100 (by decide) (fun c15 => ?_) (fun c15 => ?_)
      · refine am_sub [1, 2, 3, 4, 5, 7, 0] rfl ?_
        exact sX10_setCell_140 G k10 hk10 x0 x2 x3 x4 x5 x7 s0 M h_x0
      · refine am_sub [1, 2, 3, 4, 5, 6, 7, 0] rfl ?_
        exact sX10_setCell_103 G k10 hk10 x0 x2 x3 x4 x5 x6 x7 s0 M h_x0
set_option maxRecDepth 100000 in
set_option maxHeartbeats 4000000 in
theorem sX10_setCell_77 (G : am_G) (k10 : (Nat × Int32 × Int32 × Int32 × Int32 × am_M) → Option am_M) (hk10 : ∀ q : (Nat × Int32 × Int32 × Int32 × Int32 × am_M), (match q with | (x0, x2, x3, x4, x5, M) => am_sh M x0 14) → match q with | (x0, x2, x3, x4, x5, M) => am_S am_ev G 1 yX10_setCell.cls yX10_setCell.name cX10_setCell 10 none 10 [(0, .ref x0), (2, .int x2), (3, .int x3), (4, .int x4), (5, .int x5)] [] M (k10 (x0, x2, x3, x4, x5, M))) (x0 : Nat) (x2 : Int32) (x3 : Int32) (x4 : Int32) (x5 : Int32) (x6 : Int32) (x7 : Int32) (M : am_M) (h_x0 : am_sh M x0 14) : am_S am_ev G 1 yX10_setCell.cls yX10_setCell.name cX10_setCell 10 none 77 [(0, .ref x0), (2, .int x2), (3, .int x3), (4, .int x4), (5, .int x5), (6, .int x6), (7, .int x7)] [] M (fX10_setCell_77 k10 x0 x2 x3 x4 x5 x6 x7 M) := by
  show am_S am_ev G 1 yX10_setCell.cls yX10_setCell.name cX10_setCell 10 none 77 [(0, .ref x0), (2, .int x2), (3, .int x3), (4, .int x4), (5, .int x5), (6, .int x6), (7, .int x7)] [] M (fX10_setCell_82 k10 x0 x2 x3 x4 x5 x6 x7 1 M)
  refine am_iconst dX10_setCell_77 am_kc_1 ?_
  refine am_goto (tgt := 82) dX10_setCell_78 (by decide) ?_
  exact sX10_setCell_82 G k10 hk10 x0 x2 x3 x4 x5 x6 x7 1 M h_x0
set_option maxRecDepth 100000 in
set_option maxHeartbeats 4000000 in
theorem sX10_setCell_49 (G : am_G) (k10 : (Nat × Int32 × Int32 × Int32 × Int32 × am_M) → Option am_M) (hk10 : ∀ q : (Nat × Int32 × Int32 × Int32 × Int32 × am_M), (match q with | (x0, x2, x3, x4, x5, M) => am_sh M x0 14) → match q with | (x0, x2, x3, x4, x5, M) => am_S am_ev G 1 yX10_setCell.cls yX10_setCell.name cX10_setCell 10 none 10 [(0, .ref x0), (2, .int x2), (3, .int x3), (4, .int x4), (5, .int x5)] [] M (k10 (x0, x2, x3, x4, x5, M))) (x0 : Nat) (x2 : Int32) (x3 : Int32) (x4 : Int32) (x5 : Int32) (x6 : Int32) (s0 : Int32) (M : am_M) (h_x0 : am_sh M x0 14) : am_S am_ev G 1 yX10_setCell.cls yX10_setCell.name cX10_setCell 10 none 49 [(0, .ref x0), (2, .int x2), (3, .int x3), (4, .int x4), (5, .int x5), (6, .int x6)] [.int s0] M (fX10_setCell_49 k10 x0 x2 x3 x4 x5 x6 s0 M) := by
  show am_S am_ev G 1 yX10_setCell.cls yX10_setCell.name cX10_setCell 10 none 49 [(0, .ref x0), (2, .int x2), (3, .int x3), (4, .int x4), (5, .int x5), (6, .int x6)] [.int s0] M (if M.1 x0 1 = 0 then fX10_setCell_82 k10 x0 x2 x3 x4 x5 x6 s0 (x6 / 2) M else if x6 = 1 then fX10_setCell_77 k10 x0 x2 x3 x4 x5 x6 s0 M else if x6 = 2 then fX10_setCell_77 k10 x0 x2 x3 x4 x5 x6 s0 M else fX10_setCell_82 k10 x0 x2 x3 x4 x5 x6 s0 0 M)
  refine am_istore (L' := [(7, .int s0), (0, .ref x0), (2, .int x2), (3, .int x3), (4, .int x4), (5, .int x5), (6, .int x6)]) dX10_setCell_49 (by decide) rfl ?_
  refine am_aload_n 1 dX10_setCell_51 rfl rfl ?_
  refine am_getI 9 dX10_setCell_52 fl_RX10_13 h_x0 rfl ?_
  refine am_if_ne (tgt := 65) dX10_setCell_55 (by decide) (fun c9 => ?_) (fun c9 => ?_)
  · refine am_iload 6 dX10_setCell_65 rfl ?_
    refine am_iconst dX10_setCell_67 am_kc_1 ?_
    refine am_icmp_eq (tgt := 77) dX10_setCell_68 (by decide) (fun c10 => ?_) (fun c10 => ?_)
    · refine am_sub [1, 2, 3, 4, 5, 6, 0] rfl ?_
      exact sX10_setCell_77 G k10 hk10 x0 x2 x3 x4 x5 x6 s0 M h_x0
    · refine am_iload 6 dX10_setCell_71 rfl ?_
      refine am_iconst dX10_setCell_73 am_kc_2 ?_
      refine am_icmp_ne (tgt := 81) dX10_setCell_74 (by decide) (fun c16 => ?_) (fun c16 => ?_)
      · refine am_iconst dX10_setCell_81 am_kc_0 ?_
        refine am_sub [1, 2, 3, 4, 5, 6, 0] rfl ?_
        exact sX10_setCell_82 G k10 hk10 x0 x2 x3 x4 x5 x6 s0 0 M h_x0
      · refine am_sub [1, 2, 3, 4, 5, 6, 0] rfl ?_
        exact sX10_setCell_77 G k10 hk10 x0 x2 x3 x4 x5 x6 s0 M h_x0
  · refine am_iload 6 dX10_setCell_58 rfl ?_
    refine am_iconst dX10_setCell_60 am_kc_2 ?_
    refine am_idivk dX10_setCell_61 (by decide) ?_
    refine am_goto (tgt := 82) dX10_setCell_62 (by decide) ?_
    refine am_sub [1, 2, 3, 4, 5, 6, 0] rfl ?_
    exact sX10_setCell_82 G k10 hk10 x0 x2 x3 x4 x5 x6 s0 (x6 / 2) M h_x0
set_option maxRecDepth 100000 in
set_option maxHeartbeats 4000000 in
theorem sX10_setCell_10 (G : am_G) (k10 : (Nat × Int32 × Int32 × Int32 × Int32 × am_M) → Option am_M) (hk10 : ∀ q : (Nat × Int32 × Int32 × Int32 × Int32 × am_M), (match q with | (x0, x2, x3, x4, x5, M) => am_sh M x0 14) → match q with | (x0, x2, x3, x4, x5, M) => am_S am_ev G 1 yX10_setCell.cls yX10_setCell.name cX10_setCell 10 none 10 [(0, .ref x0), (2, .int x2), (3, .int x3), (4, .int x4), (5, .int x5)] [] M (k10 (x0, x2, x3, x4, x5, M))) (x0 : Nat) (x2 : Int32) (x3 : Int32) (x4 : Int32) (x5 : Int32) (M : am_M) (h_x0 : am_sh M x0 14) : am_S am_ev G 1 yX10_setCell.cls yX10_setCell.name cX10_setCell 10 none 10 [(0, .ref x0), (2, .int x2), (3, .int x3), (4, .int x4), (5, .int x5)] [] M (fX10_setCell_10 k10 (x0, x2, x3, x4, x5, M)) := by
  show am_S am_ev G 1 yX10_setCell.cls yX10_setCell.name cX10_setCell 10 none 10 [(0, .ref x0), (2, .int x2), (3, .int x3), (4, .int x4), (5, .int x5)] [] M ((fX10_side x0 M).bind fun p6 => if p6.1 ≤ x5 then some (am_pI (am_pI p6.2 x0 19 x2) x0 20 x3) else if p6.2.1 x0 1 = 0 then fX10_setCell_49 k10 x0 x2 x3 (x4 / 4) x5 (x4 - x4 / 4 * 4) ((x4 - x4 / 4 * 4) - (x4 - x4 / 4 * 4) / 2 * 2) p6.2 else fX10_setCell_49 k10 x0 x2 x3 (x4 / 4) x5 (x4 - x4 / 4 * 4) ((x4 - x4 / 4 * 4) / 2) p6.2)
  refine am_iload 4 dX10_setCell_10 rfl ?_
  refine am_aload_n 0 dX10_setCell_12 rfl rfl ?_
  refine am_callVi 9 [] (CX10_side G x0 M h_x0) dX10_setCell_13 mb_yX10_side ⟨ml_RX10_62, im_yX10_side, se_yX10_side⟩ rfl h_x0 (by decide) rfl rfl (Nat.le_of_ble_eq_true rfl) (fun v5 M2 q1 w4 l3 => ?_)
  refine am_icmp_ge (tgt := 165) dX10_setCell_16 (by decide) (fun c7 => ?_) (fun c7 => ?_)
  · refine am_aload_n 0 dX10_setCell_165 rfl rfl ?_
    refine am_iload_n 1 dX10_setCell_166 rfl rfl ?_
    refine am_putI 9 dX10_setCell_167 fl_RX10_147 (am_sh.mono l3 h_x0) rfl rfl rfl rfl ?_
    refine am_aload_n 0 dX10_setCell_170 rfl rfl ?_
    refine am_iload_n 2 dX10_setCell_171 rfl rfl ?_
    refine am_putI 9 dX10_setCell_172 fl_RX10_150 (am_sh.of (am_sh.mono l3 h_x0) rfl) rfl rfl rfl rfl ?_
    exact am_vret dX10_setCell_175
  · refine am_iload 3 dX10_setCell_19 rfl ?_
    refine am_iconst dX10_setCell_21 am_kc_4 ?_
    refine am_iremk dX10_setCell_22 (by decide) ?_
    refine am_istore (L' := [(6, .int (x4 - x4 / 4 * 4)), (0, .ref x0), (2, .int x2), (3, .int x3), (4, .int x4), (5, .int x5)]) dX10_setCell_23 (by decide) rfl ?_
    refine am_iload 4 dX10_setCell_25 rfl ?_
    refine am_iconst dX10_setCell_27 am_kc_4 ?_
    refine am_idivk dX10_setCell_28 (by decide) ?_
    refine am_istore (L' := [(4, .int (x4 / 4)), (6, .int (x4 - x4 / 4 * 4)), (0, .ref x0), (2, .int x2), (3, .int x3), (5, .int x5)]) dX10_setCell_29 (by decide) rfl ?_
    refine am_aload_n 2 dX10_setCell_31 rfl rfl ?_
    refine am_getI 9 dX10_setCell_32 fl_RX10_13 (am_sh.mono l3 h_x0) rfl ?_
    refine am_if_ne (tgt := 45) dX10_setCell_35 (by decide) (fun c8 => ?_) (fun c8 => ?_)
    · refine am_iload 1 dX10_setCell_45 rfl ?_
      refine am_iconst dX10_setCell_47 am_kc_2 ?_
      refine am_idivk dX10_setCell_48 (by decide) ?_
      refine am_sub [2, 3, 4, 0, 5, 1] rfl ?_
      exact sX10_setCell_49 G k10 hk10 x0 x2 x3 (x4 / 4) x5 (x4 - x4 / 4 * 4) ((x4 - x4 / 4 * 4) / 2) M2 (am_sh.mono l3 h_x0)
    · refine am_iload 1 dX10_setCell_38 rfl ?_
      refine am_iconst dX10_setCell_40 am_kc_2 ?_
      refine am_iremk dX10_setCell_41 (by decide) ?_
      refine am_goto (tgt := 49) dX10_setCell_42 (by decide) ?_
      refine am_sub [2, 3, 4, 0, 5, 1] rfl ?_
      exact sX10_setCell_49 G k10 hk10 x0 x2 x3 (x4 / 4) x5 (x4 - x4 / 4 * 4) ((x4 - x4 / 4 * 4) - (x4 - x4 / 4 * 4) / 2 * 2) M2 (am_sh.mono l3 h_x0)
set_option maxRecDepth 100000 in
set_option maxHeartbeats 4000000 in
theorem lX10_setCell_10 (G : am_G) (n : Nat) (q : (Nat × Int32 × Int32 × Int32 × Int32 × am_M)) (hq : match q with | (x0, x2, x3, x4, x5, M) => am_sh M x0 14) : match q with | (x0, x2, x3, x4, x5, M) => am_S am_ev G 1 yX10_setCell.cls yX10_setCell.name cX10_setCell 10 none 10 [(0, .ref x0), (2, .int x2), (3, .int x3), (4, .int x4), (5, .int x5)] [] M (am_loop (fX10_setCell_10) n (x0, x2, x3, x4, x5, M)) := by
  exact am_loop_ok (fun q : (Nat × Int32 × Int32 × Int32 × Int32 × am_M) => match q with | (x0, x2, x3, x4, x5, M) => am_sh M x0 14) (fun q X => match q with | (x0, x2, x3, x4, x5, M) => am_S am_ev G 1 yX10_setCell.cls yX10_setCell.name cX10_setCell 10 none 10 [(0, .ref x0), (2, .int x2), (3, .int x3), (4, .int x4), (5, .int x5)] [] M X) (fun _ => am_none) (fun k10 hk10 q hq => match q, hq with | (x0, x2, x3, x4, x5, M), h_x0 => sX10_setCell_10 G k10 hk10 x0 x2 x3 x4 x5 M h_x0) n q hq
set_option maxRecDepth 100000 in
set_option maxHeartbeats 4000000 in
theorem sX10_setCell_0 (G : am_G) (a0 : Nat) (a1 : Int32) (M : am_M) (h_a0 : am_sh M a0 14) : am_S am_ev G 1 yX10_setCell.cls yX10_setCell.name cX10_setCell 10 none 0 [(0, .ref a0), (1, .int a1)] [] M (fX10_setCell a0 a1 M) := by
  show am_S am_ev G 1 yX10_setCell.cls yX10_setCell.name cX10_setCell 10 none 0 [(0, .ref a0), (1, .int a1)] [] M (am_loop (fX10_setCell_10) 100000 (a0, 0, 0, a1, 1, M))
  refine am_iconst dX10_setCell_0 am_kc_0 ?_
  refine am_istore_n (L' := [(2, .int 0), (0, .ref a0), (1, .int a1)]) dX10_setCell_1 rfl (by decide) rfl ?_
  refine am_iconst dX10_setCell_2 am_kc_0 ?_
  refine am_istore_n (L' := [(3, .int 0), (2, .int 0), (0, .ref a0), (1, .int a1)]) dX10_setCell_3 rfl (by decide) rfl ?_
  refine am_iload_n 3 dX10_setCell_4 rfl rfl ?_
  refine am_istore (L' := [(4, .int a1), (3, .int 0), (2, .int 0), (0, .ref a0), (1, .int a1)]) dX10_setCell_5 (by decide) rfl ?_
  refine am_iconst dX10_setCell_7 am_kc_1 ?_
  refine am_istore (L' := [(5, .int 1), (4, .int a1), (3, .int 0), (2, .int 0), (0, .ref a0), (1, .int a1)]) dX10_setCell_8 (by decide) rfl ?_
  refine am_sub [4, 3, 2, 1, 0] rfl ?_
  exact lX10_setCell_10 G 100000 (a0, 0, 0, a1, 1, M) h_a0
theorem CX10_setCell (G : am_G) (a0 : Nat) (a1 : Int32) (M : am_M) (h_a0 : am_sh M a0 14) : am_C am_ev G 1 yX10_setCell cX10_setCell 10 none [.ref a0, .int a1] M (fX10_setCell a0 a1 M) :=
  am_meth (by decide) rfl (Nat.le_of_ble_eq_true rfl) (sX10_setCell_0 G a0 a1 M h_a0)
def fX10_key (a0 : Nat) (a1 : Int32) (a2 : Int32) (M : am_M) : Option (Int32 × am_M) := (fX10_isCell a0 a1 a2 M).bind fun p6 => if p6.1 = 0 then some ((-1), p6.2) else (fX10_keyOf a0 a1 a2 p6.2).bind fun p13 => some (p13.1, p13.2)
set_option maxRecDepth 100000 in
set_option maxHeartbeats 4000000 in
theorem sX10_key_0 (G : am_G) (a0 : Nat) (a1 : Int32) (a2 : Int32) (M : am_M) (h_a0 : am_sh M a0 14) : am_S am_ei G 2 yX10_key.cls yX10_key.name cX10_key 3 (some FieldType.int) 0 [(0, .ref a0), (1, .int a1), (2, .int a2)] [] M (fX10_key a0 a1 a2 M) := by
  show am_S am_ei G 2 yX10_key.cls yX10_key.name cX10_key 3 (some FieldType.int) 0 [(0, .ref a0), (1, .int a1), (2, .int a2)] [] M ((fX10_isCell a0 a1 a2 M).bind fun p6 => if p6.1 = 0 then some ((-1), p6.2) else (fX10_keyOf a0 a1 a2 p6.2).bind fun p13 => some (p13.1, p13.2))
  refine am_aload_n 0 dX10_key_0 rfl rfl ?_
  refine am_iload_n 1 dX10_key_1 rfl rfl ?_
  refine am_iload_n 2 dX10_key_2 rfl rfl ?_
  refine am_callVi 9 [.int a1, .int a2] (CX10_isCell G a0 a1 a2 M h_a0) dX10_key_3 mb_yX10_isCell ⟨ml_RX10_140, im_yX10_isCell, se_yX10_isCell⟩ rfl h_a0 (by decide) rfl rfl (Nat.le_of_ble_eq_true rfl) (fun v5 M2 q1 w4 l3 => ?_)
  refine am_if_eq (tgt := 18) dX10_key_6 (by decide) (fun c7 => ?_) (fun c7 => ?_)
  · refine am_iconst dX10_key_18 am_kc_m1 ?_
    exact am_iret dX10_key_19
  · refine am_aload_n 0 dX10_key_9 rfl rfl ?_
    refine am_iload_n 1 dX10_key_10 rfl rfl ?_
    refine am_iload_n 2 dX10_key_11 rfl rfl ?_
    refine am_callVi 9 [.int a1, .int a2] (CX10_keyOf G a0 a1 a2 M2 (am_sh.mono l3 h_a0)) dX10_key_12 mb_yX10_keyOf ⟨ml_RX10_153, im_yX10_keyOf, se_yX10_keyOf⟩ rfl (am_sh.mono l3 h_a0) (by decide) rfl rfl (Nat.le_of_ble_eq_true rfl) (fun v12 M9 q8 w11 l10 => ?_)
    refine am_goto (tgt := 19) dX10_key_15 (by decide) ?_
    exact am_iret dX10_key_19
theorem CX10_key (G : am_G) (a0 : Nat) (a1 : Int32) (a2 : Int32) (M : am_M) (h_a0 : am_sh M a0 14) : am_C am_ei G 2 yX10_key cX10_key 3 (some FieldType.int) [.ref a0, .int a1, .int a2] M (fX10_key a0 a1 a2 M) :=
  am_meth (by decide) rfl (Nat.le_of_ble_eq_true rfl) (sX10_key_0 G a0 a1 a2 M h_a0)
def fX10_cell (a0 : Nat) (a1 : Int32) (a2 : Int32) (M : am_M) : Option (Int32 × am_M) := (fX10_cells a0 M).bind fun p6 => (fX10_isIn a1 0 (p6.1 - 1) p6.2).bind fun p12 => if p12.1 = 0 then some ((-1), p12.2) else (fX10_isIn a2 0 1 p12.2).bind fun p19 => if p19.1 = 0 then some ((-1), p19.2) else (fX10_setCell a0 a1 p19.2).bind fun M22 => if a2 = 0 then some (M22.1 a0 19, M22) else some (M22.1 a0 20, M22)
set_option maxRecDepth 100000 in
set_option maxHeartbeats 4000000 in
theorem sX10_cell_0 (G : am_G) (a0 : Nat) (a1 : Int32) (a2 : Int32) (M : am_M) (h_a0 : am_sh M a0 14) : am_S am_ei G 2 yX10_cell.cls yX10_cell.name cX10_cell 3 (some FieldType.int) 0 [(0, .ref a0), (1, .int a1), (2, .int a2)] [] M (fX10_cell a0 a1 a2 M) := by
  show am_S am_ei G 2 yX10_cell.cls yX10_cell.name cX10_cell 3 (some FieldType.int) 0 [(0, .ref a0), (1, .int a1), (2, .int a2)] [] M ((fX10_cells a0 M).bind fun p6 => (fX10_isIn a1 0 (p6.1 - 1) p6.2).bind fun p12 => if p12.1 = 0 then some ((-1), p12.2) else (fX10_isIn a2 0 1 p12.2).bind fun p19 => if p19.1 = 0 then some ((-1), p19.2) else (fX10_setCell a0 a1 p19.2).bind fun M22 => if a2 = 0 then some (M22.1 a0 19, M22) else some (M22.1 a0 20, M22))
  refine am_iload_n 1 dX10_cell_0 rfl rfl ?_
  refine am_iconst dX10_cell_1 am_kc_0 ?_
  refine am_aload_n 0 dX10_cell_2 rfl rfl ?_
  refine am_callVi 9 [] (CX10_cells G a0 M h_a0) dX10_cell_3 mb_yX10_cells ⟨ml_RX10_157, im_yX10_cells, se_yX10_cells⟩ rfl h_a0 (by decide) rfl rfl (Nat.le_of_ble_eq_true rfl) (fun v5 M2 q1 w4 l3 => ?_)
  refine am_iconst dX10_cell_6 am_kc_1 ?_
  refine am_isub dX10_cell_7 ?_
  refine am_callSi [.int a1, .int 0, .int (v5 - 1)] (CX10_isIn G a1 0 (v5 - 1) M2) dX10_cell_8 mb_yX10_isIn ⟨ml_RX10_66, sm_yX10_isIn⟩ (by decide) rfl rfl (Nat.le_of_ble_eq_true rfl) (fun v11 M8 q7 w10 l9 => ?_)
  refine am_if_eq (tgt := 23) dX10_cell_11 (by decide) (fun c13 => ?_) (fun c13 => ?_)
  · refine am_iconst dX10_cell_23 am_kc_m1 ?_
    exact am_iret dX10_cell_24
  · refine am_iload_n 2 dX10_cell_14 rfl rfl ?_
    refine am_iconst dX10_cell_15 am_kc_0 ?_
    refine am_iconst dX10_cell_16 am_kc_1 ?_
    refine am_callSi [.int a2, .int 0, .int 1] (CX10_isIn G a2 0 1 M8) dX10_cell_17 mb_yX10_isIn ⟨ml_RX10_66, sm_yX10_isIn⟩ (by decide) rfl rfl (Nat.le_of_ble_eq_true rfl) (fun v18 M15 q14 w17 l16 => ?_)
    refine am_if_ne (tgt := 25) dX10_cell_20 (by decide) (fun c20 => ?_) (fun c20 => ?_)
    · refine am_aload_n 0 dX10_cell_25 rfl rfl ?_
      refine am_iload_n 1 dX10_cell_26 rfl rfl ?_
      refine am_callVv 9 [.int a1] (CX10_setCell G a0 a1 M15 (am_sh.mono l16 (am_sh.mono l9 (am_sh.mono l3 h_a0)))) dX10_cell_27 mb_yX10_setCell ⟨ml_RX10_160, im_yX10_setCell, se_yX10_setCell⟩ rfl (am_sh.mono l16 (am_sh.mono l9 (am_sh.mono l3 h_a0))) (by decide) rfl rfl (Nat.le_of_ble_eq_true rfl) (fun M22 q21 w24 l23 => ?_)
      refine am_iload_n 2 dX10_cell_30 rfl rfl ?_
      refine am_if_ne (tgt := 41) dX10_cell_31 (by decide) (fun c26 => ?_) (fun c26 => ?_)
      · refine am_aload_n 0 dX10_cell_41 rfl rfl ?_
        refine am_getI 9 dX10_cell_42 fl_RX10_150 (am_sh.mono l23 (am_sh.mono l16 (am_sh.mono l9 (am_sh.mono l3 h_a0)))) rfl ?_
        exact am_iret dX10_cell_45
      · refine am_aload_n 0 dX10_cell_34 rfl rfl ?_
        refine am_getI 9 dX10_cell_35 fl_RX10_147 (am_sh.mono l23 (am_sh.mono l16 (am_sh.mono l9 (am_sh.mono l3 h_a0)))) rfl ?_
        refine am_goto (tgt := 45) dX10_cell_38 (by decide) ?_
        exact am_iret dX10_cell_45
    · refine am_iconst dX10_cell_23 am_kc_m1 ?_
      exact am_iret dX10_cell_24
theorem CX10_cell (G : am_G) (a0 : Nat) (a1 : Int32) (a2 : Int32) (M : am_M) (h_a0 : am_sh M a0 14) : am_C am_ei G 2 yX10_cell cX10_cell 3 (some FieldType.int) [.ref a0, .int a1, .int a2] M (fX10_cell a0 a1 a2 M) :=
  am_meth (by decide) rfl (Nat.le_of_ble_eq_true rfl) (sX10_cell_0 G a0 a1 a2 M h_a0)
def fX10_isTile (a0 : Nat) (a1 : Int32) (a2 : Int32) (M : am_M) : Option (Int32 × am_M) := (fX10_isIn a1 0 (M.1 a0 0) M).bind fun p6 => if p6.1 = 0 then some (0, p6.2) else (fX10_isIn a2 0 ((1 <<< ((2 * a1) &&& 31)) - 1) p6.2).bind fun p13 => if p13.1 = 0 then some (0, p13.2) else some (1, p13.2)
set_option maxRecDepth 100000 in
set_option maxHeartbeats 4000000 in
theorem sX10_isTile_0 (G : am_G) (a0 : Nat) (a1 : Int32) (a2 : Int32) (M : am_M) (h_a0 : am_sh M a0 14) : am_S am_ei G 1 yX10_isTile.cls yX10_isTile.name cX10_isTile 3 (some FieldType.boolean) 0 [(0, .ref a0), (1, .int a1), (2, .int a2)] [] M (fX10_isTile a0 a1 a2 M) := by
  show am_S am_ei G 1 yX10_isTile.cls yX10_isTile.name cX10_isTile 3 (some FieldType.boolean) 0 [(0, .ref a0), (1, .int a1), (2, .int a2)] [] M ((fX10_isIn a1 0 (M.1 a0 0) M).bind fun p6 => if p6.1 = 0 then some (0, p6.2) else (fX10_isIn a2 0 ((1 <<< ((2 * a1) &&& 31)) - 1) p6.2).bind fun p13 => if p13.1 = 0 then some (0, p13.2) else some (1, p13.2))
  refine am_iload_n 1 dX10_isTile_0 rfl rfl ?_
  refine am_iconst dX10_isTile_1 am_kc_0 ?_
  refine am_aload_n 0 dX10_isTile_2 rfl rfl ?_
  refine am_getI 9 dX10_isTile_3 fl_RX10_7 h_a0 rfl ?_
  refine am_callSi [.int a1, .int 0, .int (M.1 a0 0)] (CX10_isIn G a1 0 (M.1 a0 0) M) dX10_isTile_6 mb_yX10_isIn ⟨ml_RX10_66, sm_yX10_isIn⟩ (by decide) rfl rfl (Nat.le_of_ble_eq_true rfl) (fun v5 M2 q1 w4 l3 => ?_)
  refine am_if_eq (tgt := 31) dX10_isTile_9 (by decide) (fun c7 => ?_) (fun c7 => ?_)
  · refine am_iconst dX10_isTile_31 am_kc_0 ?_
    exact am_zret0 dX10_isTile_32
  · refine am_iload_n 2 dX10_isTile_12 rfl rfl ?_
    refine am_iconst dX10_isTile_13 am_kc_0 ?_
    refine am_iconst dX10_isTile_14 am_kc_1 ?_
    refine am_iconst dX10_isTile_15 am_kc_2 ?_
    refine am_iload_n 1 dX10_isTile_16 rfl rfl ?_
    refine am_imul dX10_isTile_17 ?_
    refine am_ishl dX10_isTile_18 ?_
    refine am_iconst dX10_isTile_19 am_kc_1 ?_
    refine am_isub dX10_isTile_20 ?_
    refine am_callSi [.int a2, .int 0, .int ((1 <<< ((2 * a1) &&& 31)) - 1)] (CX10_isIn G a2 0 ((1 <<< ((2 * a1) &&& 31)) - 1) M2) dX10_isTile_21 mb_yX10_isIn ⟨ml_RX10_66, sm_yX10_isIn⟩ (by decide) rfl rfl (Nat.le_of_ble_eq_true rfl) (fun v12 M9 q8 w11 l10 => ?_)
    refine am_if_eq (tgt := 31) dX10_isTile_24 (by decide) (fun c14 => ?_) (fun c14 => ?_)
    · refine am_iconst dX10_isTile_31 am_kc_0 ?_
      exact am_zret0 dX10_isTile_32
    · refine am_iconst dX10_isTile_27 am_kc_1 ?_
      refine am_goto (tgt := 32) dX10_isTile_28 (by decide) ?_
      exact am_zret1 dX10_isTile_32
theorem CX10_isTile (G : am_G) (a0 : Nat) (a1 : Int32) (a2 : Int32) (M : am_M) (h_a0 : am_sh M a0 14) : am_C am_ei G 1 yX10_isTile cX10_isTile 3 (some FieldType.boolean) [.ref a0, .int a1, .int a2] M (fX10_isTile a0 a1 a2 M) :=
  am_meth (by decide) rfl (Nat.le_of_ble_eq_true rfl) (sX10_isTile_0 G a0 a1 a2 M h_a0)
def fX10_sizeOf (a0 : Nat) (a1 : Int32) (M : am_M) : Option (Int32 × am_M) := some (1 <<< ((2 * ((M.1 a0 0) - a1)) &&& 31), M)
set_option maxRecDepth 100000 in
set_option maxHeartbeats 4000000 in
theorem sX10_sizeOf_0 (G : am_G) (a0 : Nat) (a1 : Int32) (M : am_M) (h_a0 : am_sh M a0 14) : am_S am_ei G 0 yX10_sizeOf.cls yX10_sizeOf.name cX10_sizeOf 2 (some FieldType.int) 0 [(0, .ref a0), (1, .int a1)] [] M (fX10_sizeOf a0 a1 M) := by
  show am_S am_ei G 0 yX10_sizeOf.cls yX10_sizeOf.name cX10_sizeOf 2 (some FieldType.int) 0 [(0, .ref a0), (1, .int a1)] [] M (some (1 <<< ((2 * ((M.1 a0 0) - a1)) &&& 31), M))
  refine am_iconst dX10_sizeOf_0 am_kc_1 ?_
  refine am_iconst dX10_sizeOf_1 am_kc_2 ?_
  refine am_aload_n 0 dX10_sizeOf_2 rfl rfl ?_
  refine am_getI 9 dX10_sizeOf_3 fl_RX10_7 h_a0 rfl ?_
  refine am_iload_n 1 dX10_sizeOf_6 rfl rfl ?_
  refine am_isub dX10_sizeOf_7 ?_
  refine am_imul dX10_sizeOf_8 ?_
  refine am_ishl dX10_sizeOf_9 ?_
  exact am_iret dX10_sizeOf_10
theorem CX10_sizeOf (G : am_G) (a0 : Nat) (a1 : Int32) (M : am_M) (h_a0 : am_sh M a0 14) : am_C am_ei G 0 yX10_sizeOf cX10_sizeOf 2 (some FieldType.int) [.ref a0, .int a1] M (fX10_sizeOf a0 a1 M) :=
  am_meth (by decide) rfl (Nat.le_of_ble_eq_true rfl) (sX10_sizeOf_0 G a0 a1 M h_a0)
def fX10_sideOf (a0 : Nat) (a1 : Int32) (M : am_M) : Option (Int32 × am_M) := some (1 <<< (((M.1 a0 0) - a1) &&& 31), M)
set_option maxRecDepth 100000 in
set_option maxHeartbeats 4000000 in
theorem sX10_sideOf_0 (G : am_G) (a0 : Nat) (a1 : Int32) (M : am_M) (h_a0 : am_sh M a0 14) : am_S am_ei G 0 yX10_sideOf.cls yX10_sideOf.name cX10_sideOf 2 (some FieldType.int) 0 [(0, .ref a0), (1, .int a1)] [] M (fX10_sideOf a0 a1 M) := by
  show am_S am_ei G 0 yX10_sideOf.cls yX10_sideOf.name cX10_sideOf 2 (some FieldType.int) 0 [(0, .ref a0), (1, .int a1)] [] M (some (1 <<< (((M.1 a0 0) - a1) &&& 31), M))
  refine am_iconst dX10_sideOf_0 am_kc_1 ?_
  refine am_aload_n 0 dX10_sideOf_1 rfl rfl ?_
  refine am_getI 9 dX10_sideOf_2 fl_RX10_7 h_a0 rfl ?_
  refine am_iload_n 1 dX10_sideOf_5 rfl rfl ?_
  refine am_isub dX10_sideOf_6 ?_
  refine am_ishl dX10_sideOf_7 ?_
  exact am_iret dX10_sideOf_8
theorem CX10_sideOf (G : am_G) (a0 : Nat) (a1 : Int32) (M : am_M) (h_a0 : am_sh M a0 14) : am_C am_ei G 0 yX10_sideOf cX10_sideOf 2 (some FieldType.int) [.ref a0, .int a1] M (fX10_sideOf a0 a1 M) :=
  am_meth (by decide) rfl (Nat.le_of_ble_eq_true rfl) (sX10_sideOf_0 G a0 a1 M h_a0)
def fX10_has (a0 : Nat) (a1 : Int32) (a2 : Int32) (a3 : Int32) (M : am_M) : Option (Int32 × am_M) := (M.2.2.1 a0 5).bind fun r1 => if (6 * a1) + 1 < 0 ∨ am_len M r1 ≤ ((6 * a1) + 1).toNatClampNeg then none else if M.1 r1 (((6 * a1) + 1).toNatClampNeg) = 0 then (M.2.2.1 a0 5).bind fun r23 => if (6 * a1) + 2 < 0 ∨ am_len M r23 ≤ ((6 * a1) + 2).toNatClampNeg then none else (M.2.2.1 a0 5).bind fun r27 => if (6 * a1) + 4 < 0 ∨ am_len M r27 ≤ ((6 * a1) + 4).toNatClampNeg then none else (fX10_isIn a2 (M.1 r23 (((6 * a1) + 2).toNatClampNeg)) (M.1 r27 (((6 * a1) + 4).toNatClampNeg)) M).bind fun p36 => if p36.1 = 0 then some (0, p36.2) else (p36.2.2.2.1 a0 5).bind fun r38 => if (6 * a1) + 3 < 0 ∨ am_len p36.2 r38 ≤ ((6 * a1) + 3).toNatClampNeg then none else (p36.2.2.2.1 a0 5).bind fun r42 => if (6 * a1) + 5 < 0 ∨ am_len p36.2 r42 ≤ ((6 * a1) + 5).toNatClampNeg then none else (fX10_isIn a3 (p36.2.1 r38 (((6 * a1) + 3).toNatClampNeg)) (p36.2.1 r42 (((6 * a1) + 5).toNatClampNeg)) p36.2).bind fun p51 => if p51.1 = 0 then some (0, p51.2) else some (1, p51.2) else (M.2.2.1 a0 5).bind fun r6 => if (6 * a1) + 2 < 0 ∨ am_len M r6 ≤ ((6 * a1) + 2).toNatClampNeg then none else (M.2.2.1 a0 5).bind fun r10 => if (6 * a1) + 3 < 0 ∨ am_len M r10 ≤ ((6 * a1) + 3).toNatClampNeg then none else (M.2.2.1 a0 5).bind fun r14 => if (6 * a1) + 4 < 0 ∨ am_len M r14 ≤ ((6 * a1) + 4).toNatClampNeg then none else (M.2.2.1 a0 5).bind fun r18 => if (6 * a1) + 4 < 0 ∨ am_len M r18 ≤ ((6 * a1) + 4).toNatClampNeg then none else if (M.1 r14 (((6 * a1) + 4).toNatClampNeg)) * (M.1 r18 (((6 * a1) + 4).toNatClampNeg)) < ((a2 - (M.1 r6 (((6 * a1) + 2).toNatClampNeg))) * (a2 - (M.1 r6 (((6 * a1) + 2).toNatClampNeg)))) + ((a3 - (M.1 r10 (((6 * a1) + 3).toNatClampNeg))) * (a3 - (M.1 r10 (((6 * a1) + 3).toNatClampNeg)))) then some (0, M) else some (1, M)
set_option maxRecDepth 100000 in
set_option maxHeartbeats 4000000 in
theorem sX10_has_0 (G : am_G) (a0 : Nat) (a1 : Int32) (a2 : Int32) (a3 : Int32) (M : am_M) (h_a0 : am_sh M a0 14) : am_S am_ei G 1 yX10_has.cls yX10_has.name cX10_has 7 (some FieldType.boolean) 0 [(0, .ref a0), (1, .int a1), (2, .int a2), (3, .int a3)] [] M (fX10_has a0 a1 a2 a3 M) := by
  show am_S am_ei G 1 yX10_has.cls yX10_has.name cX10_has 7 (some FieldType.boolean) 0 [(0, .ref a0), (1, .int a1), (2, .int a2), (3, .int a3)] [] M ((M.2.2.1 a0 5).bind fun r1 => if (6 * a1) + 1 < 0 ∨ am_len M r1 ≤ ((6 * a1) + 1).toNatClampNeg then none else if M.1 r1 (((6 * a1) + 1).toNatClampNeg) = 0 then (M.2.2.1 a0 5).bind fun r23 => if (6 * a1) + 2 < 0 ∨ am_len M r23 ≤ ((6 * a1) + 2).toNatClampNeg then none else (M.2.2.1 a0 5).bind fun r27 => if (6 * a1) + 4 < 0 ∨ am_len M r27 ≤ ((6 * a1) + 4).toNatClampNeg then none else (fX10_isIn a2 (M.1 r23 (((6 * a1) + 2).toNatClampNeg)) (M.1 r27 (((6 * a1) + 4).toNatClampNeg)) M).bind fun p36 => if p36.1 = 0 then some (0, p36.2) else (p36.2.2.2.1 a0 5).bind fun r38 => if (6 * a1) + 3 < 0 ∨ am_len p36.2 r38 ≤ ((6 * a1) + 3).toNatClampNeg then none else (p36.2.2.2.1 a0 5).bind fun r42 => if (6 * a1) + 5 < 0 ∨ am_len p36.2 r42 ≤ ((6 * a1) + 5).toNatClampNeg then none else (fX10_isIn a3 (p36.2.1 r38 (((6 * a1) + 3).toNatClampNeg)) (p36.2.1 r42 (((6 * a1) + 5).toNatClampNeg)) p36.2).bind fun p51 => if p51.1 = 0 then some (0, p51.2) else some (1, p51.2) else (M.2.2.1 a0 5).bind fun r6 => if (6 * a1) + 2 < 0 ∨ am_len M r6 ≤ ((6 * a1) + 2).toNatClampNeg then none else (M.2.2.1 a0 5).bind fun r10 => if (6 * a1) + 3 < 0 ∨ am_len M r10 ≤ ((6 * a1) + 3).toNatClampNeg then none else (M.2.2.1 a0 5).bind fun r14 => if (6 * a1) + 4 < 0 ∨ am_len M r14 ≤ ((6 * a1) + 4).toNatClampNeg then none else (M.2.2.1 a0 5).bind fun r18 => if (6 * a1) + 4 < 0 ∨ am_len M r18 ≤ ((6 * a1) + 4).toNatClampNeg then none else if (M.1 r14 (((6 * a1) + 4).toNatClampNeg)) * (M.1 r18 (((6 * a1) + 4).toNatClampNeg)) < ((a2 - (M.1 r6 (((6 * a1) + 2).toNatClampNeg))) * (a2 - (M.1 r6 (((6 * a1) + 2).toNatClampNeg)))) + ((a3 - (M.1 r10 (((6 * a1) + 3).toNatClampNeg))) * (a3 - (M.1 r10 (((6 * a1) + 3).toNatClampNeg)))) then some (0, M) else some (1, M))
  refine am_bipush (x := 6) dX10_has_0 (by decide) ?_
  refine am_iload_n 1 dX10_has_2 rfl rfl ?_
  refine am_imul dX10_has_3 ?_
  refine am_istore (L' := [(4, .int (6 * a1)), (0, .ref a0), (1, .int a1), (2, .int a2), (3, .int a3)]) dX10_has_4 (by decide) rfl ?_
  refine am_aload_n 1 dX10_has_6 rfl rfl ?_
  refine am_getR 9 dX10_has_7 fl_RX10_22 h_a0 rfl (fun r1 e2 h3 => ?_)
  refine am_iload 0 dX10_has_10 rfl ?_
  refine am_iconst dX10_has_12 am_kc_1 ?_
  refine am_iadd dX10_has_13 ?_
  refine am_iald dX10_has_14 h3 (fun b4 => ?_)
  refine am_if_ne (tgt := 74) dX10_has_15 (by decide) (fun c5 => ?_) (fun c5 => ?_)
  · refine am_iload_n 3 dX10_has_74 rfl rfl ?_
    refine am_aload_n 1 dX10_has_75 rfl rfl ?_
    refine am_getR 9 dX10_has_76 fl_RX10_22 h_a0 rfl (fun r6 e7 h8 => ?_)
    refine am_iload 0 dX10_has_79 rfl ?_
    refine am_iconst dX10_has_81 am_kc_2 ?_
    refine am_iadd dX10_has_82 ?_
    refine am_iald dX10_has_83 h8 (fun b9 => ?_)
    refine am_isub dX10_has_84 ?_
    refine am_istore (L' := [(5, .int (a2 - (M.1 r6 (((6 * a1) + 2).toNatClampNeg)))), (4, .int (6 * a1)), (0, .ref a0), (1, .int a1), (2, .int a2), (3, .int a3)]) dX10_has_85 (by decide) rfl ?_
    refine am_iload_n 5 dX10_has_87 rfl rfl ?_
    refine am_aload_n 2 dX10_has_88 rfl rfl ?_
    refine am_getR 9 dX10_has_89 fl_RX10_22 h_a0 rfl (fun r10 e11 h12 => ?_)
    refine am_iload 1 dX10_has_92 rfl ?_
    refine am_iconst dX10_has_94 am_kc_3 ?_
    refine am_iadd dX10_has_95 ?_
    refine am_iald dX10_has_96 h12 (fun b13 => ?_)
    refine am_isub dX10_has_97 ?_
    refine am_istore (L' := [(6, .int (a3 - (M.1 r10 (((6 * a1) + 3).toNatClampNeg)))), (5, .int (a2 - (M.1 r6 (((6 * a1) + 2).toNatClampNeg)))), (4, .int (6 * a1)), (0, .ref a0), (1, .int a1), (2, .int a2), (3, .int a3)]) dX10_has_98 (by decide) rfl ?_
    refine am_iload 1 dX10_has_100 rfl ?_
    refine am_iload 1 dX10_has_102 rfl ?_
    refine am_imul dX10_has_104 ?_
    refine am_iload 0 dX10_has_105 rfl ?_
    refine am_iload 0 dX10_has_107 rfl ?_
    refine am_imul dX10_has_109 ?_
    refine am_iadd dX10_has_110 ?_
    refine am_aload_n 3 dX10_has_111 rfl rfl ?_
    refine am_getR 9 dX10_has_112 fl_RX10_22 h_a0 rfl (fun r14 e15 h16 => ?_)
    refine am_iload 2 dX10_has_115 rfl ?_
    refine am_iconst dX10_has_117 am_kc_4 ?_
    refine am_iadd dX10_has_118 ?_
    refine am_iald dX10_has_119 h16 (fun b17 => ?_)
    refine am_aload_n 3 dX10_has_120 rfl rfl ?_
    refine am_getR 9 dX10_has_121 fl_RX10_22 h_a0 rfl (fun r18 e19 h20 => ?_)
    refine am_iload 2 dX10_has_124 rfl ?_
    refine am_iconst dX10_has_126 am_kc_4 ?_
    refine am_iadd dX10_has_127 ?_
    refine am_iald dX10_has_128 h20 (fun b21 => ?_)
    refine am_imul dX10_has_129 ?_
    refine am_icmp_gt (tgt := 137) dX10_has_130 (by decide) (fun c22 => ?_) (fun c22 => ?_)
    · refine am_iconst dX10_has_137 am_kc_0 ?_
      exact am_zret0 dX10_has_138
    · refine am_iconst dX10_has_133 am_kc_1 ?_
      refine am_goto (tgt := 138) dX10_has_134 (by decide) ?_
      exact am_zret1 dX10_has_138
  · refine am_iload_n 3 dX10_has_18 rfl rfl ?_
    refine am_aload_n 1 dX10_has_19 rfl rfl ?_
    refine am_getR 9 dX10_has_20 fl_RX10_22 h_a0 rfl (fun r23 e24 h25 => ?_)
    refine am_iload 0 dX10_has_23 rfl ?_
    refine am_iconst dX10_has_25 am_kc_2 ?_
    refine am_iadd dX10_has_26 ?_
    refine am_iald dX10_has_27 h25 (fun b26 => ?_)
    refine am_aload_n 1 dX10_has_28 rfl rfl ?_
    refine am_getR 9 dX10_has_29 fl_RX10_22 h_a0 rfl (fun r27 e28 h29 => ?_)
    refine am_iload 0 dX10_has_32 rfl ?_
    refine am_iconst dX10_has_34 am_kc_4 ?_
    refine am_iadd dX10_has_35 ?_
    refine am_iald dX10_has_36 h29 (fun b30 => ?_)
    refine am_callSi [.int a2, .int (M.1 r23 (((6 * a1) + 2).toNatClampNeg)), .int (M.1 r27 (((6 * a1) + 4).toNatClampNeg))] (CX10_isIn G a2 (M.1 r23 (((6 * a1) + 2).toNatClampNeg)) (M.1 r27 (((6 * a1) + 4).toNatClampNeg)) M) dX10_has_37 mb_yX10_isIn ⟨ml_RX10_66, sm_yX10_isIn⟩ (by decide) rfl rfl (Nat.le_of_ble_eq_true rfl) (fun v35 M32 q31 w34 l33 => ?_)
    refine am_if_eq (tgt := 72) dX10_has_40 (by decide) (fun c37 => ?_) (fun c37 => ?_)
    · refine am_iconst dX10_has_72 am_kc_0 ?_
      exact am_zret0 dX10_has_73
    · refine am_iload_n 4 dX10_has_43 rfl rfl ?_
      refine am_aload_n 1 dX10_has_44 rfl rfl ?_
      refine am_getR 9 dX10_has_45 fl_RX10_22 (am_sh.mono l33 h_a0) rfl (fun r38 e39 h40 => ?_)
      refine am_iload 0 dX10_has_48 rfl ?_
      refine am_iconst dX10_has_50 am_kc_3 ?_
      refine am_iadd dX10_has_51 ?_
      refine am_iald dX10_has_52 h40 (fun b41 => ?_)
      refine am_aload_n 1 dX10_has_53 rfl rfl ?_
      refine am_getR 9 dX10_has_54 fl_RX10_22 (am_sh.mono l33 h_a0) rfl (fun r42 e43 h44 => ?_)
      refine am_iload 0 dX10_has_57 rfl ?_
      refine am_iconst dX10_has_59 am_kc_5 ?_
      refine am_iadd dX10_has_60 ?_
      refine am_iald dX10_has_61 h44 (fun b45 => ?_)
      refine am_callSi [.int a3, .int (M32.1 r38 (((6 * a1) + 3).toNatClampNeg)), .int (M32.1 r42 (((6 * a1) + 5).toNatClampNeg))] (CX10_isIn G a3 (M32.1 r38 (((6 * a1) + 3).toNatClampNeg)) (M32.1 r42 (((6 * a1) + 5).toNatClampNeg)) M32) dX10_has_62 mb_yX10_isIn ⟨ml_RX10_66, sm_yX10_isIn⟩ (by decide) rfl rfl (Nat.le_of_ble_eq_true rfl) (fun v50 M47 q46 w49 l48 => ?_)
      refine am_if_eq (tgt := 72) dX10_has_65 (by decide) (fun c52 => ?_) (fun c52 => ?_)
      · refine am_iconst dX10_has_72 am_kc_0 ?_
        exact am_zret0 dX10_has_73
      · refine am_iconst dX10_has_68 am_kc_1 ?_
        refine am_goto (tgt := 73) dX10_has_69 (by decide) ?_
        exact am_zret1 dX10_has_73
theorem CX10_has (G : am_G) (a0 : Nat) (a1 : Int32) (a2 : Int32) (a3 : Int32) (M : am_M) (h_a0 : am_sh M a0 14) : am_C am_ei G 1 yX10_has cX10_has 7 (some FieldType.boolean) [.ref a0, .int a1, .int a2, .int a3] M (fX10_has a0 a1 a2 a3 M) :=
  am_meth (by decide) rfl (Nat.le_of_ble_eq_true rfl) (sX10_has_0 G a0 a1 a2 a3 M h_a0)
def fX10_isShape_7 : ((Nat × Int32 × Int32 × Int32 × am_M) → Option (Int32 × am_M)) → (Nat × Int32 × Int32 × Int32 × am_M) → Option (Int32 × am_M) := fun k7 q0 => match q0 with
  | (x0, x1, x2, x3, M) => if x3 < 0 then some (0, M) else (fX10_has x0 x3 x1 x2 M).bind fun p7 => if p7.1 = 0 then k7 (x0, x1, x2, x3 + (-1), p7.2) else (p7.2.2.2.1 x0 5).bind fun r9 => if 6 * x3 < 0 ∨ am_len p7.2 r9 ≤ (6 * x3).toNatClampNeg then none else if p7.2.1 r9 ((6 * x3).toNatClampNeg) = 1 then some (1, p7.2) else some (0, p7.2)
def fX10_isShape (a0 : Nat) (a1 : Int32) (a2 : Int32) (M : am_M) : Option (Int32 × am_M) := am_loop (fX10_isShape_7) 100000 (a0, a1, a2, (M.1 a0 4) - 1, M)
set_option maxRecDepth 100000 in
set_option maxHeartbeats 4000000 in
theorem sX10_isShape_7 (G : am_G) (k7 : (Nat × Int32 × Int32 × Int32 × am_M) → Option (Int32 × am_M)) (hk7 : ∀ q : (Nat × Int32 × Int32 × Int32 × am_M), (match q with | (x0, x1, x2, x3, M) => am_sh M x0 14) → match q with | (x0, x1, x2, x3, M) => am_S am_ei G 2 yX10_isShape.cls yX10_isShape.name cX10_isShape 4 (some FieldType.boolean) 7 [(0, .ref x0), (1, .int x1), (2, .int x2), (3, .int x3)] [] M (k7 (x0, x1, x2, x3, M))) (x0 : Nat) (x1 : Int32) (x2 : Int32) (x3 : Int32) (M : am_M) (h_x0 : am_sh M x0 14) : am_S am_ei G 2 yX10_isShape.cls yX10_isShape.name cX10_isShape 4 (some FieldType.boolean) 7 [(0, .ref x0), (1, .int x1), (2, .int x2), (3, .int x3)] [] M (fX10_isShape_7 k7 (x0, x1, x2, x3, M)) := by
  show am_S am_ei G 2 yX10_isShape.cls yX10_isShape.name cX10_isShape 4 (some FieldType.boolean) 7 [(0, .ref x0), (1, .int x1), (2, .int x2), (3, .int x3)] [] M (if x3 < 0 then some (0, M) else (fX10_has x0 x3 x1 x2 M).bind fun p7 => if p7.1 = 0 then k7 (x0, x1, x2, x3 + (-1), p7.2) else (p7.2.2.2.1 x0 5).bind fun r9 => if 6 * x3 < 0 ∨ am_len p7.2 r9 ≤ (6 * x3).toNatClampNeg then none else if p7.2.1 r9 ((6 * x3).toNatClampNeg) = 1 then some (1, p7.2) else some (0, p7.2))
  refine am_iload_n 3 dX10_isShape_7 rfl rfl ?_
  refine am_if_lt (tgt := 46) dX10_isShape_8 (by decide) (fun c1 => ?_) (fun c1 => ?_)
  · refine am_iconst dX10_isShape_46 am_kc_0 ?_
    exact am_zret0 dX10_isShape_47
  · refine am_aload_n 0 dX10_isShape_11 rfl rfl ?_
    refine am_iload_n 3 dX10_isShape_12 rfl rfl ?_
    refine am_iload_n 1 dX10_isShape_13 rfl rfl ?_
    refine am_iload_n 2 dX10_isShape_14 rfl rfl ?_
    refine am_callVi 9 [.int x3, .int x1, .int x2] (CX10_has G x0 x3 x1 x2 M h_x0) dX10_isShape_15 mb_yX10_has ⟨ml_RX10_164, im_yX10_has, se_yX10_has⟩ rfl h_x0 (by decide) rfl rfl (Nat.le_of_ble_eq_true rfl) (fun v6 M3 q2 w5 l4 => ?_)
    refine am_if_eq (tgt := 40) dX10_isShape_18 (by decide) (fun c8 => ?_) (fun c8 => ?_)
    · refine am_iinc (L' := [(3, .int (x3 + (-1))), (0, .ref x0), (1, .int x1), (2, .int x2)]) 3 dX10_isShape_40 rfl (by rfl) (by decide) rfl ?_
      refine am_goto (tgt := 7) dX10_isShape_43 (by decide) ?_
      refine am_sub [1, 2, 3, 0] rfl ?_
      exact hk7 (x0, x1, x2, x3 + (-1), M3) (am_sh.mono l4 h_x0)
    · refine am_aload_n 0 dX10_isShape_21 rfl rfl ?_
      refine am_getR 9 dX10_isShape_22 fl_RX10_22 (am_sh.mono l4 h_x0) rfl (fun r9 e10 h11 => ?_)
      refine am_bipush (x := 6) dX10_isShape_25 (by decide) ?_
      refine am_iload_n 3 dX10_isShape_27 rfl rfl ?_
      refine am_imul dX10_isShape_28 ?_
      refine am_iald dX10_isShape_29 h11 (fun b12 => ?_)
      refine am_iconst dX10_isShape_30 am_kc_1 ?_
      refine am_icmp_ne (tgt := 38) dX10_isShape_31 (by decide) (fun c13 => ?_) (fun c13 => ?_)
      · refine am_iconst dX10_isShape_38 am_kc_0 ?_
        exact am_zret0 dX10_isShape_39
      · refine am_iconst dX10_isShape_34 am_kc_1 ?_
        refine am_goto (tgt := 39) dX10_isShape_35 (by decide) ?_
        exact am_zret1 dX10_isShape_39
set_option maxRecDepth 100000 in
set_option maxHeartbeats 4000000 in
theorem lX10_isShape_7 (G : am_G) (n : Nat) (q : (Nat × Int32 × Int32 × Int32 × am_M)) (hq : match q with | (x0, x1, x2, x3, M) => am_sh M x0 14) : match q with | (x0, x1, x2, x3, M) => am_S am_ei G 2 yX10_isShape.cls yX10_isShape.name cX10_isShape 4 (some FieldType.boolean) 7 [(0, .ref x0), (1, .int x1), (2, .int x2), (3, .int x3)] [] M (am_loop (fX10_isShape_7) n (x0, x1, x2, x3, M)) := by
  exact am_loop_ok (fun q : (Nat × Int32 × Int32 × Int32 × am_M) => match q with | (x0, x1, x2, x3, M) => am_sh M x0 14) (fun q X => match q with | (x0, x1, x2, x3, M) => am_S am_ei G 2 yX10_isShape.cls yX10_isShape.name cX10_isShape 4 (some FieldType.boolean) 7 [(0, .ref x0), (1, .int x1), (2, .int x2), (3, .int x3)] [] M X) (fun _ => am_none) (fun k7 hk7 q hq => match q, hq with | (x0, x1, x2, x3, M), h_x0 => sX10_isShape_7 G k7 hk7 x0 x1 x2 x3 M h_x0) n q hq
set_option maxRecDepth 100000 in
set_option maxHeartbeats 4000000 in
theorem sX10_isShape_0 (G : am_G) (a0 : Nat) (a1 : Int32) (a2 : Int32) (M : am_M) (h_a0 : am_sh M a0 14) : am_S am_ei G 2 yX10_isShape.cls yX10_isShape.name cX10_isShape 4 (some FieldType.boolean) 0 [(0, .ref a0), (1, .int a1), (2, .int a2)] [] M (fX10_isShape a0 a1 a2 M) := by
  show am_S am_ei G 2 yX10_isShape.cls yX10_isShape.name cX10_isShape 4 (some FieldType.boolean) 0 [(0, .ref a0), (1, .int a1), (2, .int a2)] [] M (am_loop (fX10_isShape_7) 100000 (a0, a1, a2, (M.1 a0 4) - 1, M))
  refine am_aload_n 0 dX10_isShape_0 rfl rfl ?_
  refine am_getI 9 dX10_isShape_1 fl_RX10_19 h_a0 rfl ?_
  refine am_iconst dX10_isShape_4 am_kc_1 ?_
  refine am_isub dX10_isShape_5 ?_
  refine am_istore_n (L' := [(3, .int ((M.1 a0 4) - 1)), (0, .ref a0), (1, .int a1), (2, .int a2)]) dX10_isShape_6 rfl (by decide) rfl ?_
  refine am_sub [1, 2, 3, 0] rfl ?_
  exact lX10_isShape_7 G 100000 (a0, a1, a2, (M.1 a0 4) - 1, M) h_a0
theorem CX10_isShape (G : am_G) (a0 : Nat) (a1 : Int32) (a2 : Int32) (M : am_M) (h_a0 : am_sh M a0 14) : am_C am_ei G 2 yX10_isShape cX10_isShape 4 (some FieldType.boolean) [.ref a0, .int a1, .int a2] M (fX10_isShape a0 a1 a2 M) :=
  am_meth (by decide) rfl (Nat.le_of_ble_eq_true rfl) (sX10_isShape_0 G a0 a1 a2 M h_a0)
def fX10_setShape_44 (k2 : (Nat × Int32 × am_M) → Option am_M) (k12 : (Nat × Int32 × Int32 × am_M) → Option am_M) (x0 : Nat) (x1 : Int32) (x2 : Int32) (s0 : Int32) (s1 : Int32) (s2 : Nat) (M : am_M) : Option am_M := if s1 < 0 ∨ am_len M s2 ≤ s1.toNatClampNeg then none else k12 (x0, x1, x2 + 1, am_pI M s2 s1.toNatClampNeg s0)
def fX10_setShape_12 (k2 : (Nat × Int32 × am_M) → Option am_M) : ((Nat × Int32 × Int32 × am_M) → Option am_M) → (Nat × Int32 × Int32 × am_M) → Option am_M := fun k12 q0 => match q0 with
  | (x0, x1, x2, M) => (fX10_side x0 M).bind fun p13 => if p13.1 ≤ x2 then k2 (x0, x1 + 1, p13.2) else (p13.2.2.2.1 x0 21).bind fun r15 => (fX10_keyOf x0 x1 x2 p13.2).bind fun p23 => (fX10_isShape x0 x1 x2 p23.2).bind fun p29 => if p29.1 = 0 then fX10_setShape_44 k2 k12 x0 x1 x2 0 p23.1 r15 p29.2 else fX10_setShape_44 k2 k12 x0 x1 x2 1 p23.1 r15 p29.2
def fX10_setShape_2 : ((Nat × Int32 × am_M) → Option am_M) → (Nat × Int32 × am_M) → Option am_M := fun k2 q0 => match q0 with
  | (x0, x1, M) => (fX10_side x0 M).bind fun p6 => if p6.1 ≤ x1 then some p6.2 else am_loop (fX10_setShape_12 k2) 100000 (x0, x1, 0, p6.2)
def fX10_setShape (a0 : Nat) (M : am_M) : Option am_M := am_loop (fX10_setShape_2) 100000 (a0, 0, M)
set_option maxRecDepth 100000 in
set_option maxHeartbeats 4000000 in
theorem sX10_setShape_44 (G : am_G) (k2 : (Nat × Int32 × am_M) → Option am_M) (hk2 : ∀ q : (Nat × Int32 × am_M), (match q with | (x0, x1, M) => am_sh M x0 14) → match q with | (x0, x1, M) => am_S am_ev G 3 yX10_setShape.cls yX10_setShape.name cX10_setShape 3 none 2 [(0, .ref x0), (1, .int x1)] [] M (k2 (x0, x1, M))) (k12 : (Nat × Int32 × Int32 × am_M) → Option am_M) (hk12 : ∀ q : (Nat × Int32 × Int32 × am_M), (match q with | (x0, x1, x2, M) => am_sh M x0 14) → match q with | (x0, x1, x2, M) => am_S am_ev G 3 yX10_setShape.cls yX10_setShape.name cX10_setShape 3 none 12 [(0, .ref x0), (1, .int x1), (2, .int x2)] [] M (k12 (x0, x1, x2, M))) (x0 : Nat) (x1 : Int32) (x2 : Int32) (s0 : Int32) (s1 : Int32) (s2 : Nat) (M : am_M) (h_x0 : am_sh M x0 14) (h_s2 : am_sh M s2 0) : am_S am_ev G 3 yX10_setShape.cls yX10_setShape.name cX10_setShape 3 none 44 [(0, .ref x0), (1, .int x1), (2, .int x2)] [.int s0, .int s1, .ref s2] M (fX10_setShape_44 k2 k12 x0 x1 x2 s0 s1 s2 M) := by
  show am_S am_ev G 3 yX10_setShape.cls yX10_setShape.name cX10_setShape 3 none 44 [(0, .ref x0), (1, .int x1), (2, .int x2)] [.int s0, .int s1, .ref s2] M (if s1 < 0 ∨ am_len M s2 ≤ s1.toNatClampNeg then none else k12 (x0, x1, x2 + 1, am_pI M s2 s1.toNatClampNeg s0))
  refine am_iast dX10_setShape_44 h_s2 (fun b31 => ?_)
  refine am_iinc (L' := [(2, .int (x2 + 1)), (0, .ref x0), (1, .int x1)]) 2 dX10_setShape_45 rfl (by rfl) (by decide) rfl ?_
  refine am_goto (tgt := 12) dX10_setShape_48 (by decide) ?_
  refine am_sub [1, 2, 0] rfl ?_
  exact hk12 (x0, x1, x2 + 1, am_pI M s2 s1.toNatClampNeg s0) (am_sh.of h_x0 rfl)
set_option maxRecDepth 100000 in
set_option maxHeartbeats 4000000 in
theorem sX10_setShape_12 (G : am_G) (k2 : (Nat × Int32 × am_M) → Option am_M) (hk2 : ∀ q : (Nat × Int32 × am_M), (match q with | (x0, x1, M) => am_sh M x0 14) → match q with | (x0, x1, M) => am_S am_ev G 3 yX10_setShape.cls yX10_setShape.name cX10_setShape 3 none 2 [(0, .ref x0), (1, .int x1)] [] M (k2 (x0, x1, M))) (k12 : (Nat × Int32 × Int32 × am_M) → Option am_M) (hk12 : ∀ q : (Nat × Int32 × Int32 × am_M), (match q with | (x0, x1, x2, M) => am_sh M x0 14) → match q with | (x0, x1, x2, M) => am_S am_ev G 3 yX10_setShape.cls yX10_setShape.name cX10_setShape 3 none 12 [(0, .ref x0), (1, .int x1), (2, .int x2)] [] M (k12 (x0, x1, x2, M))) (x0 : Nat) (x1 : Int32) (x2 : Int32) (M : am_M) (h_x0 : am_sh M x0 14) : am_S am_ev G 3 yX10_setShape.cls yX10_setShape.name cX10_setShape 3 none 12 [(0, .ref x0), (1, .int x1), (2, .int x2)] [] M (fX10_setShape_12 k2 k12 (x0, x1, x2, M)) := by
  show am_S am_ev G 3 yX10_setShape.cls yX10_setShape.name cX10_setShape 3 none 12 [(0, .ref x0), (1, .int x1), (2, .int x2)] [] M ((fX10_side x0 M).bind fun p13 => if p13.1 ≤ x2 then k2 (x0, x1 + 1, p13.2) else (p13.2.2.2.1 x0 21).bind fun r15 => (fX10_keyOf x0 x1 x2 p13.2).bind fun p23 => (fX10_isShape x0 x1 x2 p23.2).bind fun p29 => if p29.1 = 0 then fX10_setShape_44 k2 k12 x0 x1 x2 0 p23.1 r15 p29.2 else fX10_setShape_44 k2 k12 x0 x1 x2 1 p23.1 r15 p29.2)
  refine am_iload_n 2 dX10_setShape_12 rfl rfl ?_
  refine am_aload_n 0 dX10_setShape_13 rfl rfl ?_
  refine am_callVi 9 [] (CX10_side G x0 M h_x0) dX10_setShape_14 mb_yX10_side ⟨ml_RX10_62, im_yX10_side, se_yX10_side⟩ rfl h_x0 (by decide) rfl rfl (Nat.le_of_ble_eq_true rfl) (fun v12 M9 q8 w11 l10 => ?_)
  refine am_icmp_ge (tgt := 51) dX10_setShape_17 (by decide) (fun c14 => ?_) (fun c14 => ?_)
  · refine am_iinc (L' := [(1, .int (x1 + 1)), (0, .ref x0), (2, .int x2)]) 1 dX10_setShape_51 rfl (by rfl) (by decide) rfl ?_
    refine am_goto (tgt := 2) dX10_setShape_54 (by decide) ?_
    refine am_sub [1, 0] rfl ?_
    exact hk2 (x0, x1 + 1, M9) (am_sh.mono l10 h_x0)
  · refine am_aload_n 0 dX10_setShape_20 rfl rfl ?_
    refine am_getR 9 dX10_setShape_21 fl_RX10_44 (am_sh.mono l10 h_x0) rfl (fun r15 e16 h17 => ?_)
    refine am_aload_n 0 dX10_setShape_24 rfl rfl ?_
    refine am_iload_n 1 dX10_setShape_25 rfl rfl ?_
    refine am_iload_n 2 dX10_setShape_26 rfl rfl ?_
    refine am_callVi 9 [.int x1, .int x2] (CX10_keyOf G x0 x1 x2 M9 (am_sh.mono l10 h_x0)) dX10_setShape_27 mb_yX10_keyOf ⟨ml_RX10_153, im_yX10_keyOf, se_yX10_keyOf⟩ rfl (am_sh.mono l10 h_x0) (by decide) rfl rfl (Nat.le_of_ble_eq_true rfl) (fun v22 M19 q18 w21 l20 => ?_)
    refine am_aload_n 0 dX10_setShape_30 rfl rfl ?_
    refine am_iload_n 1 dX10_setShape_31 rfl rfl ?_
    refine am_iload_n 2 dX10_setShape_32 rfl rfl ?_
    refine am_callVi 9 [.int x1, .int x2] (CX10_isShape G x0 x1 x2 M19 (am_sh.mono l20 (am_sh.mono l10 h_x0))) dX10_setShape_33 mb_yX10_isShape ⟨ml_RX10_167, im_yX10_isShape, se_yX10_isShape⟩ rfl (am_sh.mono l20 (am_sh.mono l10 h_x0)) (by decide) rfl rfl (Nat.le_of_ble_eq_true rfl) (fun v28 M25 q24 w27 l26 => ?_)
    refine am_if_eq (tgt := 43) dX10_setShape_36 (by decide) (fun c30 => ?_) (fun c30 => ?_)
    · refine am_iconst dX10_setShape_43 am_kc_0 ?_
      exact sX10_setShape_44 G k2 hk2 k12 hk12 x0 x1 x2 0 v22 r15 M25 (am_sh.mono l26 (am_sh.mono l20 (am_sh.mono l10 h_x0))) (am_sh.mono l26 (am_sh.mono l20 h17))
    · refine am_iconst dX10_setShape_39 am_kc_1 ?_
      refine am_goto (tgt := 44) dX10_setShape_40 (by decide) ?_
      exact sX10_setShape_44 G k2 hk2 k12 hk12 x0 x1 x2 1 v22 r15 M25 (am_sh.mono l26 (am_sh.mono l20 (am_sh.mono l10 h_x0))) (am_sh.mono l26 (am_sh.mono l20 h17))
set_option maxRecDepth 100000 in
set_option maxHeartbeats 4000000 in
theorem lX10_setShape_12 (G : am_G) (k2 : (Nat × Int32 × am_M) → Option am_M) (hk2 : ∀ q : (Nat × Int32 × am_M), (match q with | (x0, x1, M) => am_sh M x0 14) → match q with | (x0, x1, M) => am_S am_ev G 3 yX10_setShape.cls yX10_setShape.name cX10_setShape 3 none 2 [(0, .ref x0), (1, .int x1)] [] M (k2 (x0, x1, M))) (n : Nat) (q : (Nat × Int32 × Int32 × am_M)) (hq : match q with | (x0, x1, x2, M) => am_sh M x0 14) : match q with | (x0, x1, x2, M) => am_S am_ev G 3 yX10_setShape.cls yX10_setShape.name cX10_setShape 3 none 12 [(0, .ref x0), (1, .int x1), (2, .int x2)] [] M (am_loop (fX10_setShape_12 k2) n (x0, x1, x2, M)) := by
  exact am_loop_ok (fun q : (Nat × Int32 × Int32 × am_M) => match q with | (x0, x1, x2, M) => am_sh M x0 14) (fun q X => match q with | (x0, x1, x2, M) => am_S am_ev G 3 yX10_setShape.cls yX10_setShape.name cX10_setShape 3 none 12 [(0, .ref x0), (1, .int x1), (2, .int x2)] [] M X) (fun _ => am_none) (fun k12 hk12 q hq => match q, hq with | (x0, x1, x2, M), h_x0 => sX10_setShape_12 G k2 hk2 k12 hk12 x0 x1 x2 M h_x0) n q hq
set_option maxRecDepth 100000 in
set_option maxHeartbeats 4000000 in
theorem sX10_setShape_2 (G : am_G) (k2 : (Nat × Int32 × am_M) → Option am_M) (hk2 : ∀ q : (Nat × Int32 × am_M), (match q with | (x0, x1, M) => am_sh M x0 14) → match q with | (x0, x1, M) => am_S am_ev G 3 yX10_setShape.cls yX10_setShape.name cX10_setShape 3 none 2 [(0, .ref x0), (1, .int x1)] [] M (k2 (x0, x1, M))) (x0 : Nat) (x1 : Int32) (M : am_M) (h_x0 : am_sh M x0 14) : am_S am_ev G 3 yX10_setShape.cls yX10_setShape.name cX10_setShape 3 none 2 [(0, .ref x0), (1, .int x1)] [] M (fX10_setShape_2 k2 (x0, x1, M)) := by
  show am_S am_ev G 3 yX10_setShape.cls yX10_setShape.name cX10_setShape 3 none 2 [(0, .ref x0), (1, .int x1)] [] M ((fX10_side x0 M).bind fun p6 => if p6.1 ≤ x1 then some p6.2 else am_loop (fX10_setShape_12 k2) 100000 (x0, x1, 0, p6.2))
  refine am_iload_n 1 dX10_setShape_2 rfl rfl ?_
  refine am_aload_n 0 dX10_setShape_3 rfl rfl ?_
  refine am_callVi 9 [] (CX10_side G x0 M h_x0) dX10_setShape_4 mb_yX10_side ⟨ml_RX10_62, im_yX10_side, se_yX10_side⟩ rfl h_x0 (by decide) rfl rfl (Nat.le_of_ble_eq_true rfl) (fun v5 M2 q1 w4 l3 => ?_)
  refine am_icmp_ge (tgt := 57) dX10_setShape_7 (by decide) (fun c7 => ?_) (fun c7 => ?_)
  · exact am_vret dX10_setShape_57
  · refine am_iconst dX10_setShape_10 am_kc_0 ?_
    refine am_istore_n (L' := [(2, .int 0), (0, .ref x0), (1, .int x1)]) dX10_setShape_11 rfl (by decide) rfl ?_
    refine am_sub [1, 2, 0] rfl ?_
    exact lX10_setShape_12 G k2 hk2 100000 (x0, x1, 0, M2) (am_sh.mono l3 h_x0)
set_option maxRecDepth 100000 in
set_option maxHeartbeats 4000000 in
theorem lX10_setShape_2 (G : am_G) (n : Nat) (q : (Nat × Int32 × am_M)) (hq : match q with | (x0, x1, M) => am_sh M x0 14) : match q with | (x0, x1, M) => am_S am_ev G 3 yX10_setShape.cls yX10_setShape.name cX10_setShape 3 none 2 [(0, .ref x0), (1, .int x1)] [] M (am_loop (fX10_setShape_2) n (x0, x1, M)) := by
  exact am_loop_ok (fun q : (Nat × Int32 × am_M) => match q with | (x0, x1, M) => am_sh M x0 14) (fun q X => match q with | (x0, x1, M) => am_S am_ev G 3 yX10_setShape.cls yX10_setShape.name cX10_setShape 3 none 2 [(0, .ref x0), (1, .int x1)] [] M X) (fun _ => am_none) (fun k2 hk2 q hq => match q, hq with | (x0, x1, M), h_x0 => sX10_setShape_2 G k2 hk2 x0 x1 M h_x0) n q hq
set_option maxRecDepth 100000 in
set_option maxHeartbeats 4000000 in
theorem sX10_setShape_0 (G : am_G) (a0 : Nat) (M : am_M) (h_a0 : am_sh M a0 14) : am_S am_ev G 3 yX10_setShape.cls yX10_setShape.name cX10_setShape 3 none 0 [(0, .ref a0)] [] M (fX10_setShape a0 M) := by
  show am_S am_ev G 3 yX10_setShape.cls yX10_setShape.name cX10_setShape 3 none 0 [(0, .ref a0)] [] M (am_loop (fX10_setShape_2) 100000 (a0, 0, M))
  refine am_iconst dX10_setShape_0 am_kc_0 ?_
  refine am_istore_n (L' := [(1, .int 0), (0, .ref a0)]) dX10_setShape_1 rfl (by decide) rfl ?_
  refine am_sub [1, 0] rfl ?_
  exact lX10_setShape_2 G 100000 (a0, 0, M) h_a0
theorem CX10_setShape (G : am_G) (a0 : Nat) (M : am_M) (h_a0 : am_sh M a0 14) : am_C am_ev G 3 yX10_setShape cX10_setShape 3 none [.ref a0] M (fX10_setShape a0 M) :=
  am_meth (by decide) rfl (Nat.le_of_ble_eq_true rfl) (sX10_setShape_0 G a0 M h_a0)
def fX10_shapeIn_11 : ((Nat × Int32 × Int32 × Int32 × Int32 × am_M) → Option (Int32 × am_M)) → (Nat × Int32 × Int32 × Int32 × Int32 × am_M) → Option (Int32 × am_M) := fun k11 q0 => match q0 with
  | (x0, x1, x2, x3, x4, M) => (fX10_sizeOf x0 x1 M).bind fun p12 => if (x2 + 1) * p12.1 ≤ x4 then some (x3, p12.2) else (p12.2.2.2.1 x0 21).bind fun r14 => if x4 < 0 ∨ am_len p12.2 r14 ≤ x4.toNatClampNeg then none else k11 (x0, x1, x2, x3 + (p12.2.1 r14 (x4.toNatClampNeg)), x4 + 1, p12.2)
def fX10_shapeIn (a0 : Nat) (a1 : Int32) (a2 : Int32) (M : am_M) : Option (Int32 × am_M) := (fX10_sizeOf a0 a1 M).bind fun p6 => am_loop (fX10_shapeIn_11) 100000 (a0, a1, a2, 0, a2 * p6.1, p6.2)
set_option maxRecDepth 100000 in
set_option maxHeartbeats 4000000 in
theorem sX10_shapeIn_11 (G : am_G) (k11 : (Nat × Int32 × Int32 × Int32 × Int32 × am_M) → Option (Int32 × am_M)) (hk11 : ∀ q : (Nat × Int32 × Int32 × Int32 × Int32 × am_M), (match q with | (x0, x1, x2, x3, x4, M) => am_sh M x0 14) → match q with | (x0, x1, x2, x3, x4, M) => am_S am_ei G 1 yX10_shapeIn.cls yX10_shapeIn.name cX10_shapeIn 5 (some FieldType.int) 11 [(0, .ref x0), (1, .int x1), (2, .int x2), (3, .int x3), (4, .int x4)] [] M (k11 (x0, x1, x2, x3, x4, M))) (x0 : Nat) (x1 : Int32) (x2 : Int32) (x3 : Int32) (x4 : Int32) (M : am_M) (h_x0 : am_sh M x0 14) : am_S am_ei G 1 yX10_shapeIn.cls yX10_shapeIn.name cX10_shapeIn 5 (some FieldType.int) 11 [(0, .ref x0), (1, .int x1), (2, .int x2), (3, .int x3), (4, .int x4)] [] M (fX10_shapeIn_11 k11 (x0, x1, x2, x3, x4, M)) := by
  show am_S am_ei G 1 yX10_shapeIn.cls yX10_shapeIn.name cX10_shapeIn 5 (some FieldType.int) 11 [(0, .ref x0), (1, .int x1), (2, .int x2), (3, .int x3), (4, .int x4)] [] M ((fX10_sizeOf x0 x1 M).bind fun p12 => if (x2 + 1) * p12.1 ≤ x4 then some (x3, p12.2) else (p12.2.2.2.1 x0 21).bind fun r14 => if x4 < 0 ∨ am_len p12.2 r14 ≤ x4.toNatClampNeg then none else k11 (x0, x1, x2, x3 + (p12.2.1 r14 (x4.toNatClampNeg)), x4 + 1, p12.2))
  refine am_iload 4 dX10_shapeIn_11 rfl ?_
  refine am_iload_n 2 dX10_shapeIn_13 rfl rfl ?_
  refine am_iconst dX10_shapeIn_14 am_kc_1 ?_
  refine am_iadd dX10_shapeIn_15 ?_
  refine am_aload_n 0 dX10_shapeIn_16 rfl rfl ?_
  refine am_iload_n 1 dX10_shapeIn_17 rfl rfl ?_
  refine am_callVi 9 [.int x1] (CX10_sizeOf G x0 x1 M h_x0) dX10_shapeIn_18 mb_yX10_sizeOf ⟨ml_RX10_170, im_yX10_sizeOf, se_yX10_sizeOf⟩ rfl h_x0 (by decide) rfl rfl (Nat.le_of_ble_eq_true rfl) (fun v11 M8 q7 w10 l9 => ?_)
  refine am_imul dX10_shapeIn_21 ?_
  refine am_icmp_ge (tgt := 41) dX10_shapeIn_22 (by decide) (fun c13 => ?_) (fun c13 => ?_)
  · refine am_iload_n 3 dX10_shapeIn_41 rfl rfl ?_
    exact am_iret dX10_shapeIn_42
  · refine am_iload_n 3 dX10_shapeIn_25 rfl rfl ?_
    refine am_aload_n 0 dX10_shapeIn_26 rfl rfl ?_
    refine am_getR 9 dX10_shapeIn_27 fl_RX10_44 (am_sh.mono l9 h_x0) rfl (fun r14 e15 h16 => ?_)
    refine am_iload 4 dX10_shapeIn_30 rfl ?_
    refine am_iald dX10_shapeIn_32 h16 (fun b17 => ?_)
    refine am_iadd dX10_shapeIn_33 ?_
    refine am_istore_n (L' := [(3, .int (x3 + (M8.1 r14 (x4.toNatClampNeg)))), (0, .ref x0), (1, .int x1), (2, .int x2), (4, .int x4)]) dX10_shapeIn_34 rfl (by decide) rfl ?_
    refine am_iinc (L' := [(4, .int (x4 + 1)), (3, .int (x3 + (M8.1 r14 (x4.toNatClampNeg)))), (0, .ref x0), (1, .int x1), (2, .int x2)]) 4 dX10_shapeIn_35 rfl (by rfl) (by decide) rfl ?_
    refine am_goto (tgt := 11) dX10_shapeIn_38 (by decide) ?_
    refine am_sub [2, 3, 4, 1, 0] rfl ?_
    exact hk11 (x0, x1, x2, x3 + (M8.1 r14 (x4.toNatClampNeg)), x4 + 1, M8) (am_sh.mono l9 h_x0)
set_option maxRecDepth 100000 in
set_option maxHeartbeats 4000000 in
theorem lX10_shapeIn_11 (G : am_G) (n : Nat) (q : (Nat × Int32 × Int32 × Int32 × Int32 × am_M)) (hq : match q with | (x0, x1, x2, x3, x4, M) => am_sh M x0 14) : match q with | (x0, x1, x2, x3, x4, M) => am_S am_ei G 1 yX10_shapeIn.cls yX10_shapeIn.name cX10_shapeIn 5 (some FieldType.int) 11 [(0, .ref x0), (1, .int x1), (2, .int x2), (3, .int x3), (4, .int x4)] [] M (am_loop (fX10_shapeIn_11) n (x0, x1, x2, x3, x4, M)) := by
  exact am_loop_ok (fun q : (Nat × Int32 × Int32 × Int32 × Int32 × am_M) => match q with | (x0, x1, x2, x3, x4, M) => am_sh M x0 14) (fun q X => match q with | (x0, x1, x2, x3, x4, M) => am_S am_ei G 1 yX10_shapeIn.cls yX10_shapeIn.name cX10_shapeIn 5 (some FieldType.int) 11 [(0, .ref x0), (1, .int x1), (2, .int x2), (3, .int x3), (4, .int x4)] [] M X) (fun _ => am_none) (fun k11 hk11 q hq => match q, hq with | (x0, x1, x2, x3, x4, M), h_x0 => sX10_shapeIn_11 G k11 hk11 x0 x1 x2 x3 x4 M h_x0) n q hq
set_option maxRecDepth 100000 in
set_option maxHeartbeats 4000000 in
theorem sX10_shapeIn_0 (G : am_G) (a0 : Nat) (a1 : Int32) (a2 : Int32) (M : am_M) (h_a0 : am_sh M a0 14) : am_S am_ei G 1 yX10_shapeIn.cls yX10_shapeIn.name cX10_shapeIn 5 (some FieldType.int) 0 [(0, .ref a0), (1, .int a1), (2, .int a2)] [] M (fX10_shapeIn a0 a1 a2 M) := by
  show am_S am_ei G 1 yX10_shapeIn.cls yX10_shapeIn.name cX10_shapeIn 5 (some FieldType.int) 0 [(0, .ref a0), (1, .int a1), (2, .int a2)] [] M ((fX10_sizeOf a0 a1 M).bind fun p6 => am_loop (fX10_shapeIn_11) 100000 (a0, a1, a2, 0, a2 * p6.1, p6.2))
  refine am_iconst dX10_shapeIn_0 am_kc_0 ?_
  refine am_istore_n (L' := [(3, .int 0), (0, .ref a0), (1, .int a1), (2, .int a2)]) dX10_shapeIn_1 rfl (by decide) rfl ?_
  refine am_iload_n 3 dX10_shapeIn_2 rfl rfl ?_
  refine am_aload_n 1 dX10_shapeIn_3 rfl rfl ?_
  refine am_iload_n 2 dX10_shapeIn_4 rfl rfl ?_
  refine am_callVi 9 [.int a1] (CX10_sizeOf G a0 a1 M h_a0) dX10_shapeIn_5 mb_yX10_sizeOf ⟨ml_RX10_170, im_yX10_sizeOf, se_yX10_sizeOf⟩ rfl h_a0 (by decide) rfl rfl (Nat.le_of_ble_eq_true rfl) (fun v5 M2 q1 w4 l3 => ?_)
  refine am_imul dX10_shapeIn_8 ?_
  refine am_istore (L' := [(4, .int (a2 * v5)), (3, .int 0), (0, .ref a0), (1, .int a1), (2, .int a2)]) dX10_shapeIn_9 (by decide) rfl ?_
  refine am_sub [2, 3, 4, 1, 0] rfl ?_
  exact lX10_shapeIn_11 G 100000 (a0, a1, a2, 0, a2 * v5, M2) (am_sh.mono l3 h_a0)
theorem CX10_shapeIn (G : am_G) (a0 : Nat) (a1 : Int32) (a2 : Int32) (M : am_M) (h_a0 : am_sh M a0 14) : am_C am_ei G 1 yX10_shapeIn cX10_shapeIn 5 (some FieldType.int) [.ref a0, .int a1, .int a2] M (fX10_shapeIn a0 a1 a2 M) :=
  am_meth (by decide) rfl (Nat.le_of_ble_eq_true rfl) (sX10_shapeIn_0 G a0 a1 a2 M h_a0)
def fX10_pointsIn_48 (k5 : (Nat × Int32 × Int32 × Int32 × Int32 × am_M) → Option (Int32 × am_M)) (x0 : Nat) (x1 : Int32) (x2 : Int32) (x4 : Int32) (s0 : Int32) (s1 : Int32) (M : am_M) : Option (Int32 × am_M) := k5 (x0, x1, x2, s1 + s0, x4 + 1, M)
def fX10_pointsIn_5 : ((Nat × Int32 × Int32 × Int32 × Int32 × am_M) → Option (Int32 × am_M)) → (Nat × Int32 × Int32 × Int32 × Int32 × am_M) → Option (Int32 × am_M) := fun k5 q0 => match q0 with
  | (x0, x1, x2, x3, x4, M) => if M.1 x0 6 ≤ x4 then some (x3, M) else (M.2.2.1 x0 7).bind fun r2 => if x4 < 0 ∨ am_len M r2 ≤ x4.toNatClampNeg then none else (M.2.2.1 x0 8).bind fun r6 => if x4 < 0 ∨ am_len M r6 ≤ x4.toNatClampNeg then none else (fX10_keyOf x0 (M.1 r2 (x4.toNatClampNeg)) (M.1 r6 (x4.toNatClampNeg)) M).bind fun p15 => (fX10_sizeOf x0 x1 p15.2).bind fun p21 => if p21.1 = 0 then none else if p15.1 / p21.1 = x2 then fX10_pointsIn_48 k5 x0 x1 x2 x4 1 x3 p21.2 else fX10_pointsIn_48 k5 x0 x1 x2 x4 0 x3 p21.2
def fX10_pointsIn (a0 : Nat) (a1 : Int32) (a2 : Int32) (M : am_M) : Option (Int32 × am_M) := am_loop (fX10_pointsIn_5) 100000 (a0, a1, a2, 0, 0, M)
set_option maxRecDepth 100000 in
set_option maxHeartbeats 4000000 in
theorem sX10_pointsIn_48 (G : am_G) (k5 : (Nat × Int32 × Int32 × Int32 × Int32 × am_M) → Option (Int32 × am_M)) (hk5 : ∀ q : (Nat × Int32 × Int32 × Int32 × Int32 × am_M), (match q with | (x0, x1, x2, x3, x4, M) => am_sh M x0 14) → match q with | (x0, x1, x2, x3, x4, M) => am_S am_ei G 2 yX10_pointsIn.cls yX10_pointsIn.name cX10_pointsIn 5 (some FieldType.int) 5 [(0, .ref x0), (1, .int x1), (2, .int x2), (3, .int x3), (4, .int x4)] [] M (k5 (x0, x1, x2, x3, x4, M))) (x0 : Nat) (x1 : Int32) (x2 : Int32) (x4 : Int32) (s0 : Int32) (s1 : Int32) (M : am_M) (h_x0 : am_sh M x0 14) : am_S am_ei G 2 yX10_pointsIn.cls yX10_pointsIn.name cX10_pointsIn 5 (some FieldType.int) 48 [(0, .ref x0), (1, .int x1), (2, .int x2), (4, .int x4)] [.int s0, .int s1] M (fX10_pointsIn_48 k5 x0 x1 x2 x4 s0 s1 M) := by
  show am_S am_ei G 2 yX10_pointsIn.cls yX10_pointsIn.name cX10_pointsIn 5 (some FieldType.int) 48 [(0, .ref x0), (1, .int x1), (2, .int x2), (4, .int x4)] [.int s0, .int s1] M (k5 (x0, x1, x2, s1 + s0, x4 + 1, M))
  refine am_iadd dX10_pointsIn_48 ?_
  refine am_istore_n (L' := [(3, .int (s1 + s0)), (0, .ref x0), (1, .int x1), (2, .int x2), (4, .int x4)]) dX10_pointsIn_49 rfl (by decide) rfl ?_
  refine am_iinc (L' := [(4, .int (x4 + 1)), (3, .int (s1 + s0)), (0, .ref x0), (1, .int x1), (2, .int x2)]) 4 dX10_pointsIn_50 rfl (by rfl) (by decide) rfl ?_
  refine am_goto (tgt := 5) dX10_pointsIn_53 (by decide) ?_
  refine am_sub [2, 3, 4, 1, 0] rfl ?_
  exact hk5 (x0, x1, x2, s1 + s0, x4 + 1, M) h_x0
set_option maxRecDepth 100000 in
set_option maxHeartbeats 4000000 in
theorem sX10_pointsIn_5 (G : am_G) (k5 : (Nat × Int32 × Int32 × Int32 × Int32 × am_M) → Option (Int32 × am_M)) (hk5 : ∀ q : (Nat × Int32 × Int32 × Int32 × Int32 × am_M), (match q with | (x0, x1, x2, x3, x4, M) => am_sh M x0 14) → match q with | (x0, x1, x2, x3, x4, M) => am_S am_ei G 2 yX10_pointsIn.cls yX10_pointsIn.name cX10_pointsIn 5 (some FieldType.int) 5 [(0, .ref x0), (1, .int x1), (2, .int x2), (3, .int x3), (4, .int x4)] [] M (k5 (x0, x1, x2, x3, x4, M))) (x0 : Nat) (x1 : Int32) (x2 : Int32) (x3 : Int32) (x4 : Int32) (M : am_M) (h_x0 : am_sh M x0 14) : am_S am_ei G 2 yX10_pointsIn.cls yX10_pointsIn.name cX10_pointsIn 5 (some FieldType.int) 5 [(0, .ref x0), (1, .int x1), (2, .int x2), (3, .int x3), (4, .int x4)] [] M (fX10_pointsIn_5 k5 (x0, x1, x2, x3, x4, M)) := by
  show am_S am_ei G 2 yX10_pointsIn.cls yX10_pointsIn.name cX10_pointsIn 5 (some FieldType.int) 5 [(0, .ref x0), (1, .int x1), (2, .int x2), (3, .int x3), (4, .int x4)] [] M (if M.1 x0 6 ≤ x4 then some (x3, M) else (M.2.2.1 x0 7).bind fun r2 => if x4 < 0 ∨ am_len M r2 ≤ x4.toNatClampNeg then none else (M.2.2.1 x0 8).bind fun r6 => if x4 < 0 ∨ am_len M r6 ≤ x4.toNatClampNeg then none else (fX10_keyOf x0 (M.1 r2 (x4.toNatClampNeg)) (M.1 r6 (x4.toNatClampNeg)) M).bind fun p15 => (fX10_sizeOf x0 x1 p15.2).bind fun p21 => if p21.1 = 0 then none else if p15.1 / p21.1 = x2 then fX10_pointsIn_48 k5 x0 x1 x2 x4 1 x3 p21.2 else fX10_pointsIn_48 k5 x0 x1 x2 x4 0 x3 p21.2)
  refine am_iload 4 dX10_pointsIn_5 rfl ?_
  refine am_aload_n 0 dX10_pointsIn_7 rfl rfl ?_
  refine am_getI 9 dX10_pointsIn_8 fl_RX10_26 h_x0 rfl ?_
  refine am_icmp_ge (tgt := 56) dX10_pointsIn_11 (by decide) (fun c1 => ?_) (fun c1 => ?_)
  · refine am_iload_n 3 dX10_pointsIn_56 rfl rfl ?_
    exact am_iret dX10_pointsIn_57
  · refine am_iload_n 3 dX10_pointsIn_14 rfl rfl ?_
    refine am_aload_n 0 dX10_pointsIn_15 rfl rfl ?_
    refine am_aload_n 0 dX10_pointsIn_16 rfl rfl ?_
    refine am_getR 9 dX10_pointsIn_17 fl_RX10_29 h_x0 rfl (fun r2 e3 h4 => ?_)
    refine am_iload 4 dX10_pointsIn_20 rfl ?_
    refine am_iald dX10_pointsIn_22 h4 (fun b5 => ?_)
    refine am_aload_n 0 dX10_pointsIn_23 rfl rfl ?_
    refine am_getR 9 dX10_pointsIn_24 fl_RX10_32 h_x0 rfl (fun r6 e7 h8 => ?_)
    refine am_iload 4 dX10_pointsIn_27 rfl ?_
    refine am_iald dX10_pointsIn_29 h8 (fun b9 => ?_)
    refine am_callVi 9 [.int (M.1 r2 (x4.toNatClampNeg)), .int (M.1 r6 (x4.toNatClampNeg))] (CX10_keyOf G x0 (M.1 r2 (x4.toNatClampNeg)) (M.1 r6 (x4.toNatClampNeg)) M h_x0) dX10_pointsIn_30 mb_yX10_keyOf ⟨ml_RX10_153, im_yX10_keyOf, se_yX10_keyOf⟩ rfl h_x0 (by decide) rfl rfl (Nat.le_of_ble_eq_true rfl) (fun v14 M11 q10 w13 l12 => ?_)
    refine am_aload_n 0 dX10_pointsIn_33 rfl rfl ?_
    refine am_iload_n 1 dX10_pointsIn_34 rfl rfl ?_
    refine am_callVi 9 [.int x1] (CX10_sizeOf G x0 x1 M11 (am_sh.mono l12 h_x0)) dX10_pointsIn_35 mb_yX10_sizeOf ⟨ml_RX10_170, im_yX10_sizeOf, se_yX10_sizeOf⟩ rfl (am_sh.mono l12 h_x0) (by decide) rfl rfl (Nat.le_of_ble_eq_true rfl) (fun v20 M17 q16 w19 l18 => ?_)
    refine am_idiv dX10_pointsIn_38 (fun hz22 => ?_)
    refine am_iload_n 2 dX10_pointsIn_39 rfl rfl ?_
    refine am_icmp_ne (tgt := 47) dX10_pointsIn_40 (by decide) (fun c23 => ?_) (fun c23 => ?_)
    · refine am_iconst dX10_pointsIn_47 am_kc_0 ?_
      refine am_sub [0, 1, 2, 4] rfl ?_
      exact sX10_pointsIn_48 G k5 hk5 x0 x1 x2 x4 0 x3 M17 (am_sh.mono l18 (am_sh.mono l12 h_x0))
    · refine am_iconst dX10_pointsIn_43 am_kc_1 ?_
      refine am_goto (tgt := 48) dX10_pointsIn_44 (by decide) ?_
      refine am_sub [0, 1, 2, 4] rfl ?_
      exact sX10_pointsIn_48 G k5 hk5 x0 x1 x2 x4 1 x3 M17 (am_sh.mono l18 (am_sh.mono l12 h_x0))
set_option maxRecDepth 100000 in
set_option maxHeartbeats 4000000 in
theorem lX10_pointsIn_5 (G : am_G) (n : Nat) (q : (Nat × Int32 × Int32 × Int32 × Int32 × am_M)) (hq : match q with | (x0, x1, x2, x3, x4, M) => am_sh M x0 14) : match q with | (x0, x1, x2, x3, x4, M) => am_S am_ei G 2 yX10_pointsIn.cls yX10_pointsIn.name cX10_pointsIn 5 (some FieldType.int) 5 [(0, .ref x0), (1, .int x1), (2, .int x2), (3, .int x3), (4, .int x4)] [] M (am_loop (fX10_pointsIn_5) n (x0, x1, x2, x3, x4, M)) := by
  exact am_loop_ok (fun q : (Nat × Int32 × Int32 × Int32 × Int32 × am_M) => match q with | (x0, x1, x2, x3, x4, M) => am_sh M x0 14) (fun q X => match q with | (x0, x1, x2, x3, x4, M) => am_S am_ei G 2 yX10_pointsIn.cls yX10_pointsIn.name cX10_pointsIn 5 (some FieldType.int) 5 [(0, .ref x0), (1, .int x1), (2, .int x2), (3, .int x3), (4, .int x4)] [] M X) (fun _ => am_none) (fun k5 hk5 q hq => match q, hq with | (x0, x1, x2, x3, x4, M), h_x0 => sX10_pointsIn_5 G k5 hk5 x0 x1 x2 x3 x4 M h_x0) n q hq
set_option maxRecDepth 100000 in
set_option maxHeartbeats 4000000 in
theorem sX10_pointsIn_0 (G : am_G) (a0 : Nat) (a1 : Int32) (a2 : Int32) (M : am_M) (h_a0 : am_sh M a0 14) : am_S am_ei G 2 yX10_pointsIn.cls yX10_pointsIn.name cX10_pointsIn 5 (some FieldType.int) 0 [(0, .ref a0), (1, .int a1), (2, .int a2)] [] M (fX10_pointsIn a0 a1 a2 M) := by
  show am_S am_ei G 2 yX10_pointsIn.cls yX10_pointsIn.name cX10_pointsIn 5 (some FieldType.int) 0 [(0, .ref a0), (1, .int a1), (2, .int a2)] [] M (am_loop (fX10_pointsIn_5) 100000 (a0, a1, a2, 0, 0, M))
  refine am_iconst dX10_pointsIn_0 am_kc_0 ?_
  refine am_istore_n (L' := [(3, .int 0), (0, .ref a0), (1, .int a1), (2, .int a2)]) dX10_pointsIn_1 rfl (by decide) rfl ?_
  refine am_iconst dX10_pointsIn_2 am_kc_0 ?_
  refine am_istore (L' := [(4, .int 0), (3, .int 0), (0, .ref a0), (1, .int a1), (2, .int a2)]) dX10_pointsIn_3 (by decide) rfl ?_
  refine am_sub [2, 3, 4, 1, 0] rfl ?_
  exact lX10_pointsIn_5 G 100000 (a0, a1, a2, 0, 0, M) h_a0
theorem CX10_pointsIn (G : am_G) (a0 : Nat) (a1 : Int32) (a2 : Int32) (M : am_M) (h_a0 : am_sh M a0 14) : am_C am_ei G 2 yX10_pointsIn cX10_pointsIn 5 (some FieldType.int) [.ref a0, .int a1, .int a2] M (fX10_pointsIn a0 a1 a2 M) :=
  am_meth (by decide) rfl (Nat.le_of_ble_eq_true rfl) (sX10_pointsIn_0 G a0 a1 a2 M h_a0)
