def fX7_put_115 (x0 : Nat) (s0 : Int32) (s1 : Nat) (M : am_M) : Option am_M := (M.2.2.1 x0 1).bind fun r5 => if (0 : Int32) < 0 ∨ am_len M r5 ≤ (0 : Int32).toNatClampNeg then none else (M.2.2.1 x0 1).bind fun r9 => if (1 : Int32) < 0 ∨ am_len M r9 ≤ (1 : Int32).toNatClampNeg then none else (M.2.2.1 x0 1).bind fun r13 => if (2 : Int32) < 0 ∨ am_len M r13 ≤ (2 : Int32).toNatClampNeg then none else (fX5_addDisc s1 s0 (M.1 r5 ((0 : Int32).toNatClampNeg)) (M.1 r9 ((1 : Int32).toNatClampNeg)) (M.1 r13 ((2 : Int32).toNatClampNeg)) M).bind fun p22 => some p22.2
def fX7_put_72 (x0 : Nat) (s0 : Int32) (s1 : Nat) (M : am_M) : Option am_M := (M.2.2.1 x0 1).bind fun r24 => if (0 : Int32) < 0 ∨ am_len M r24 ≤ (0 : Int32).toNatClampNeg then none else (M.2.2.1 x0 1).bind fun r28 => if (1 : Int32) < 0 ∨ am_len M r28 ≤ (1 : Int32).toNatClampNeg then none else (M.2.2.1 x0 1).bind fun r32 => if (2 : Int32) < 0 ∨ am_len M r32 ≤ (2 : Int32).toNatClampNeg then none else (M.2.2.1 x0 1).bind fun r36 => if (3 : Int32) < 0 ∨ am_len M r36 ≤ (3 : Int32).toNatClampNeg then none else (fX5_addBox s1 s0 (M.1 r24 ((0 : Int32).toNatClampNeg)) (M.1 r28 ((1 : Int32).toNatClampNeg)) (M.1 r32 ((2 : Int32).toNatClampNeg)) (M.1 r36 ((3 : Int32).toNatClampNeg)) M).bind fun p45 => some p45.2
def fX7_put (a0 : Nat) (a1 : Nat) (a2 : Int32) (a3 : Int32) (M : am_M) : Option am_M := if a3 = 119 then (M.2.2.1 a0 1).bind fun r63 => if (0 : Int32) < 0 ∨ am_len M r63 ≤ (0 : Int32).toNatClampNeg then none else (M.2.2.1 a0 1).bind fun r67 => if (1 : Int32) < 0 ∨ am_len M r67 ≤ (1 : Int32).toNatClampNeg then none else (fX5_begin a1 (M.1 r63 ((0 : Int32).toNatClampNeg)) (M.1 r67 ((1 : Int32).toNatClampNeg)) M).bind fun M72 => some M72 else if a3 = 112 then (M.2.2.1 a1 0).bind fun r46 => (M.2.2.1 a0 1).bind fun r49 => if (0 : Int32) < 0 ∨ am_len M r49 ≤ (0 : Int32).toNatClampNeg then none else (M.2.2.1 a0 1).bind fun r53 => if (1 : Int32) < 0 ∨ am_len M r53 ≤ (1 : Int32).toNatClampNeg then none else (fX6_add r46 (M.1 r49 ((0 : Int32).toNatClampNeg)) (M.1 r53 ((1 : Int32).toNatClampNeg)) M).bind fun p62 => some p62.2 else if a3 = 98 then if a2 = 43 then fX7_put_72 a0 1 a1 M else fX7_put_72 a0 0 a1 M else if a2 = 43 then fX7_put_115 a0 1 a1 M else fX7_put_115 a0 0 a1 M
set_option maxRecDepth 100000 in
set_option maxHeartbeats 4000000 in
theorem sX7_put_115 (G : am_G) (x0 : Nat) (s0 : Int32) (s1 : Nat) (M : am_M) (h_x0 : am_sh M x0 11) (h_s1 : am_sh M s1 9) : am_S am_ev G 2 yX7_put.cls yX7_put.name cX7_put 4 none 115 [(0, .ref x0)] [.int s0, .ref s1] M (fX7_put_115 x0 s0 s1 M) := by
  show am_S am_ev G 2 yX7_put.cls yX7_put.name cX7_put 4 none 115 [(0, .ref x0)] [.int s0, .ref s1] M ((M.2.2.1 x0 1).bind fun r5 => if (0 : Int32) < 0 ∨ am_len M r5 ≤ (0 : Int32).toNatClampNeg then none else (M.2.2.1 x0 1).bind fun r9 => if (1 : Int32) < 0 ∨ am_len M r9 ≤ (1 : Int32).toNatClampNeg then none else (M.2.2.1 x0 1).bind fun r13 => if (2 : Int32) < 0 ∨ am_len M r13 ≤ (2 : Int32).toNatClampNeg then none else (fX5_addDisc s1 s0 (M.1 r5 ((0 : Int32).toNatClampNeg)) (M.1 r9 ((1 : Int32).toNatClampNeg)) (M.1 r13 ((2 : Int32).toNatClampNeg)) M).bind fun p22 => some p22.2)
  refine am_aload_n 0 dX7_put_115 rfl rfl ?_
  refine am_getR 6 dX7_put_116 fl_RX7_15 h_x0 rfl (fun r5 e6 h7 => ?_)
  refine am_iconst dX7_put_119 am_kc_0 ?_
  refine am_iald dX7_put_120 h7 (fun b8 => ?_)
  refine am_aload_n 0 dX7_put_121 rfl rfl ?_
  refine am_getR 6 dX7_put_122 fl_RX7_15 h_x0 rfl (fun r9 e10 h11 => ?_)
  refine am_iconst dX7_put_125 am_kc_1 ?_
  refine am_iald dX7_put_126 h11 (fun b12 => ?_)
  refine am_aload_n 0 dX7_put_127 rfl rfl ?_
  refine am_getR 6 dX7_put_128 fl_RX7_15 h_x0 rfl (fun r13 e14 h15 => ?_)
  refine am_iconst dX7_put_131 am_kc_2 ?_
  refine am_iald dX7_put_132 h15 (fun b16 => ?_)
  refine am_callVi 4 [.int s0, .int (M.1 r5 ((0 : Int32).toNatClampNeg)), .int (M.1 r9 ((1 : Int32).toNatClampNeg)), .int (M.1 r13 ((2 : Int32).toNatClampNeg))] (CX5_addDisc G s1 s0 (M.1 r5 ((0 : Int32).toNatClampNeg)) (M.1 r9 ((1 : Int32).toNatClampNeg)) (M.1 r13 ((2 : Int32).toNatClampNeg)) M h_s1) dX7_put_133 mb_yX5_addDisc ⟨ml_RX7_99, im_yX5_addDisc, se_yX5_addDisc⟩ rfl h_s1 (by decide) rfl rfl (Nat.le_of_ble_eq_true rfl) (fun v21 M18 q17 w20 l19 => ?_)
  refine am_pop dX7_put_136 rfl ?_
  exact am_vret dX7_put_137
set_option maxRecDepth 100000 in
set_option maxHeartbeats 4000000 in
theorem sX7_put_72 (G : am_G) (x0 : Nat) (s0 : Int32) (s1 : Nat) (M : am_M) (h_x0 : am_sh M x0 11) (h_s1 : am_sh M s1 9) : am_S am_ev G 2 yX7_put.cls yX7_put.name cX7_put 4 none 72 [(0, .ref x0)] [.int s0, .ref s1] M (fX7_put_72 x0 s0 s1 M) := by
  show am_S am_ev G 2 yX7_put.cls yX7_put.name cX7_put 4 none 72 [(0, .ref x0)] [.int s0, .ref s1] M ((M.2.2.1 x0 1).bind fun r24 => if (0 : Int32) < 0 ∨ am_len M r24 ≤ (0 : Int32).toNatClampNeg then none else (M.2.2.1 x0 1).bind fun r28 => if (1 : Int32) < 0 ∨ am_len M r28 ≤ (1 : Int32).toNatClampNeg then none else (M.2.2.1 x0 1).bind fun r32 => if (2 : Int32) < 0 ∨ am_len M r32 ≤ (2 : Int32).toNatClampNeg then none else (M.2.2.1 x0 1).bind fun r36 => if (3 : Int32) < 0 ∨ am_len M r36 ≤ (3 : Int32).toNatClampNeg then none else (fX5_addBox s1 s0 (M.1 r24 ((0 : Int32).toNatClampNeg)) (M.1 r28 ((1 : Int32).toNatClampNeg)) (M.1 r32 ((2 : Int32).toNatClampNeg)) (M.1 r36 ((3 : Int32).toNatClampNeg)) M).bind fun p45 => some p45.2)
  refine am_aload_n 0 dX7_put_72 rfl rfl ?_
  refine am_getR 6 dX7_put_73 fl_RX7_15 h_x0 rfl (fun r24 e25 h26 => ?_)
  refine am_iconst dX7_put_76 am_kc_0 ?_
  refine am_iald dX7_put_77 h26 (fun b27 => ?_)
  refine am_aload_n 0 dX7_put_78 rfl rfl ?_
  refine am_getR 6 dX7_put_79 fl_RX7_15 h_x0 rfl (fun r28 e29 h30 => ?_)
  refine am_iconst dX7_put_82 am_kc_1 ?_
  refine am_iald dX7_put_83 h30 (fun b31 => ?_)
  refine am_aload_n 0 dX7_put_84 rfl rfl ?_
  refine am_getR 6 dX7_put_85 fl_RX7_15 h_x0 rfl (fun r32 e33 h34 => ?_)
  refine am_iconst dX7_put_88 am_kc_2 ?_
  refine am_iald dX7_put_89 h34 (fun b35 => ?_)
  refine am_aload_n 0 dX7_put_90 rfl rfl ?_
  refine am_getR 6 dX7_put_91 fl_RX7_15 h_x0 rfl (fun r36 e37 h38 => ?_)
  refine am_iconst dX7_put_94 am_kc_3 ?_
  refine am_iald dX7_put_95 h38 (fun b39 => ?_)
  refine am_callVi 4 [.int s0, .int (M.1 r24 ((0 : Int32).toNatClampNeg)), .int (M.1 r28 ((1 : Int32).toNatClampNeg)), .int (M.1 r32 ((2 : Int32).toNatClampNeg)), .int (M.1 r36 ((3 : Int32).toNatClampNeg))] (CX5_addBox G s1 s0 (M.1 r24 ((0 : Int32).toNatClampNeg)) (M.1 r28 ((1 : Int32).toNatClampNeg)) (M.1 r32 ((2 : Int32).toNatClampNeg)) (M.1 r36 ((3 : Int32).toNatClampNeg)) M h_s1) dX7_put_96 mb_yX5_addBox ⟨ml_RX7_95, im_yX5_addBox, se_yX5_addBox⟩ rfl h_s1 (by decide) rfl rfl (Nat.le_of_ble_eq_true rfl) (fun v44 M41 q40 w43 l42 => ?_)
  refine am_pop dX7_put_99 rfl ?_
  refine am_goto (tgt := 137) dX7_put_100 (by decide) ?_
  exact am_vret dX7_put_137
set_option maxRecDepth 100000 in
set_option maxHeartbeats 4000000 in
theorem sX7_put_0 (G : am_G) (a0 : Nat) (a1 : Nat) (a2 : Int32) (a3 : Int32) (M : am_M) (h_a0 : am_sh M a0 11) (h_a1 : am_sh M a1 9) : am_S am_ev G 2 yX7_put.cls yX7_put.name cX7_put 4 none 0 [(0, .ref a0), (1, .ref a1), (2, .int a2), (3, .int a3)] [] M (fX7_put a0 a1 a2 a3 M) := by
  show am_S am_ev G 2 yX7_put.cls yX7_put.name cX7_put 4 none 0 [(0, .ref a0), (1, .ref a1), (2, .int a2), (3, .int a3)] [] M (if a3 = 119 then (M.2.2.1 a0 1).bind fun r63 => if (0 : Int32) < 0 ∨ am_len M r63 ≤ (0 : Int32).toNatClampNeg then none else (M.2.2.1 a0 1).bind fun r67 => if (1 : Int32) < 0 ∨ am_len M r67 ≤ (1 : Int32).toNatClampNeg then none else (fX5_begin a1 (M.1 r63 ((0 : Int32).toNatClampNeg)) (M.1 r67 ((1 : Int32).toNatClampNeg)) M).bind fun M72 => some M72 else if a3 = 112 then (M.2.2.1 a1 0).bind fun r46 => (M.2.2.1 a0 1).bind fun r49 => if (0 : Int32) < 0 ∨ am_len M r49 ≤ (0 : Int32).toNatClampNeg then none else (M.2.2.1 a0 1).bind fun r53 => if (1 : Int32) < 0 ∨ am_len M r53 ≤ (1 : Int32).toNatClampNeg then none else (fX6_add r46 (M.1 r49 ((0 : Int32).toNatClampNeg)) (M.1 r53 ((1 : Int32).toNatClampNeg)) M).bind fun p62 => some p62.2 else if a3 = 98 then if a2 = 43 then fX7_put_72 a0 1 a1 M else fX7_put_72 a0 0 a1 M else if a2 = 43 then fX7_put_115 a0 1 a1 M else fX7_put_115 a0 0 a1 M)
  refine am_iload_n 3 dX7_put_0 rfl rfl ?_
  refine am_bipush (x := 119) dX7_put_1 (by decide) ?_
  refine am_icmp_ne (tgt := 25) dX7_put_3 (by decide) (fun c1 => ?_) (fun c1 => ?_)
  · refine am_iload_n 3 dX7_put_25 rfl rfl ?_
    refine am_bipush (x := 112) dX7_put_26 (by decide) ?_
    refine am_icmp_ne (tgt := 54) dX7_put_28 (by decide) (fun c2 => ?_) (fun c2 => ?_)
    · refine am_iload_n 3 dX7_put_54 rfl rfl ?_
      refine am_bipush (x := 98) dX7_put_55 (by decide) ?_
      refine am_icmp_ne (tgt := 103) dX7_put_57 (by decide) (fun c3 => ?_) (fun c3 => ?_)
      · refine am_aload_n 1 dX7_put_103 rfl rfl ?_
        refine am_iload_n 2 dX7_put_104 rfl rfl ?_
        refine am_bipush (x := 43) dX7_put_105 (by decide) ?_
        refine am_icmp_ne (tgt := 114) dX7_put_107 (by decide) (fun c4 => ?_) (fun c4 => ?_)
        · refine am_iconst dX7_put_114 am_kc_0 ?_
          refine am_sub [0] rfl ?_
          exact sX7_put_115 G a0 0 a1 M h_a0 h_a1
        · refine am_iconst dX7_put_110 am_kc_1 ?_
          refine am_goto (tgt := 115) dX7_put_111 (by decide) ?_
          refine am_sub [0] rfl ?_
          exact sX7_put_115 G a0 1 a1 M h_a0 h_a1
      · refine am_aload_n 1 dX7_put_60 rfl rfl ?_
        refine am_iload_n 2 dX7_put_61 rfl rfl ?_
        refine am_bipush (x := 43) dX7_put_62 (by decide) ?_
        refine am_icmp_ne (tgt := 71) dX7_put_64 (by decide) (fun c23 => ?_) (fun c23 => ?_)
        · refine am_iconst dX7_put_71 am_kc_0 ?_
          refine am_sub [0] rfl ?_
          exact sX7_put_72 G a0 0 a1 M h_a0 h_a1
        · refine am_iconst dX7_put_67 am_kc_1 ?_
          refine am_goto (tgt := 72) dX7_put_68 (by decide) ?_
          refine am_sub [0] rfl ?_
          exact sX7_put_72 G a0 1 a1 M h_a0 h_a1
    · refine am_aload_n 1 dX7_put_31 rfl rfl ?_
      refine am_getR 4 dX7_put_32 fl_RX7_67 h_a1 rfl (fun r46 e47 h48 => ?_)
      refine am_aload_n 0 dX7_put_35 rfl rfl ?_
      refine am_getR 6 dX7_put_36 fl_RX7_15 h_a0 rfl (fun r49 e50 h51 => ?_)
      refine am_iconst dX7_put_39 am_kc_0 ?_
      refine am_iald dX7_put_40 h51 (fun b52 => ?_)
      refine am_aload_n 0 dX7_put_41 rfl rfl ?_
      refine am_getR 6 dX7_put_42 fl_RX7_15 h_a0 rfl (fun r53 e54 h55 => ?_)
      refine am_iconst dX7_put_45 am_kc_1 ?_
      refine am_iald dX7_put_46 h55 (fun b56 => ?_)
      refine am_callVi 5 [.int (M.1 r49 ((0 : Int32).toNatClampNeg)), .int (M.1 r53 ((1 : Int32).toNatClampNeg))] (CX6_add G r46 (M.1 r49 ((0 : Int32).toNatClampNeg)) (M.1 r53 ((1 : Int32).toNatClampNeg)) M h48) dX7_put_47 mb_yX6_add ⟨ml_RX7_91, im_yX6_add, se_yX6_add⟩ rfl h48 (by decide) rfl rfl (Nat.le_of_ble_eq_true rfl) (fun v61 M58 q57 w60 l59 => ?_)
      refine am_pop dX7_put_50 rfl ?_
      refine am_goto (tgt := 137) dX7_put_51 (by decide) ?_
      exact am_vret dX7_put_137
  · refine am_aload_n 1 dX7_put_6 rfl rfl ?_
    refine am_aload_n 0 dX7_put_7 rfl rfl ?_
    refine am_getR 6 dX7_put_8 fl_RX7_15 h_a0 rfl (fun r63 e64 h65 => ?_)
    refine am_iconst dX7_put_11 am_kc_0 ?_
    refine am_iald dX7_put_12 h65 (fun b66 => ?_)
    refine am_aload_n 0 dX7_put_13 rfl rfl ?_
    refine am_getR 6 dX7_put_14 fl_RX7_15 h_a0 rfl (fun r67 e68 h69 => ?_)
    refine am_iconst dX7_put_17 am_kc_1 ?_
    refine am_iald dX7_put_18 h69 (fun b70 => ?_)
    refine am_callVv 4 [.int (M.1 r63 ((0 : Int32).toNatClampNeg)), .int (M.1 r67 ((1 : Int32).toNatClampNeg))] (CX5_begin G a1 (M.1 r63 ((0 : Int32).toNatClampNeg)) (M.1 r67 ((1 : Int32).toNatClampNeg)) M h_a1) dX7_put_19 mb_yX5_begin ⟨ml_RX7_29, im_yX5_begin, se_yX5_begin⟩ rfl h_a1 (by decide) rfl rfl (Nat.le_of_ble_eq_true rfl) (fun M72 q71 w74 l73 => ?_)
    refine am_goto (tgt := 137) dX7_put_22 (by decide) ?_
    exact am_vret dX7_put_137
theorem CX7_put (G : am_G) (a0 : Nat) (a1 : Nat) (a2 : Int32) (a3 : Int32) (M : am_M) (h_a0 : am_sh M a0 11) (h_a1 : am_sh M a1 9) : am_C am_ev G 2 yX7_put cX7_put 4 none [.ref a0, .ref a1, .int a2, .int a3] M (fX7_put a0 a1 a2 a3 M) :=
  am_meth (by decide) rfl (Nat.le_of_ble_eq_true rfl) (sX7_put_0 G a0 a1 a2 a3 M h_a0 h_a1)
def fX7_readItem_78 (k52 : (Nat × Nat × Int32 × Int32 × Int32 × Int32 × am_M) → Option (Int32 × am_M)) (x0 : Nat) (x1 : Nat) (x3 : Int32) (x4 : Int32) (x5 : Int32) (x6 : Int32) (s0 : Int32) (s1 : Int32) (s2 : Nat) (M : am_M) : Option (Int32 × am_M) := (fX7_readNumber s2 s1 s0 M).bind fun p34 => if p34.1 = 0 then (fX7_isTold x0 x1 x4 x6 p34.2).bind fun p41 => if p41.1 = 0 then some (20 + x6, p41.2) else k52 (x0, x1, x3, x4, x5, x6 + 1, p41.2) else some (p34.1, p34.2)
def fX7_readItem_52 : ((Nat × Nat × Int32 × Int32 × Int32 × Int32 × am_M) → Option (Int32 × am_M)) → (Nat × Nat × Int32 × Int32 × Int32 × Int32 × am_M) → Option (Int32 × am_M) := fun k52 q0 => match q0 with
  | (x0, x1, x3, x4, x5, x6, M) => if x5 ≤ x6 then (fX7_put x0 x1 x3 x4 M).bind fun M24 => some (0, M24) else if x5 - 1 ≤ x6 then fX7_readItem_78 k52 x0 x1 x3 x4 x5 x6 59 x6 x0 M else fX7_readItem_78 k52 x0 x1 x3 x4 x5 x6 44 x6 x0 M
def fX7_readItem_47 (x0 : Nat) (x1 : Nat) (x3 : Int32) (x4 : Int32) (s0 : Int32) (M : am_M) : Option (Int32 × am_M) := am_loop (fX7_readItem_52) 100000 (x0, x1, x3, x4, s0, 0, M)
def fX7_readItem (a0 : Nat) (a1 : Nat) (a2 : Int32) (M : am_M) : Option (Int32 × am_M) := (fX7_letterHere a0 M).bind fun p6 => (fX7_readKind a0 p6.2).bind fun p12 => (fX7_mayStand a0 a1 p12.1 a2 p12.2).bind fun p18 => if p18.1 = 0 then some (1, p18.2) else if p12.1 = 98 then fX7_readItem_47 a0 a1 p6.1 p12.1 4 p18.2 else if p12.1 = 100 then fX7_readItem_47 a0 a1 p6.1 p12.1 3 p18.2 else fX7_readItem_47 a0 a1 p6.1 p12.1 2 p18.2
set_option maxRecDepth 100000 in
set_option maxHeartbeats 4000000 in
theorem sX7_readItem_78 (G : am_G) (k52 : (Nat × Nat × Int32 × Int32 × Int32 × Int32 × am_M) → Option (Int32 × am_M)) (hk52 : ∀ q : (Nat × Nat × Int32 × Int32 × Int32 × Int32 × am_M), (match q with | (x0, x1, x3, x4, x5, x6, M) => am_sh M x0 11 ∧ am_sh M x1 9) → match q with | (x0, x1, x3, x4, x5, x6, M) => am_S am_ei G 3 yX7_readItem.cls yX7_readItem.name cX7_readItem 8 (some FieldType.int) 52 [(0, .ref x0), (1, .ref x1), (3, .int x3), (4, .int x4), (5, .int x5), (6, .int x6)] [] M (k52 (x0, x1, x3, x4, x5, x6, M))) (x0 : Nat) (x1 : Nat) (x3 : Int32) (x4 : Int32) (x5 : Int32) (x6 : Int32) (s0 : Int32) (s1 : Int32) (s2 : Nat) (M : am_M) (h_x0 : am_sh M x0 11) (h_x1 : am_sh M x1 9) (h_s2 : am_sh M s2 11) : am_S am_ei G 3 yX7_readItem.cls yX7_readItem.name cX7_readItem 8 (some FieldType.int) 78 [(0, .ref x0), (1, .ref x1), (3, .int x3), (4, .int x4), (5, .int x5), (6, .int x6)] [.int s0, .int s1, .ref s2] M (fX7_readItem_78 k52 x0 x1 x3 x4 x5 x6 s0 s1 s2 M) := by
  show am_S am_ei G 3 yX7_readItem.cls yX7_readItem.name cX7_readItem 8 (some FieldType.int) 78 [(0, .ref x0), (1, .ref x1), (3, .int x3), (4, .int x4), (5, .int x5), (6, .int x6)] [.int s0, .int s1, .ref s2] M ((fX7_readNumber s2 s1 s0 M).bind fun p34 => if p34.1 = 0 then (fX7_isTold x0 x1 x4 x6 p34.2).bind fun p41 => if p41.1 = 0 then some (20 + x6, p41.2) else k52 (x0, x1, x3, x4, x5, x6 + 1, p41.2) else some (p34.1, p34.2))
  refine am_callVi 6 [.int s1, .int s0] (CX7_readNumber G s2 s1 s0 M h_s2) dX7_readItem_78 mb_yX7_readNumber ⟨ml_RX7_56, im_yX7_readNumber, se_yX7_readNumber⟩ rfl h_s2 (by decide) rfl rfl (Nat.le_of_ble_eq_true rfl) (fun v33 M30 q29 w32 l31 => ?_)
  refine am_istore (L' := [(7, .int v33), (0, .ref x0), (1, .ref x1), (3, .int x3), (4, .int x4), (5, .int x5), (6, .int x6)]) dX7_readItem_81 (by decide) rfl ?_
  refine am_iload 0 dX7_readItem_83 rfl ?_
  refine am_if_eq (tgt := 91) dX7_readItem_85 (by decide) (fun c35 => ?_) (fun c35 => ?_)
  · refine am_aload_n 1 dX7_readItem_91 rfl rfl ?_
    refine am_aload_n 2 dX7_readItem_92 rfl rfl ?_
    refine am_iload 4 dX7_readItem_93 rfl ?_
    refine am_iload 6 dX7_readItem_95 rfl ?_
    refine am_callVi 6 [.ref x1, .int x4, .int x6] (CX7_isTold G x0 x1 x4 x6 M30 (am_sh.mono l31 h_x0) (am_sh.mono l31 h_x1)) dX7_readItem_97 mb_yX7_isTold ⟨ml_RX7_60, im_yX7_isTold, se_yX7_isTold⟩ rfl (am_sh.mono l31 h_x0) (by decide) rfl rfl (Nat.le_of_ble_eq_true rfl) (fun v40 M37 q36 w39 l38 => ?_)
    refine am_if_ne (tgt := 109) dX7_readItem_100 (by decide) (fun c42 => ?_) (fun c42 => ?_)
    · refine am_iinc (L' := [(6, .int (x6 + 1)), (7, .int v33), (0, .ref x0), (1, .ref x1), (3, .int x3), (4, .int x4), (5, .int x5)]) 6 dX7_readItem_109 rfl (by rfl) (by decide) rfl ?_
      refine am_goto (tgt := 52) dX7_readItem_112 (by decide) ?_
      refine am_sub [2, 3, 4, 5, 6, 0] rfl ?_
      exact hk52 (x0, x1, x3, x4, x5, x6 + 1, M37) ⟨(am_sh.mono l38 (am_sh.mono l31 h_x0)), (am_sh.mono l38 (am_sh.mono l31 h_x1))⟩
    · refine am_bipush (x := 20) dX7_readItem_103 (by decide) ?_
      refine am_iload 6 dX7_readItem_105 rfl ?_
      refine am_iadd dX7_readItem_107 ?_
      exact am_iret dX7_readItem_108
  · refine am_iload 0 dX7_readItem_88 rfl ?_
    exact am_iret dX7_readItem_90
set_option maxRecDepth 100000 in
set_option maxHeartbeats 4000000 in
theorem sX7_readItem_52 (G : am_G) (k52 : (Nat × Nat × Int32 × Int32 × Int32 × Int32 × am_M) → Option (Int32 × am_M)) (hk52 : ∀ q : (Nat × Nat × Int32 × Int32 × Int32 × Int32 × am_M), (match q with | (x0, x1, x3, x4, x5, x6, M) => am_sh M x0 11 ∧ am_sh M x1 9) → match q with | (x0, x1, x3, x4, x5, x6, M) => am_S am_ei G 3 yX7_readItem.cls yX7_readItem.name cX7_readItem 8 (some FieldType.int) 52 [(0, .ref x0), (1, .ref x1), (3, .int x3), (4, .int x4), (5, .int x5), (6, .int x6)] [] M (k52 (x0, x1, x3, x4, x5, x6, M))) (x0 : Nat) (x1 : Nat) (x3 : Int32) (x4 : Int32) (x5 : Int32) (x6 : Int32) (M : am_M) (h_x0 : am_sh M x0 11) (h_x1 : am_sh M x1 9) : am_S am_ei G 3 yX7_readItem.cls yX7_readItem.name cX7_readItem 8 (some FieldType.int) 52 [(0, .ref x0), (1, .ref x1), (3, .int x3), (4, .int x4), (5, .int x5), (6, .int x6)] [] M (fX7_readItem_52 k52 (x0, x1, x3, x4, x5, x6, M)) := by
  show am_S am_ei G 3 yX7_readItem.cls yX7_readItem.name cX7_readItem 8 (some FieldType.int) 52 [(0, .ref x0), (1, .ref x1), (3, .int x3), (4, .int x4), (5, .int x5), (6, .int x6)] [] M (if x5 ≤ x6 then (fX7_put x0 x1 x3 x4 M).bind fun M24 => some (0, M24) else if x5 - 1 ≤ x6 then fX7_readItem_78 k52 x0 x1 x3 x4 x5 x6 59 x6 x0 M else fX7_readItem_78 k52 x0 x1 x3 x4 x5 x6 44 x6 x0 M)
  refine am_iload 5 dX7_readItem_52 rfl ?_
  refine am_iload 4 dX7_readItem_54 rfl ?_
  refine am_icmp_ge (tgt := 115) dX7_readItem_56 (by decide) (fun c22 => ?_) (fun c22 => ?_)
  · refine am_aload_n 0 dX7_readItem_115 rfl rfl ?_
    refine am_aload_n 1 dX7_readItem_116 rfl rfl ?_
    refine am_iload_n 2 dX7_readItem_117 rfl rfl ?_
    refine am_iload 3 dX7_readItem_118 rfl ?_
    refine am_callVv 6 [.ref x1, .int x3, .int x4] (CX7_put G x0 x1 x3 x4 M h_x0 h_x1) dX7_readItem_120 mb_yX7_put ⟨ml_RX7_63, im_yX7_put, se_yX7_put⟩ rfl h_x0 (by decide) rfl rfl (Nat.le_of_ble_eq_true rfl) (fun M24 q23 w26 l25 => ?_)
    refine am_iconst dX7_readItem_123 am_kc_0 ?_
    exact am_iret dX7_readItem_124
  · refine am_aload_n 0 dX7_readItem_59 rfl rfl ?_
    refine am_iload 5 dX7_readItem_60 rfl ?_
    refine am_iload 5 dX7_readItem_62 rfl ?_
    refine am_iload 4 dX7_readItem_64 rfl ?_
    refine am_iconst dX7_readItem_66 am_kc_1 ?_
    refine am_isub dX7_readItem_67 ?_
    refine am_icmp_ge (tgt := 76) dX7_readItem_68 (by decide) (fun c28 => ?_) (fun c28 => ?_)
    · refine am_bipush (x := 59) dX7_readItem_76 (by decide) ?_
      exact sX7_readItem_78 G k52 hk52 x0 x1 x3 x4 x5 x6 59 x6 x0 M h_x0 h_x1 h_x0
    · refine am_bipush (x := 44) dX7_readItem_71 (by decide) ?_
      refine am_goto (tgt := 78) dX7_readItem_73 (by decide) ?_
      exact sX7_readItem_78 G k52 hk52 x0 x1 x3 x4 x5 x6 44 x6 x0 M h_x0 h_x1 h_x0
set_option maxRecDepth 100000 in
set_option maxHeartbeats 4000000 in
theorem lX7_readItem_52 (G : am_G) (n : Nat) (q : (Nat × Nat × Int32 × Int32 × Int32 × Int32 × am_M)) (hq : match q with | (x0, x1, x3, x4, x5, x6, M) => am_sh M x0 11 ∧ am_sh M x1 9) : match q with | (x0, x1, x3, x4, x5, x6, M) => am_S am_ei G 3 yX7_readItem.cls yX7_readItem.name cX7_readItem 8 (some FieldType.int) 52 [(0, .ref x0), (1, .ref x1), (3, .int x3), (4, .int x4), (5, .int x5), (6, .int x6)] [] M (am_loop (fX7_readItem_52) n (x0, x1, x3, x4, x5, x6, M)) := by
  exact am_loop_ok (fun q : (Nat × Nat × Int32 × Int32 × Int32 × Int32 × am_M) => match q with | (x0, x1, x3, x4, x5, x6, M) => am_sh M x0 11 ∧ am_sh M x1 9) (fun q X => match q with | (x0, x1, x3, x4, x5, x6, M) => am_S am_ei G 3 yX7_readItem.cls yX7_readItem.name cX7_readItem 8 (some FieldType.int) 52 [(0, .ref x0), (1, .ref x1), (3, .int x3), (4, .int x4), (5, .int x5), (6, .int x6)] [] M X) (fun _ => am_none) (fun k52 hk52 q hq => match q, hq with | (x0, x1, x3, x4, x5, x6, M), ⟨h_x0, h_x1⟩ => sX7_readItem_52 G k52 hk52 x0 x1 x3 x4 x5 x6 M h_x0 h_x1) n q hq
set_option maxRecDepth 100000 in
set_option maxHeartbeats 4000000 in
theorem sX7_readItem_47 (G : am_G) (x0 : Nat) (x1 : Nat) (x3 : Int32) (x4 : Int32) (s0 : Int32) (M : am_M) (h_x0 : am_sh M x0 11) (h_x1 : am_sh M x1 9) : am_S am_ei G 3 yX7_readItem.cls yX7_readItem.name cX7_readItem 8 (some FieldType.int) 47 [(0, .ref x0), (1, .ref x1), (3, .int x3), (4, .int x4)] [.int s0] M (fX7_readItem_47 x0 x1 x3 x4 s0 M) := by
  show am_S am_ei G 3 yX7_readItem.cls yX7_readItem.name cX7_readItem 8 (some FieldType.int) 47 [(0, .ref x0), (1, .ref x1), (3, .int x3), (4, .int x4)] [.int s0] M (am_loop (fX7_readItem_52) 100000 (x0, x1, x3, x4, s0, 0, M))
  refine am_istore (L' := [(5, .int s0), (0, .ref x0), (1, .ref x1), (3, .int x3), (4, .int x4)]) dX7_readItem_47 (by decide) rfl ?_
  refine am_iconst dX7_readItem_49 am_kc_0 ?_
  refine am_istore (L' := [(6, .int 0), (5, .int s0), (0, .ref x0), (1, .ref x1), (3, .int x3), (4, .int x4)]) dX7_readItem_50 (by decide) rfl ?_
  refine am_sub [2, 3, 4, 5, 1, 0] rfl ?_
  exact lX7_readItem_52 G 100000 (x0, x1, x3, x4, s0, 0, M) ⟨h_x0, h_x1⟩
set_option maxRecDepth 100000 in
set_option maxHeartbeats 4000000 in
theorem sX7_readItem_0 (G : am_G) (a0 : Nat) (a1 : Nat) (a2 : Int32) (M : am_M) (h_a0 : am_sh M a0 11) (h_a1 : am_sh M a1 9) : am_S am_ei G 3 yX7_readItem.cls yX7_readItem.name cX7_readItem 8 (some FieldType.int) 0 [(0, .ref a0), (1, .ref a1), (2, .int a2)] [] M (fX7_readItem a0 a1 a2 M) := by
  show am_S am_ei G 3 yX7_readItem.cls yX7_readItem.name cX7_readItem 8 (some FieldType.int) 0 [(0, .ref a0), (1, .ref a1), (2, .int a2)] [] M ((fX7_letterHere a0 M).bind fun p6 => (fX7_readKind a0 p6.2).bind fun p12 => (fX7_mayStand a0 a1 p12.1 a2 p12.2).bind fun p18 => if p18.1 = 0 then some (1, p18.2) else if p12.1 = 98 then fX7_readItem_47 a0 a1 p6.1 p12.1 4 p18.2 else if p12.1 = 100 then fX7_readItem_47 a0 a1 p6.1 p12.1 3 p18.2 else fX7_readItem_47 a0 a1 p6.1 p12.1 2 p18.2)
  refine am_aload_n 0 dX7_readItem_0 rfl rfl ?_
  refine am_callVi 6 [] (CX7_letterHere G a0 M h_a0) dX7_readItem_1 mb_yX7_letterHere ⟨ml_RX7_45, im_yX7_letterHere, se_yX7_letterHere⟩ rfl h_a0 (by decide) rfl rfl (Nat.le_of_ble_eq_true rfl) (fun v5 M2 q1 w4 l3 => ?_)
  refine am_istore_n (L' := [(3, .int v5), (0, .ref a0), (1, .ref a1), (2, .int a2)]) dX7_readItem_4 rfl (by decide) rfl ?_
  refine am_aload_n 1 dX7_readItem_5 rfl rfl ?_
  refine am_callVi 6 [] (CX7_readKind G a0 M2 (am_sh.mono l3 h_a0)) dX7_readItem_6 mb_yX7_readKind ⟨ml_RX7_49, im_yX7_readKind, se_yX7_readKind⟩ rfl (am_sh.mono l3 h_a0) (by decide) rfl rfl (Nat.le_of_ble_eq_true rfl) (fun v11 M8 q7 w10 l9 => ?_)
  refine am_istore (L' := [(4, .int v11), (3, .int v5), (0, .ref a0), (1, .ref a1), (2, .int a2)]) dX7_readItem_9 (by decide) rfl ?_
  refine am_aload_n 2 dX7_readItem_11 rfl rfl ?_
  refine am_aload_n 3 dX7_readItem_12 rfl rfl ?_
  refine am_iload 0 dX7_readItem_13 rfl ?_
  refine am_iload_n 4 dX7_readItem_15 rfl rfl ?_
  refine am_callVi 6 [.ref a1, .int v11, .int a2] (CX7_mayStand G a0 a1 v11 a2 M8 (am_sh.mono l9 (am_sh.mono l3 h_a0)) (am_sh.mono l9 (am_sh.mono l3 h_a1))) dX7_readItem_16 mb_yX7_mayStand ⟨ml_RX7_52, im_yX7_mayStand, se_yX7_mayStand⟩ rfl (am_sh.mono l9 (am_sh.mono l3 h_a0)) (by decide) rfl rfl (Nat.le_of_ble_eq_true rfl) (fun v17 M14 q13 w16 l15 => ?_)
  refine am_if_ne (tgt := 24) dX7_readItem_19 (by decide) (fun c19 => ?_) (fun c19 => ?_)
  · refine am_iload 0 dX7_readItem_24 rfl ?_
    refine am_bipush (x := 98) dX7_readItem_26 (by decide) ?_
    refine am_icmp_ne (tgt := 35) dX7_readItem_28 (by decide) (fun c20 => ?_) (fun c20 => ?_)
    · refine am_iload 0 dX7_readItem_35 rfl ?_
      refine am_bipush (x := 100) dX7_readItem_37 (by decide) ?_
      refine am_icmp_ne (tgt := 46) dX7_readItem_39 (by decide) (fun c21 => ?_) (fun c21 => ?_)
      · refine am_iconst dX7_readItem_46 am_kc_2 ?_
        refine am_sub [2, 3, 1, 0] rfl ?_
        exact sX7_readItem_47 G a0 a1 v5 v11 2 M14 (am_sh.mono l15 (am_sh.mono l9 (am_sh.mono l3 h_a0))) (am_sh.mono l15 (am_sh.mono l9 (am_sh.mono l3 h_a1)))
      · refine am_iconst dX7_readItem_42 am_kc_3 ?_
        refine am_goto (tgt := 47) dX7_readItem_43 (by decide) ?_
        refine am_sub [2, 3, 1, 0] rfl ?_
        exact sX7_readItem_47 G a0 a1 v5 v11 3 M14 (am_sh.mono l15 (am_sh.mono l9 (am_sh.mono l3 h_a0))) (am_sh.mono l15 (am_sh.mono l9 (am_sh.mono l3 h_a1)))
    · refine am_iconst dX7_readItem_31 am_kc_4 ?_
      refine am_goto (tgt := 47) dX7_readItem_32 (by decide) ?_
      refine am_sub [2, 3, 1, 0] rfl ?_
      exact sX7_readItem_47 G a0 a1 v5 v11 4 M14 (am_sh.mono l15 (am_sh.mono l9 (am_sh.mono l3 h_a0))) (am_sh.mono l15 (am_sh.mono l9 (am_sh.mono l3 h_a1)))
  · refine am_iconst dX7_readItem_22 am_kc_1 ?_
    exact am_iret dX7_readItem_23
theorem CX7_readItem (G : am_G) (a0 : Nat) (a1 : Nat) (a2 : Int32) (M : am_M) (h_a0 : am_sh M a0 11) (h_a1 : am_sh M a1 9) : am_C am_ei G 3 yX7_readItem cX7_readItem 8 (some FieldType.int) [.ref a0, .ref a1, .int a2] M (fX7_readItem a0 a1 a2 M) :=
  am_meth (by decide) rfl (Nat.le_of_ble_eq_true rfl) (sX7_readItem_0 G a0 a1 a2 M h_a0 h_a1)
def fX7_blame_36 (x0 : Nat) (x2 : Int32) (x3 : Int32) (s0 : Int32) (s1 : Int32) (s2 : Nat) (M : am_M) : Option am_M := if s1 < 0 ∨ am_len M s2 ≤ s1.toNatClampNeg then none else ((am_pI M s2 s1.toNatClampNeg s0).2.2.1 x0 2).bind fun r11 => if (2 : Int32) < 0 ∨ am_len (am_pI M s2 s1.toNatClampNeg s0) r11 ≤ (2 : Int32).toNatClampNeg then none else if x3 = 0 then some (am_pI (am_pI (am_pI M s2 s1.toNatClampNeg s0) r11 ((2 : Int32).toNatClampNeg) x2) x0 4 2) else some (am_pI (am_pI (am_pI M s2 s1.toNatClampNeg s0) r11 ((2 : Int32).toNatClampNeg) x2) x0 4 3)
def fX7_blame_11 (x0 : Nat) (x1 : Int32) (x2 : Int32) (s0 : Int32) (M : am_M) : Option am_M := (M.2.2.1 x0 2).bind fun r2 => if (0 : Int32) < 0 ∨ am_len M r2 ≤ (0 : Int32).toNatClampNeg then none else ((am_pI M r2 ((0 : Int32).toNatClampNeg) (100 + x1)).2.2.1 x0 2).bind fun r6 => if s0 = 0 then fX7_blame_36 x0 x2 s0 x2 1 r6 (am_pI M r2 ((0 : Int32).toNatClampNeg) (100 + x1)) else fX7_blame_36 x0 x2 s0 4 1 r6 (am_pI M r2 ((0 : Int32).toNatClampNeg) (100 + x1))
def fX7_blame (a0 : Nat) (a1 : Int32) (a2 : Int32) (M : am_M) : Option am_M := if a2 < 20 then fX7_blame_11 a0 a1 a2 0 M else fX7_blame_11 a0 a1 a2 1 M
set_option maxRecDepth 100000 in
set_option maxHeartbeats 4000000 in
theorem sX7_blame_36 (G : am_G) (x0 : Nat) (x2 : Int32) (x3 : Int32) (s0 : Int32) (s1 : Int32) (s2 : Nat) (M : am_M) (h_x0 : am_sh M x0 11) (h_s2 : am_sh M s2 0) : am_S am_ev G 0 yX7_blame.cls yX7_blame.name cX7_blame 4 none 36 [(0, .ref x0), (2, .int x2), (3, .int x3)] [.int s0, .int s1, .ref s2] M (fX7_blame_36 x0 x2 x3 s0 s1 s2 M) := by
  show am_S am_ev G 0 yX7_blame.cls yX7_blame.name cX7_blame 4 none 36 [(0, .ref x0), (2, .int x2), (3, .int x3)] [.int s0, .int s1, .ref s2] M (if s1 < 0 ∨ am_len M s2 ≤ s1.toNatClampNeg then none else ((am_pI M s2 s1.toNatClampNeg s0).2.2.1 x0 2).bind fun r11 => if (2 : Int32) < 0 ∨ am_len (am_pI M s2 s1.toNatClampNeg s0) r11 ≤ (2 : Int32).toNatClampNeg then none else if x3 = 0 then some (am_pI (am_pI (am_pI M s2 s1.toNatClampNeg s0) r11 ((2 : Int32).toNatClampNeg) x2) x0 4 2) else some (am_pI (am_pI (am_pI M s2 s1.toNatClampNeg s0) r11 ((2 : Int32).toNatClampNeg) x2) x0 4 3))
  refine am_iast dX7_blame_36 h_s2 (fun b10 => ?_)
  refine am_aload_n 0 dX7_blame_37 rfl rfl ?_
  refine am_getR 6 dX7_blame_38 fl_RX7_19 (am_sh.of h_x0 rfl) rfl (fun r11 e12 h13 => ?_)
  refine am_iconst dX7_blame_41 am_kc_2 ?_
  refine am_iload_n 1 dX7_blame_42 rfl rfl ?_
  refine am_iast dX7_blame_43 (am_sh.of (am_sh.of (M := am_pI M s2 s1.toNatClampNeg s0) h13 rfl) rfl) (fun b14 => ?_)
  refine am_aload_n 0 dX7_blame_44 rfl rfl ?_
  refine am_iload_n 2 dX7_blame_45 rfl rfl ?_
  refine am_if_eq (tgt := 53) dX7_blame_46 (by decide) (fun c15 => ?_) (fun c15 => ?_)
  · refine am_iconst dX7_blame_53 am_kc_2 ?_
    refine am_putI 6 dX7_blame_54 fl_RX7_26 (am_sh.of h_x0 rfl) rfl rfl rfl rfl ?_
    exact am_vret dX7_blame_57
  · refine am_iconst dX7_blame_49 am_kc_3 ?_
    refine am_goto (tgt := 54) dX7_blame_50 (by decide) ?_
    refine am_putI 6 dX7_blame_54 fl_RX7_26 (am_sh.of h_x0 rfl) rfl rfl rfl rfl ?_
    exact am_vret dX7_blame_57
set_option maxRecDepth 100000 in
set_option maxHeartbeats 4000000 in
theorem sX7_blame_11 (G : am_G) (x0 : Nat) (x1 : Int32) (x2 : Int32) (s0 : Int32) (M : am_M) (h_x0 : am_sh M x0 11) : am_S am_ev G 0 yX7_blame.cls yX7_blame.name cX7_blame 4 none 11 [(0, .ref x0), (1, .int x1), (2, .int x2)] [.int s0] M (fX7_blame_11 x0 x1 x2 s0 M) := by
  show am_S am_ev G 0 yX7_blame.cls yX7_blame.name cX7_blame 4 none 11 [(0, .ref x0), (1, .int x1), (2, .int x2)] [.int s0] M ((M.2.2.1 x0 2).bind fun r2 => if (0 : Int32) < 0 ∨ am_len M r2 ≤ (0 : Int32).toNatClampNeg then none else ((am_pI M r2 ((0 : Int32).toNatClampNeg) (100 + x1)).2.2.1 x0 2).bind fun r6 => if s0 = 0 then fX7_blame_36 x0 x2 s0 x2 1 r6 (am_pI M r2 ((0 : Int32).toNatClampNeg) (100 + x1)) else fX7_blame_36 x0 x2 s0 4 1 r6 (am_pI M r2 ((0 : Int32).toNatClampNeg) (100 + x1)))
  refine am_istore_n (L' := [(3, .int s0), (0, .ref x0), (1, .int x1), (2, .int x2)]) dX7_blame_11 rfl (by decide) rfl ?_
  refine am_aload_n 1 dX7_blame_12 rfl rfl ?_
  refine am_getR 6 dX7_blame_13 fl_RX7_19 h_x0 rfl (fun r2 e3 h4 => ?_)
  refine am_iconst dX7_blame_16 am_kc_0 ?_
  refine am_bipush (x := 100) dX7_blame_17 (by decide) ?_
  refine am_iload_n 2 dX7_blame_19 rfl rfl ?_
  refine am_iadd dX7_blame_20 ?_
  refine am_iast dX7_blame_21 h4 (fun b5 => ?_)
  refine am_aload_n 1 dX7_blame_22 rfl rfl ?_
  refine am_getR 6 dX7_blame_23 fl_RX7_19 (am_sh.of h_x0 rfl) rfl (fun r6 e7 h8 => ?_)
  refine am_iconst dX7_blame_26 am_kc_1 ?_
  refine am_iload_n 0 dX7_blame_27 rfl rfl ?_
  refine am_if_eq (tgt := 35) dX7_blame_28 (by decide) (fun c9 => ?_) (fun c9 => ?_)
  · refine am_iload_n 3 dX7_blame_35 rfl rfl ?_
    refine am_sub [1, 3, 0] rfl ?_
    exact sX7_blame_36 G x0 x2 s0 x2 1 r6 (am_pI M r2 ((0 : Int32).toNatClampNeg) (100 + x1)) (am_sh.of h_x0 rfl) (am_sh.of (am_sh.of (M := am_pI M r2 ((0 : Int32).toNatClampNeg) (100 + x1)) h8 rfl) rfl)
  · refine am_iconst dX7_blame_31 am_kc_4 ?_
    refine am_goto (tgt := 36) dX7_blame_32 (by decide) ?_
    refine am_sub [1, 3, 0] rfl ?_
    exact sX7_blame_36 G x0 x2 s0 4 1 r6 (am_pI M r2 ((0 : Int32).toNatClampNeg) (100 + x1)) (am_sh.of h_x0 rfl) (am_sh.of (am_sh.of (M := am_pI M r2 ((0 : Int32).toNatClampNeg) (100 + x1)) h8 rfl) rfl)
set_option maxRecDepth 100000 in
set_option maxHeartbeats 4000000 in
theorem sX7_blame_0 (G : am_G) (a0 : Nat) (a1 : Int32) (a2 : Int32) (M : am_M) (h_a0 : am_sh M a0 11) : am_S am_ev G 0 yX7_blame.cls yX7_blame.name cX7_blame 4 none 0 [(0, .ref a0), (1, .int a1), (2, .int a2)] [] M (fX7_blame a0 a1 a2 M) := by
  show am_S am_ev G 0 yX7_blame.cls yX7_blame.name cX7_blame 4 none 0 [(0, .ref a0), (1, .int a1), (2, .int a2)] [] M (if a2 < 20 then fX7_blame_11 a0 a1 a2 0 M else fX7_blame_11 a0 a1 a2 1 M)
  refine am_iload_n 2 dX7_blame_0 rfl rfl ?_
  refine am_bipush (x := 20) dX7_blame_1 (by decide) ?_
  refine am_icmp_lt (tgt := 10) dX7_blame_3 (by decide) (fun c1 => ?_) (fun c1 => ?_)
  · refine am_iconst dX7_blame_10 am_kc_0 ?_
    exact sX7_blame_11 G a0 a1 a2 0 M h_a0
  · refine am_iconst dX7_blame_6 am_kc_1 ?_
    refine am_goto (tgt := 11) dX7_blame_7 (by decide) ?_
    exact sX7_blame_11 G a0 a1 a2 1 M h_a0
theorem CX7_blame (G : am_G) (a0 : Nat) (a1 : Int32) (a2 : Int32) (M : am_M) (h_a0 : am_sh M a0 11) : am_C am_ev G 0 yX7_blame cX7_blame 4 none [.ref a0, .int a1, .int a2] M (fX7_blame a0 a1 a2 M) :=
  am_meth (by decide) rfl (Nat.le_of_ble_eq_true rfl) (sX7_blame_0 G a0 a1 a2 M h_a0)
def fX7_readInto_18 : ((Nat × Nat × Int32 × am_M) → Option (Int32 × am_M)) → (Nat × Nat × Int32 × am_M) → Option (Int32 × am_M) := fun k18 q0 => match q0 with
  | (x0, x1, x2, M) => if (200 : Int32) ≤ x2 then some ((-4), M) else if M.1 x0 3 ≤ M.1 x0 5 then some ((-4), M) else (fX7_readItem x0 x1 x2 M).bind fun p13 => if p13.1 = 0 then k18 (x0, x1, x2 + 1, p13.2) else (fX7_blame x0 x2 p13.1 p13.2).bind fun M16 => some (M.1 x0 5, M16)
def fX7_readInto (a0 : Nat) (a1 : Nat) (M : am_M) : Option (Int32 × am_M) := (fX5_begin a1 1 0 M).bind fun M2 => am_loop (fX7_readInto_18) 100000 (a0, a1, 0, am_pI (am_pI M2 a0 4 0) a0 5 0)
set_option maxRecDepth 100000 in
set_option maxHeartbeats 4000000 in
theorem sX7_readInto_18 (G : am_G) (k18 : (Nat × Nat × Int32 × am_M) → Option (Int32 × am_M)) (hk18 : ∀ q : (Nat × Nat × Int32 × am_M), (match q with | (x0, x1, x2, M) => am_sh M x0 11 ∧ am_sh M x1 9) → match q with | (x0, x1, x2, M) => am_S am_ei G 4 yX7_readInto.cls yX7_readInto.name cX7_readInto 5 (some FieldType.int) 18 [(0, .ref x0), (1, .ref x1), (2, .int x2)] [] M (k18 (x0, x1, x2, M))) (x0 : Nat) (x1 : Nat) (x2 : Int32) (M : am_M) (h_x0 : am_sh M x0 11) (h_x1 : am_sh M x1 9) : am_S am_ei G 4 yX7_readInto.cls yX7_readInto.name cX7_readInto 5 (some FieldType.int) 18 [(0, .ref x0), (1, .ref x1), (2, .int x2)] [] M (fX7_readInto_18 k18 (x0, x1, x2, M)) := by
  show am_S am_ei G 4 yX7_readInto.cls yX7_readInto.name cX7_readInto 5 (some FieldType.int) 18 [(0, .ref x0), (1, .ref x1), (2, .int x2)] [] M (if (200 : Int32) ≤ x2 then some ((-4), M) else if M.1 x0 3 ≤ M.1 x0 5 then some ((-4), M) else (fX7_readItem x0 x1 x2 M).bind fun p13 => if p13.1 = 0 then k18 (x0, x1, x2 + 1, p13.2) else (fX7_blame x0 x2 p13.1 p13.2).bind fun M16 => some (M.1 x0 5, M16))
  refine am_iload_n 2 dX7_readInto_18 rfl rfl ?_
  refine am_sipush (x := 200) dX7_readInto_19 (by decide) ?_
  refine am_icmp_ge (tgt := 69) dX7_readInto_22 (by decide) (fun c6 => ?_) (fun c6 => ?_)
  · refine am_bipush (x := -4) dX7_readInto_69 (by decide) ?_
    exact am_iret dX7_readInto_71
  · refine am_aload_n 0 dX7_readInto_25 rfl rfl ?_
    refine am_getI 6 dX7_readInto_26 fl_RX7_35 h_x0 rfl ?_
    refine am_aload_n 0 dX7_readInto_29 rfl rfl ?_
    refine am_getI 6 dX7_readInto_30 fl_RX7_22 h_x0 rfl ?_
    refine am_icmp_ge (tgt := 69) dX7_readInto_33 (by decide) (fun c7 => ?_) (fun c7 => ?_)
    · refine am_bipush (x := -4) dX7_readInto_69 (by decide) ?_
      exact am_iret dX7_readInto_71
    · refine am_aload_n 0 dX7_readInto_36 rfl rfl ?_
      refine am_getI 6 dX7_readInto_37 fl_RX7_35 h_x0 rfl ?_
      refine am_istore_n (L' := [(3, .int (M.1 x0 5)), (0, .ref x0), (1, .ref x1), (2, .int x2)]) dX7_readInto_40 rfl (by decide) rfl ?_
      refine am_aload_n 1 dX7_readInto_41 rfl rfl ?_
      refine am_aload_n 2 dX7_readInto_42 rfl rfl ?_
      refine am_iload_n 3 dX7_readInto_43 rfl rfl ?_
      refine am_callVi 6 [.ref x1, .int x2] (CX7_readItem G x0 x1 x2 M h_x0 h_x1) dX7_readInto_44 mb_yX7_readItem ⟨ml_RX7_38, im_yX7_readItem, se_yX7_readItem⟩ rfl h_x0 (by decide) rfl rfl (Nat.le_of_ble_eq_true rfl) (fun v12 M9 q8 w11 l10 => ?_)
      refine am_istore (L' := [(4, .int v12), (3, .int (M.1 x0 5)), (0, .ref x0), (1, .ref x1), (2, .int x2)]) dX7_readInto_47 (by decide) rfl ?_
      refine am_iload 0 dX7_readInto_49 rfl ?_
      refine am_if_eq (tgt := 63) dX7_readInto_51 (by decide) (fun c14 => ?_) (fun c14 => ?_)
      · refine am_iinc (L' := [(2, .int (x2 + 1)), (4, .int v12), (3, .int (M.1 x0 5)), (0, .ref x0), (1, .ref x1)]) 4 dX7_readInto_63 rfl (by rfl) (by decide) rfl ?_
        refine am_goto (tgt := 18) dX7_readInto_66 (by decide) ?_
        refine am_sub [3, 4, 0] rfl ?_
        exact hk18 (x0, x1, x2 + 1, M9) ⟨(am_sh.mono l10 h_x0), (am_sh.mono l10 h_x1)⟩
      · refine am_aload_n 2 dX7_readInto_54 rfl rfl ?_
        refine am_iload_n 4 dX7_readInto_55 rfl rfl ?_
        refine am_iload 0 dX7_readInto_56 rfl ?_
        refine am_callVv 6 [.int x2, .int v12] (CX7_blame G x0 x2 v12 M9 (am_sh.mono l10 h_x0)) dX7_readInto_58 mb_yX7_blame ⟨ml_RX7_42, im_yX7_blame, se_yX7_blame⟩ rfl (am_sh.mono l10 h_x0) (by decide) rfl rfl (Nat.le_of_ble_eq_true rfl) (fun M16 q15 w18 l17 => ?_)
        refine am_iload_n 1 dX7_readInto_61 rfl rfl ?_
        exact am_iret dX7_readInto_62
set_option maxRecDepth 100000 in
set_option maxHeartbeats 4000000 in
theorem lX7_readInto_18 (G : am_G) (n : Nat) (q : (Nat × Nat × Int32 × am_M)) (hq : match q with | (x0, x1, x2, M) => am_sh M x0 11 ∧ am_sh M x1 9) : match q with | (x0, x1, x2, M) => am_S am_ei G 4 yX7_readInto.cls yX7_readInto.name cX7_readInto 5 (some FieldType.int) 18 [(0, .ref x0), (1, .ref x1), (2, .int x2)] [] M (am_loop (fX7_readInto_18) n (x0, x1, x2, M)) := by
  exact am_loop_ok (fun q : (Nat × Nat × Int32 × am_M) => match q with | (x0, x1, x2, M) => am_sh M x0 11 ∧ am_sh M x1 9) (fun q X => match q with | (x0, x1, x2, M) => am_S am_ei G 4 yX7_readInto.cls yX7_readInto.name cX7_readInto 5 (some FieldType.int) 18 [(0, .ref x0), (1, .ref x1), (2, .int x2)] [] M X) (fun _ => am_none) (fun k18 hk18 q hq => match q, hq with | (x0, x1, x2, M), ⟨h_x0, h_x1⟩ => sX7_readInto_18 G k18 hk18 x0 x1 x2 M h_x0 h_x1) n q hq
set_option maxRecDepth 100000 in
set_option maxHeartbeats 4000000 in
theorem sX7_readInto_0 (G : am_G) (a0 : Nat) (a1 : Nat) (M : am_M) (h_a0 : am_sh M a0 11) (h_a1 : am_sh M a1 9) : am_S am_ei G 4 yX7_readInto.cls yX7_readInto.name cX7_readInto 5 (some FieldType.int) 0 [(0, .ref a0), (1, .ref a1)] [] M (fX7_readInto a0 a1 M) := by
  show am_S am_ei G 4 yX7_readInto.cls yX7_readInto.name cX7_readInto 5 (some FieldType.int) 0 [(0, .ref a0), (1, .ref a1)] [] M ((fX5_begin a1 1 0 M).bind fun M2 => am_loop (fX7_readInto_18) 100000 (a0, a1, 0, am_pI (am_pI M2 a0 4 0) a0 5 0))
  refine am_aload_n 1 dX7_readInto_0 rfl rfl ?_
  refine am_iconst dX7_readInto_1 am_kc_1 ?_
  refine am_iconst dX7_readInto_2 am_kc_0 ?_
  refine am_callVv 4 [.int 1, .int 0] (CX5_begin G a1 1 0 M h_a1) dX7_readInto_3 mb_yX5_begin ⟨ml_RX7_29, im_yX5_begin, se_yX5_begin⟩ rfl h_a1 (by decide) rfl rfl (Nat.le_of_ble_eq_true rfl) (fun M2 q1 w4 l3 => ?_)
  refine am_aload_n 0 dX7_readInto_6 rfl rfl ?_
  refine am_iconst dX7_readInto_7 am_kc_0 ?_
  refine am_putI 6 dX7_readInto_8 fl_RX7_26 (am_sh.mono l3 h_a0) rfl rfl rfl rfl ?_
  refine am_aload_n 0 dX7_readInto_11 rfl rfl ?_
  refine am_iconst dX7_readInto_12 am_kc_0 ?_
  refine am_putI 6 dX7_readInto_13 fl_RX7_35 (am_sh.of (am_sh.mono l3 h_a0) rfl) rfl rfl rfl rfl ?_
  refine am_iconst dX7_readInto_16 am_kc_0 ?_
  refine am_istore_n (L' := [(2, .int 0), (0, .ref a0), (1, .ref a1)]) dX7_readInto_17 rfl (by decide) rfl ?_
  refine am_sub [1, 2, 0] rfl ?_
  exact lX7_readInto_18 G 100000 (a0, a1, 0, am_pI (am_pI M2 a0 4 0) a0 5 0) ⟨(am_sh.of (am_sh.mono l3 h_a0) rfl), (am_sh.of (am_sh.mono l3 h_a1) rfl)⟩
theorem CX7_readInto (G : am_G) (a0 : Nat) (a1 : Nat) (M : am_M) (h_a0 : am_sh M a0 11) (h_a1 : am_sh M a1 9) : am_C am_ei G 4 yX7_readInto cX7_readInto 5 (some FieldType.int) [.ref a0, .ref a1] M (fX7_readInto a0 a1 M) :=
  am_meth (by decide) rfl (Nat.le_of_ble_eq_true rfl) (sX7_readInto_0 G a0 a1 M h_a0 h_a1)
def fX9_write (a0 : Nat) (a1 : Int32) (M : am_M) : Option (Int32 × am_M) := if a1 < 32 then some ((-1), M) else if a1 ≤ 126 then (M.2.2.1 a0 0).bind fun r3 => (fX7_append r3 ((a1.toUInt32 % 65536).toInt32) M).bind fun p11 => if p11.1 = 0 then some ((-3), p11.2) else (p11.2.2.2.1 a0 0).bind fun r13 => some (p11.2.1 r13 3, p11.2) else some ((-1), M)
set_option maxRecDepth 100000 in
set_option maxHeartbeats 4000000 in
theorem sX9_write_0 (G : am_G) (a0 : Nat) (a1 : Int32) (M : am_M) (h_a0 : am_sh M a0 13) : am_S am_ei G 1 yX9_write.cls yX9_write.name cX9_write 2 (some FieldType.int) 0 [(0, .ref a0), (1, .int a1)] [] M (fX9_write a0 a1 M) := by
  show am_S am_ei G 1 yX9_write.cls yX9_write.name cX9_write 2 (some FieldType.int) 0 [(0, .ref a0), (1, .int a1)] [] M (if a1 < 32 then some ((-1), M) else if a1 ≤ 126 then (M.2.2.1 a0 0).bind fun r3 => (fX7_append r3 ((a1.toUInt32 % 65536).toInt32) M).bind fun p11 => if p11.1 = 0 then some ((-3), p11.2) else (p11.2.2.2.1 a0 0).bind fun r13 => some (p11.2.1 r13 3, p11.2) else some ((-1), M))
  refine am_iload_n 1 dX9_write_0 rfl rfl ?_
  refine am_bipush (x := 32) dX9_write_1 (by decide) ?_
  refine am_icmp_lt (tgt := 12) dX9_write_3 (by decide) (fun c1 => ?_) (fun c1 => ?_)
  · refine am_iconst dX9_write_12 am_kc_m1 ?_
    exact am_iret dX9_write_13
  · refine am_iload_n 1 dX9_write_6 rfl rfl ?_
    refine am_bipush (x := 126) dX9_write_7 (by decide) ?_
    refine am_icmp_le (tgt := 14) dX9_write_9 (by decide) (fun c2 => ?_) (fun c2 => ?_)
    · refine am_aload_n 0 dX9_write_14 rfl rfl ?_
      refine am_getR 8 dX9_write_15 fl_RX9_10 h_a0 rfl (fun r3 e4 h5 => ?_)
      refine am_iload_n 1 dX9_write_18 rfl rfl ?_
      refine am_i2c dX9_write_19 ?_
      refine am_callVi 6 [.int ((a1.toUInt32 % 65536).toInt32)] (CX7_append G r3 ((a1.toUInt32 % 65536).toInt32) M h5) dX9_write_20 mb_yX7_append ⟨ml_RX9_45, im_yX7_append, se_yX7_append⟩ rfl h5 (by decide) rfl rfl (Nat.le_of_ble_eq_true rfl) (fun v10 M7 q6 w9 l8 => ?_)
      refine am_if_eq (tgt := 36) dX9_write_23 (by decide) (fun c12 => ?_) (fun c12 => ?_)
      · refine am_bipush (x := -3) dX9_write_36 (by decide) ?_
        exact am_iret dX9_write_38
      · refine am_aload_n 0 dX9_write_26 rfl rfl ?_
        refine am_getR 8 dX9_write_27 fl_RX9_10 (am_sh.mono l8 h_a0) rfl (fun r13 e14 h15 => ?_)
        refine am_getI 6 dX9_write_30 fl_RX9_56 h15 rfl ?_
        refine am_goto (tgt := 38) dX9_write_33 (by decide) ?_
        exact am_iret dX9_write_38
    · refine am_iconst dX9_write_12 am_kc_m1 ?_
      exact am_iret dX9_write_13
theorem CX9_write (G : am_G) (a0 : Nat) (a1 : Int32) (M : am_M) (h_a0 : am_sh M a0 13) : am_C am_ei G 1 yX9_write cX9_write 2 (some FieldType.int) [.ref a0, .int a1] M (fX9_write a0 a1 M) :=
  am_meth (by decide) rfl (Nat.le_of_ble_eq_true rfl) (sX9_write_0 G a0 a1 M h_a0)
def fX9_wipe (a0 : Nat) (M : am_M) : Option (Int32 × am_M) := (M.2.2.1 a0 0).bind fun r1 => (M.2.2.1 a0 0).bind fun r4 => (fX7_clear r4 M).bind fun M8 => some (M.1 r1 3, M8)
set_option maxRecDepth 100000 in
set_option maxHeartbeats 4000000 in
theorem sX9_wipe_0 (G : am_G) (a0 : Nat) (M : am_M) (h_a0 : am_sh M a0 13) : am_S am_ei G 1 yX9_wipe.cls yX9_wipe.name cX9_wipe 2 (some FieldType.int) 0 [(0, .ref a0)] [] M (fX9_wipe a0 M) := by
  show am_S am_ei G 1 yX9_wipe.cls yX9_wipe.name cX9_wipe 2 (some FieldType.int) 0 [(0, .ref a0)] [] M ((M.2.2.1 a0 0).bind fun r1 => (M.2.2.1 a0 0).bind fun r4 => (fX7_clear r4 M).bind fun M8 => some (M.1 r1 3, M8))
  refine am_aload_n 0 dX9_wipe_0 rfl rfl ?_
  refine am_getR 8 dX9_wipe_1 fl_RX9_10 h_a0 rfl (fun r1 e2 h3 => ?_)
  refine am_getI 6 dX9_wipe_4 fl_RX9_56 h3 rfl ?_
  refine am_istore_n (L' := [(1, .int (M.1 r1 3)), (0, .ref a0)]) dX9_wipe_7 rfl (by decide) rfl ?_
  refine am_aload_n 1 dX9_wipe_8 rfl rfl ?_
  refine am_getR 8 dX9_wipe_9 fl_RX9_10 h_a0 rfl (fun r4 e5 h6 => ?_)
  refine am_callVv 6 [] (CX7_clear G r4 M h6) dX9_wipe_12 mb_yX7_clear ⟨ml_RX9_53, im_yX7_clear, se_yX7_clear⟩ rfl h6 (by decide) rfl rfl (Nat.le_of_ble_eq_true rfl) (fun M8 q7 w10 l9 => ?_)
  refine am_iload_n 0 dX9_wipe_15 rfl rfl ?_
  exact am_iret dX9_wipe_16
theorem CX9_wipe (G : am_G) (a0 : Nat) (M : am_M) (h_a0 : am_sh M a0 13) : am_C am_ei G 1 yX9_wipe cX9_wipe 2 (some FieldType.int) [.ref a0] M (fX9_wipe a0 M) :=
  am_meth (by decide) rfl (Nat.le_of_ble_eq_true rfl) (sX9_wipe_0 G a0 M h_a0)
def fX9_fault (a0 : Nat) (M : am_M) : Option (Int32 × am_M) := (M.2.2.1 a0 0).bind fun r1 => (M.2.2.1 a0 3).bind fun r4 => (fX7_readInto r1 r4 M).bind fun p12 => some (p12.1, p12.2)
set_option maxRecDepth 100000 in
set_option maxHeartbeats 4000000 in
theorem sX9_fault_0 (G : am_G) (a0 : Nat) (M : am_M) (h_a0 : am_sh M a0 13) : am_S am_ei G 5 yX9_fault.cls yX9_fault.name cX9_fault 1 (some FieldType.int) 0 [(0, .ref a0)] [] M (fX9_fault a0 M) := by
  show am_S am_ei G 5 yX9_fault.cls yX9_fault.name cX9_fault 1 (some FieldType.int) 0 [(0, .ref a0)] [] M ((M.2.2.1 a0 0).bind fun r1 => (M.2.2.1 a0 3).bind fun r4 => (fX7_readInto r1 r4 M).bind fun p12 => some (p12.1, p12.2))
  refine am_aload_n 0 dX9_fault_0 rfl rfl ?_
  refine am_getR 8 dX9_fault_1 fl_RX9_10 h_a0 rfl (fun r1 e2 h3 => ?_)
  refine am_aload_n 0 dX9_fault_4 rfl rfl ?_
  refine am_getR 8 dX9_fault_5 fl_RX9_30 h_a0 rfl (fun r4 e5 h6 => ?_)
  refine am_callVi 6 [.ref r4] (CX7_readInto G r1 r4 M h3 h6) dX9_fault_8 mb_yX7_readInto ⟨ml_RX9_49, im_yX7_readInto, se_yX7_readInto⟩ rfl h3 (by decide) rfl rfl (Nat.le_of_ble_eq_true rfl) (fun v11 M8 q7 w10 l9 => ?_)
  exact am_iret dX9_fault_11
theorem CX9_fault (G : am_G) (a0 : Nat) (M : am_M) (h_a0 : am_sh M a0 13) : am_C am_ei G 5 yX9_fault cX9_fault 1 (some FieldType.int) [.ref a0] M (fX9_fault a0 M) :=
  am_meth (by decide) rfl (Nat.le_of_ble_eq_true rfl) (sX9_fault_0 G a0 M h_a0)
def fX9_lay (a0 : Nat) (M : am_M) : Option (Int32 × am_M) := (M.2.2.1 a0 0).bind fun r1 => (M.2.2.1 a0 3).bind fun r4 => (fX7_readInto r1 r4 M).bind fun p12 => if p12.1 = (-4) then (p12.2.2.2.1 a0 0).bind fun r14 => if p12.2.1 r14 3 = 0 then (p12.2.2.2.1 a0 0).bind fun r41 => (fX7_blameEmptiness r41 p12.2).bind fun M45 => some ((-2), M45) else (p12.2.2.2.1 a0 2).bind fun r18 => (p12.2.2.2.1 a0 3).bind fun r21 => ((am_pR (am_pR p12.2 a0 2 (some r21)) a0 3 (some r18)).2.2.1 a0 1).bind fun r24 => (fX0_forget r24 (am_pR (am_pR p12.2 a0 2 (some r21)) a0 3 (some r18))).bind fun M28 => (M28.2.2.1 a0 2).bind fun r32 => (fX5_side r32 M28).bind fun p40 => some (p40.1, p40.2) else some ((-2), p12.2)
set_option maxRecDepth 100000 in
set_option maxHeartbeats 4000000 in
theorem sX9_lay_0 (G : am_G) (a0 : Nat) (M : am_M) (h_a0 : am_sh M a0 13) : am_S am_ei G 5 yX9_lay.cls yX9_lay.name cX9_lay 2 (some FieldType.int) 0 [(0, .ref a0)] [] M (fX9_lay a0 M) := by
  show am_S am_ei G 5 yX9_lay.cls yX9_lay.name cX9_lay 2 (some FieldType.int) 0 [(0, .ref a0)] [] M ((M.2.2.1 a0 0).bind fun r1 => (M.2.2.1 a0 3).bind fun r4 => (fX7_readInto r1 r4 M).bind fun p12 => if p12.1 = (-4) then (p12.2.2.2.1 a0 0).bind fun r14 => if p12.2.1 r14 3 = 0 then (p12.2.2.2.1 a0 0).bind fun r41 => (fX7_blameEmptiness r41 p12.2).bind fun M45 => some ((-2), M45) else (p12.2.2.2.1 a0 2).bind fun r18 => (p12.2.2.2.1 a0 3).bind fun r21 => ((am_pR (am_pR p12.2 a0 2 (some r21)) a0 3 (some r18)).2.2.1 a0 1).bind fun r24 => (fX0_forget r24 (am_pR (am_pR p12.2 a0 2 (some r21)) a0 3 (some r18))).bind fun M28 => (M28.2.2.1 a0 2).bind fun r32 => (fX5_side r32 M28).bind fun p40 => some (p40.1, p40.2) else some ((-2), p12.2))
  refine am_aload_n 0 dX9_lay_0 rfl rfl ?_
  refine am_getR 8 dX9_lay_1 fl_RX9_10 h_a0 rfl (fun r1 e2 h3 => ?_)
  refine am_aload_n 0 dX9_lay_4 rfl rfl ?_
  refine am_getR 8 dX9_lay_5 fl_RX9_30 h_a0 rfl (fun r4 e5 h6 => ?_)
  refine am_callVi 6 [.ref r4] (CX7_readInto G r1 r4 M h3 h6) dX9_lay_8 mb_yX7_readInto ⟨ml_RX9_49, im_yX7_readInto, se_yX7_readInto⟩ rfl h3 (by decide) rfl rfl (Nat.le_of_ble_eq_true rfl) (fun v11 M8 q7 w10 l9 => ?_)
  refine am_bipush (x := -4) dX9_lay_11 (by decide) ?_
  refine am_icmp_eq (tgt := 19) dX9_lay_13 (by decide) (fun c13 => ?_) (fun c13 => ?_)
  · refine am_aload_n 0 dX9_lay_19 rfl rfl ?_
    refine am_getR 8 dX9_lay_20 fl_RX9_10 (am_sh.mono l9 h_a0) rfl (fun r14 e15 h16 => ?_)
    refine am_getI 6 dX9_lay_23 fl_RX9_56 h16 rfl ?_
    refine am_if_ne (tgt := 39) dX9_lay_26 (by decide) (fun c17 => ?_) (fun c17 => ?_)
    · refine am_aload_n 0 dX9_lay_39 rfl rfl ?_
      refine am_getR 8 dX9_lay_40 fl_RX9_26 (am_sh.mono l9 h_a0) rfl (fun r18 e19 h20 => ?_)
      refine am_astore_n (L' := [(1, .ref r18), (0, .ref a0)]) dX9_lay_43 rfl (by decide) rfl ?_
      refine am_aload_n 1 dX9_lay_44 rfl rfl ?_
      refine am_aload_n 1 dX9_lay_45 rfl rfl ?_
      refine am_getR 8 dX9_lay_46 fl_RX9_30 (am_sh.mono l9 h_a0) rfl (fun r21 e22 h23 => ?_)
      refine am_putR 8 dX9_lay_49 fl_RX9_26 (am_sh.mono l9 h_a0) rfl h23 rfl ?_
      refine am_aload_n 1 dX9_lay_52 rfl rfl ?_
      refine am_aload_n 0 dX9_lay_53 rfl rfl ?_
      refine am_putR 8 dX9_lay_54 fl_RX9_30 (am_sh.of (am_sh.mono l9 h_a0) rfl) rfl (am_sh.of h20 rfl) rfl ?_
      refine am_aload_n 1 dX9_lay_57 rfl rfl ?_
      refine am_getR 8 dX9_lay_58 fl_RX9_19 (am_sh.of (am_sh.mono l9 h_a0) rfl) rfl (fun r24 e25 h26 => ?_)
      refine am_callVv 0 [] (CX0_forget G r24 (am_pR (am_pR M8 a0 2 (some r21)) a0 3 (some r18)) (am_sh.of (am_sh.of (M := am_pR (am_pR M8 a0 2 (some r21)) a0 3 (some r18)) h26 rfl) rfl)) dX9_lay_61 mb_yX0_forget ⟨ml_RX9_62, im_yX0_forget, se_yX0_forget⟩ rfl (am_sh.of (am_sh.of (M := am_pR (am_pR M8 a0 2 (some r21)) a0 3 (some r18)) h26 rfl) rfl) (by decide) rfl rfl (Nat.le_of_ble_eq_true rfl) (fun M28 q27 w30 l29 => ?_)
      refine am_aload_n 1 dX9_lay_64 rfl rfl ?_
      refine am_getR 8 dX9_lay_65 fl_RX9_26 (am_sh.mono l29 (am_sh.of (am_sh.mono l9 h_a0) rfl)) rfl (fun r32 e33 h34 => ?_)
      refine am_callVi 4 [] (CX5_side G r32 M28 h34) dX9_lay_68 mb_yX5_side ⟨ml_RX9_65, im_yX5_side, se_yX5_side⟩ rfl h34 (by decide) rfl rfl (Nat.le_of_ble_eq_true rfl) (fun v39 M36 q35 w38 l37 => ?_)
      exact am_iret dX9_lay_71
    · refine am_aload_n 0 dX9_lay_29 rfl rfl ?_
      refine am_getR 8 dX9_lay_30 fl_RX9_10 (am_sh.mono l9 h_a0) rfl (fun r41 e42 h43 => ?_)
      refine am_callVv 6 [] (CX7_blameEmptiness G r41 M8 h43) dX9_lay_33 mb_yX7_blameEmptiness ⟨ml_RX9_59, im_yX7_blameEmptiness, se_yX7_blameEmptiness⟩ rfl h43 (by decide) rfl rfl (Nat.le_of_ble_eq_true rfl) (fun M45 q44 w47 l46 => ?_)
      refine am_bipush (x := -2) dX9_lay_36 (by decide) ?_
      exact am_iret dX9_lay_38
  · refine am_bipush (x := -2) dX9_lay_16 (by decide) ?_
    exact am_iret dX9_lay_18
theorem CX9_lay (G : am_G) (a0 : Nat) (M : am_M) (h_a0 : am_sh M a0 13) : am_C am_ei G 5 yX9_lay cX9_lay 2 (some FieldType.int) [.ref a0] M (fX9_lay a0 M) :=
  am_meth (by decide) rfl (Nat.le_of_ble_eq_true rfl) (sX9_lay_0 G a0 M h_a0)
def fX9_cause (a0 : Nat) (a1 : Int32) (M : am_M) : Option (Int32 × am_M) := if (0 : Int32) ≤ a1 then (M.2.2.1 a0 0).bind fun r2 => if M.1 r2 4 ≤ a1 then some ((-4), M) else (M.2.2.1 a0 0).bind fun r6 => (M.2.2.1 r6 2).bind fun r9 => if a1 < 0 ∨ am_len M r9 ≤ a1.toNatClampNeg then none else some (M.1 r9 (a1.toNatClampNeg), M) else some ((-1), M)
set_option maxRecDepth 100000 in
set_option maxHeartbeats 4000000 in
theorem sX9_cause_0 (G : am_G) (a0 : Nat) (a1 : Int32) (M : am_M) (h_a0 : am_sh M a0 13) : am_S am_ei G 0 yX9_cause.cls yX9_cause.name cX9_cause 2 (some FieldType.int) 0 [(0, .ref a0), (1, .int a1)] [] M (fX9_cause a0 a1 M) := by
  show am_S am_ei G 0 yX9_cause.cls yX9_cause.name cX9_cause 2 (some FieldType.int) 0 [(0, .ref a0), (1, .int a1)] [] M (if (0 : Int32) ≤ a1 then (M.2.2.1 a0 0).bind fun r2 => if M.1 r2 4 ≤ a1 then some ((-4), M) else (M.2.2.1 a0 0).bind fun r6 => (M.2.2.1 r6 2).bind fun r9 => if a1 < 0 ∨ am_len M r9 ≤ a1.toNatClampNeg then none else some (M.1 r9 (a1.toNatClampNeg), M) else some ((-1), M))
  refine am_iload_n 1 dX9_cause_0 rfl rfl ?_
  refine am_if_ge (tgt := 6) dX9_cause_1 (by decide) (fun c1 => ?_) (fun c1 => ?_)
  · refine am_iload_n 1 dX9_cause_6 rfl rfl ?_
    refine am_aload_n 0 dX9_cause_7 rfl rfl ?_
    refine am_getR 8 dX9_cause_8 fl_RX9_10 h_a0 rfl (fun r2 e3 h4 => ?_)
    refine am_getI 6 dX9_cause_11 fl_RX9_68 h4 rfl ?_
    refine am_icmp_ge (tgt := 29) dX9_cause_14 (by decide) (fun c5 => ?_) (fun c5 => ?_)
    · refine am_bipush (x := -4) dX9_cause_29 (by decide) ?_
      exact am_iret dX9_cause_31
    · refine am_aload_n 0 dX9_cause_17 rfl rfl ?_
      refine am_getR 8 dX9_cause_18 fl_RX9_10 h_a0 rfl (fun r6 e7 h8 => ?_)
      refine am_getR 6 dX9_cause_21 fl_RX9_71 h8 rfl (fun r9 e10 h11 => ?_)
      refine am_iload_n 1 dX9_cause_24 rfl rfl ?_
      refine am_iald dX9_cause_25 h11 (fun b12 => ?_)
      refine am_goto (tgt := 31) dX9_cause_26 (by decide) ?_
      exact am_iret dX9_cause_31
  · refine am_iconst dX9_cause_4 am_kc_m1 ?_
    exact am_iret dX9_cause_5
theorem CX9_cause (G : am_G) (a0 : Nat) (a1 : Int32) (M : am_M) (h_a0 : am_sh M a0 13) : am_C am_ei G 0 yX9_cause cX9_cause 2 (some FieldType.int) [.ref a0, .int a1] M (fX9_cause a0 a1 M) :=
  am_meth (by decide) rfl (Nat.le_of_ble_eq_true rfl) (sX9_cause_0 G a0 a1 M h_a0)
def fX9_curve (a0 : Nat) (a1 : Int32) (M : am_M) : Option (Int32 × am_M) := (fX9_isBit a1 M).bind fun p6 => if p6.1 = 0 then some ((-1), p6.2) else (p6.2.2.2.1 a0 2).bind fun r8 => if a1 = p6.2.1 r8 4 then some ((-2), p6.2) else (p6.2.2.2.1 a0 2).bind fun r12 => ((am_pI p6.2 r12 4 a1).2.2.1 a0 1).bind fun r15 => (fX0_forget r15 (am_pI p6.2 r12 4 a1)).bind fun M19 => some (p6.2.1 r8 4, M19)
set_option maxRecDepth 100000 in
set_option maxHeartbeats 4000000 in
theorem sX9_curve_0 (G : am_G) (a0 : Nat) (a1 : Int32) (M : am_M) (h_a0 : am_sh M a0 13) : am_S am_ei G 1 yX9_curve.cls yX9_curve.name cX9_curve 3 (some FieldType.int) 0 [(0, .ref a0), (1, .int a1)] [] M (fX9_curve a0 a1 M) := by
  show am_S am_ei G 1 yX9_curve.cls yX9_curve.name cX9_curve 3 (some FieldType.int) 0 [(0, .ref a0), (1, .int a1)] [] M ((fX9_isBit a1 M).bind fun p6 => if p6.1 = 0 then some ((-1), p6.2) else (p6.2.2.2.1 a0 2).bind fun r8 => if a1 = p6.2.1 r8 4 then some ((-2), p6.2) else (p6.2.2.2.1 a0 2).bind fun r12 => ((am_pI p6.2 r12 4 a1).2.2.1 a0 1).bind fun r15 => (fX0_forget r15 (am_pI p6.2 r12 4 a1)).bind fun M19 => some (p6.2.1 r8 4, M19))
  refine am_iload_n 1 dX9_curve_0 rfl rfl ?_
  refine am_callSi [.int a1] (CX9_isBit G a1 M) dX9_curve_1 mb_yX9_isBit ⟨ml_RX9_75, sm_yX9_isBit⟩ (by decide) rfl rfl (Nat.le_of_ble_eq_true rfl) (fun v5 M2 q1 w4 l3 => ?_)
  refine am_if_ne (tgt := 9) dX9_curve_4 (by decide) (fun c7 => ?_) (fun c7 => ?_)
  · refine am_aload_n 0 dX9_curve_9 rfl rfl ?_
    refine am_getR 8 dX9_curve_10 fl_RX9_26 (am_sh.mono l3 h_a0) rfl (fun r8 e9 h10 => ?_)
    refine am_getI 4 dX9_curve_13 fl_RX9_79 h10 rfl ?_
    refine am_istore_n (L' := [(2, .int (M2.1 r8 4)), (0, .ref a0), (1, .int a1)]) dX9_curve_16 rfl (by decide) rfl ?_
    refine am_iload_n 2 dX9_curve_17 rfl rfl ?_
    refine am_iload_n 0 dX9_curve_18 rfl rfl ?_
    refine am_icmp_ne (tgt := 25) dX9_curve_19 (by decide) (fun c11 => ?_) (fun c11 => ?_)
    · refine am_aload_n 1 dX9_curve_25 rfl rfl ?_
      refine am_getR 8 dX9_curve_26 fl_RX9_26 (am_sh.mono l3 h_a0) rfl (fun r12 e13 h14 => ?_)
      refine am_iload_n 2 dX9_curve_29 rfl rfl ?_
      refine am_putI 4 dX9_curve_30 fl_RX9_79 h14 rfl rfl rfl rfl ?_
      refine am_aload_n 1 dX9_curve_33 rfl rfl ?_
      refine am_getR 8 dX9_curve_34 fl_RX9_19 (am_sh.of (am_sh.mono l3 h_a0) rfl) rfl (fun r15 e16 h17 => ?_)
      refine am_callVv 0 [] (CX0_forget G r15 (am_pI M2 r12 4 a1) (am_sh.of (am_sh.of (M := am_pI M2 r12 4 a1) h17 rfl) rfl)) dX9_curve_37 mb_yX0_forget ⟨ml_RX9_62, im_yX0_forget, se_yX0_forget⟩ rfl (am_sh.of (am_sh.of (M := am_pI M2 r12 4 a1) h17 rfl) rfl) (by decide) rfl rfl (Nat.le_of_ble_eq_true rfl) (fun M19 q18 w21 l20 => ?_)
      refine am_iload_n 0 dX9_curve_40 rfl rfl ?_
      exact am_iret dX9_curve_41
    · refine am_bipush (x := -2) dX9_curve_22 (by decide) ?_
      exact am_iret dX9_curve_24
  · refine am_iconst dX9_curve_7 am_kc_m1 ?_
    exact am_iret dX9_curve_8
theorem CX9_curve (G : am_G) (a0 : Nat) (a1 : Int32) (M : am_M) (h_a0 : am_sh M a0 13) : am_C am_ei G 1 yX9_curve cX9_curve 3 (some FieldType.int) [.ref a0, .int a1] M (fX9_curve a0 a1 M) :=
  am_meth (by decide) rfl (Nat.le_of_ble_eq_true rfl) (sX9_curve_0 G a0 a1 M h_a0)
def fX9_levels_47 (x0 : Nat) (x1 : Int32) (x2 : Int32) (M : am_M) : Option (Int32 × am_M) := (M.2.2.1 x0 2).bind fun r11 => (M.2.2.1 x0 2).bind fun r14 => (M.2.2.1 x0 2).bind fun r17 => ((am_pI M r17 5 x1).2.2.1 x0 2).bind fun r20 => ((am_pI (am_pI M r17 5 x1) r20 6 x2).2.2.1 x0 1).bind fun r23 => (fX0_forget r23 (am_pI (am_pI M r17 5 x1) r20 6 x2)).bind fun M27 => some ((M.1 r11 5) + (10 * (M.1 r14 6)), M27)
def fX9_levels (a0 : Nat) (a1 : Int32) (a2 : Int32) (M : am_M) : Option (Int32 × am_M) := if a1 < 0 then some ((-1), M) else if a2 < a1 then some ((-1), M) else (M.2.2.1 a0 2).bind fun r3 => if a2 ≤ M.1 r3 3 then (M.2.2.1 a0 2).bind fun r7 => if a1 = M.1 r7 5 then (M.2.2.1 a0 2).bind fun r31 => if a2 = M.1 r31 6 then some ((-2), M) else fX9_levels_47 a0 a1 a2 M else fX9_levels_47 a0 a1 a2 M else some ((-1), M)
set_option maxRecDepth 100000 in
set_option maxHeartbeats 4000000 in
theorem sX9_levels_47 (G : am_G) (x0 : Nat) (x1 : Int32) (x2 : Int32) (M : am_M) (h_x0 : am_sh M x0 13) : am_S am_ei G 1 yX9_levels.cls yX9_levels.name cX9_levels 4 (some FieldType.int) 47 [(0, .ref x0), (1, .int x1), (2, .int x2)] [] M (fX9_levels_47 x0 x1 x2 M) := by
  show am_S am_ei G 1 yX9_levels.cls yX9_levels.name cX9_levels 4 (some FieldType.int) 47 [(0, .ref x0), (1, .int x1), (2, .int x2)] [] M ((M.2.2.1 x0 2).bind fun r11 => (M.2.2.1 x0 2).bind fun r14 => (M.2.2.1 x0 2).bind fun r17 => ((am_pI M r17 5 x1).2.2.1 x0 2).bind fun r20 => ((am_pI (am_pI M r17 5 x1) r20 6 x2).2.2.1 x0 1).bind fun r23 => (fX0_forget r23 (am_pI (am_pI M r17 5 x1) r20 6 x2)).bind fun M27 => some ((M.1 r11 5) + (10 * (M.1 r14 6)), M27))
  refine am_aload_n 0 dX9_levels_47 rfl rfl ?_
  refine am_getR 8 dX9_levels_48 fl_RX9_26 h_x0 rfl (fun r11 e12 h13 => ?_)
  refine am_getI 4 dX9_levels_51 fl_RX9_85 h13 rfl ?_
  refine am_bipush (x := 10) dX9_levels_54 (by decide) ?_
  refine am_aload_n 0 dX9_levels_56 rfl rfl ?_
  refine am_getR 8 dX9_levels_57 fl_RX9_26 h_x0 rfl (fun r14 e15 h16 => ?_)
  refine am_getI 4 dX9_levels_60 fl_RX9_88 h16 rfl ?_
  refine am_imul dX9_levels_63 ?_
  refine am_iadd dX9_levels_64 ?_
  refine am_istore_n (L' := [(3, .int ((M.1 r11 5) + (10 * (M.1 r14 6)))), (0, .ref x0), (1, .int x1), (2, .int x2)]) dX9_levels_65 rfl (by decide) rfl ?_
  refine am_aload_n 1 dX9_levels_66 rfl rfl ?_
  refine am_getR 8 dX9_levels_67 fl_RX9_26 h_x0 rfl (fun r17 e18 h19 => ?_)
  refine am_iload_n 2 dX9_levels_70 rfl rfl ?_
  refine am_putI 4 dX9_levels_71 fl_RX9_85 h19 rfl rfl rfl rfl ?_
  refine am_aload_n 1 dX9_levels_74 rfl rfl ?_
  refine am_getR 8 dX9_levels_75 fl_RX9_26 (am_sh.of h_x0 rfl) rfl (fun r20 e21 h22 => ?_)
  refine am_iload_n 3 dX9_levels_78 rfl rfl ?_
  refine am_putI 4 dX9_levels_79 fl_RX9_88 (am_sh.of (am_sh.of (M := am_pI M r17 5 x1) h22 rfl) rfl) rfl rfl rfl rfl ?_
  refine am_aload_n 1 dX9_levels_82 rfl rfl ?_
  refine am_getR 8 dX9_levels_83 fl_RX9_19 (am_sh.of h_x0 rfl) rfl (fun r23 e24 h25 => ?_)
  refine am_callVv 0 [] (CX0_forget G r23 (am_pI (am_pI M r17 5 x1) r20 6 x2) (am_sh.of (am_sh.of (M := am_pI (am_pI M r17 5 x1) r20 6 x2) h25 rfl) rfl)) dX9_levels_86 mb_yX0_forget ⟨ml_RX9_62, im_yX0_forget, se_yX0_forget⟩ rfl (am_sh.of (am_sh.of (M := am_pI (am_pI M r17 5 x1) r20 6 x2) h25 rfl) rfl) (by decide) rfl rfl (Nat.le_of_ble_eq_true rfl) (fun M27 q26 w29 l28 => ?_)
  refine am_iload_n 0 dX9_levels_89 rfl rfl ?_
  exact am_iret dX9_levels_90
set_option maxRecDepth 100000 in
set_option maxHeartbeats 4000000 in
theorem sX9_levels_0 (G : am_G) (a0 : Nat) (a1 : Int32) (a2 : Int32) (M : am_M) (h_a0 : am_sh M a0 13) : am_S am_ei G 1 yX9_levels.cls yX9_levels.name cX9_levels 4 (some FieldType.int) 0 [(0, .ref a0), (1, .int a1), (2, .int a2)] [] M (fX9_levels a0 a1 a2 M) := by
  show am_S am_ei G 1 yX9_levels.cls yX9_levels.name cX9_levels 4 (some FieldType.int) 0 [(0, .ref a0), (1, .int a1), (2, .int a2)] [] M (if a1 < 0 then some ((-1), M) else if a2 < a1 then some ((-1), M) else (M.2.2.1 a0 2).bind fun r3 => if a2 ≤ M.1 r3 3 then (M.2.2.1 a0 2).bind fun r7 => if a1 = M.1 r7 5 then (M.2.2.1 a0 2).bind fun r31 => if a2 = M.1 r31 6 then some ((-2), M) else fX9_levels_47 a0 a1 a2 M else fX9_levels_47 a0 a1 a2 M else some ((-1), M))
  refine am_iload_n 1 dX9_levels_0 rfl rfl ?_
  refine am_if_lt (tgt := 20) dX9_levels_1 (by decide) (fun c1 => ?_) (fun c1 => ?_)
  · refine am_iconst dX9_levels_20 am_kc_m1 ?_
    exact am_iret dX9_levels_21
  · refine am_iload_n 1 dX9_levels_4 rfl rfl ?_
    refine am_iload_n 2 dX9_levels_5 rfl rfl ?_
    refine am_icmp_gt (tgt := 20) dX9_levels_6 (by decide) (fun c2 => ?_) (fun c2 => ?_)
    · refine am_iconst dX9_levels_20 am_kc_m1 ?_
      exact am_iret dX9_levels_21
    · refine am_iload_n 2 dX9_levels_9 rfl rfl ?_
      refine am_aload_n 0 dX9_levels_10 rfl rfl ?_
      refine am_getR 8 dX9_levels_11 fl_RX9_26 h_a0 rfl (fun r3 e4 h5 => ?_)
      refine am_getI 4 dX9_levels_14 fl_RX9_82 h5 rfl ?_
      refine am_icmp_le (tgt := 22) dX9_levels_17 (by decide) (fun c6 => ?_) (fun c6 => ?_)
      · refine am_iload_n 1 dX9_levels_22 rfl rfl ?_
        refine am_aload_n 0 dX9_levels_23 rfl rfl ?_
        refine am_getR 8 dX9_levels_24 fl_RX9_26 h_a0 rfl (fun r7 e8 h9 => ?_)
        refine am_getI 4 dX9_levels_27 fl_RX9_85 h9 rfl ?_
        refine am_icmp_ne (tgt := 47) dX9_levels_30 (by decide) (fun c10 => ?_) (fun c10 => ?_)
        · exact sX9_levels_47 G a0 a1 a2 M h_a0
        · refine am_iload_n 2 dX9_levels_33 rfl rfl ?_
          refine am_aload_n 0 dX9_levels_34 rfl rfl ?_
          refine am_getR 8 dX9_levels_35 fl_RX9_26 h_a0 rfl (fun r31 e32 h33 => ?_)
          refine am_getI 4 dX9_levels_38 fl_RX9_88 h33 rfl ?_
          refine am_icmp_ne (tgt := 47) dX9_levels_41 (by decide) (fun c34 => ?_) (fun c34 => ?_)
          · exact sX9_levels_47 G a0 a1 a2 M h_a0
          · refine am_bipush (x := -2) dX9_levels_44 (by decide) ?_
            exact am_iret dX9_levels_46
      · refine am_iconst dX9_levels_20 am_kc_m1 ?_
        exact am_iret dX9_levels_21
theorem CX9_levels (G : am_G) (a0 : Nat) (a1 : Int32) (a2 : Int32) (M : am_M) (h_a0 : am_sh M a0 13) : am_C am_ei G 1 yX9_levels cX9_levels 4 (some FieldType.int) [.ref a0, .int a1, .int a2] M (fX9_levels a0 a1 a2 M) :=
  am_meth (by decide) rfl (Nat.le_of_ble_eq_true rfl) (sX9_levels_0 G a0 a1 a2 M h_a0)
def fX9_box_61 (x0 : Nat) (x2 : Int32) (x3 : Int32) (x4 : Int32) (x5 : Int32) (s0 : Int32) (s1 : Nat) (M : am_M) : Option (Int32 × am_M) := (fX5_addBox s1 s0 x2 x3 x4 x5 M).bind fun p39 => if p39.1 = 0 then some ((-3), p39.2) else (p39.2.2.2.1 x0 1).bind fun r41 => (fX0_forget r41 p39.2).bind fun M45 => (M45.2.2.1 x0 2).bind fun r49 => some (M45.1 r49 2, M45)
def fX9_box (a0 : Nat) (a1 : Int32) (a2 : Int32) (a3 : Int32) (a4 : Int32) (a5 : Int32) (M : am_M) : Option (Int32 × am_M) := (fX9_isBit a1 M).bind fun p6 => if p6.1 = 0 then some ((-1), p6.2) else (p6.2.2.2.1 a0 2).bind fun r8 => (fX5_hasCell r8 a2 a3 p6.2).bind fun p16 => if p16.1 = 0 then some ((-1), p16.2) else (p16.2.2.2.1 a0 2).bind fun r18 => (fX5_hasCell r18 a4 a5 p16.2).bind fun p26 => if p26.1 = 0 then some ((-1), p26.2) else if a4 < a2 then some ((-1), p26.2) else if a3 ≤ a5 then (p26.2.2.2.1 a0 2).bind fun r30 => if a1 = 1 then fX9_box_61 a0 a2 a3 a4 a5 1 r30 p26.2 else fX9_box_61 a0 a2 a3 a4 a5 0 r30 p26.2 else some ((-1), p26.2)
set_option maxRecDepth 100000 in
set_option maxHeartbeats 4000000 in
theorem sX9_box_61 (G : am_G) (x0 : Nat) (x2 : Int32) (x3 : Int32) (x4 : Int32) (x5 : Int32) (s0 : Int32) (s1 : Nat) (M : am_M) (h_x0 : am_sh M x0 13) (h_s1 : am_sh M s1 9) : am_S am_ei G 2 yX9_box.cls yX9_box.name cX9_box 6 (some FieldType.int) 61 [(0, .ref x0), (2, .int x2), (3, .int x3), (4, .int x4), (5, .int x5)] [.int s0, .ref s1] M (fX9_box_61 x0 x2 x3 x4 x5 s0 s1 M) := by
  show am_S am_ei G 2 yX9_box.cls yX9_box.name cX9_box 6 (some FieldType.int) 61 [(0, .ref x0), (2, .int x2), (3, .int x3), (4, .int x4), (5, .int x5)] [.int s0, .ref s1] M ((fX5_addBox s1 s0 x2 x3 x4 x5 M).bind fun p39 => if p39.1 = 0 then some ((-3), p39.2) else (p39.2.2.2.1 x0 1).bind fun r41 => (fX0_forget r41 p39.2).bind fun M45 => (M45.2.2.1 x0 2).bind fun r49 => some (M45.1 r49 2, M45))
  refine am_iload_n 1 dX9_box_61 rfl rfl ?_
  refine am_iload_n 2 dX9_box_62 rfl rfl ?_
  refine am_iload 3 dX9_box_63 rfl ?_
  refine am_iload 4 dX9_box_65 rfl ?_
  refine am_callVi 4 [.int s0, .int x2, .int x3, .int x4, .int x5] (CX5_addBox G s1 s0 x2 x3 x4 x5 M h_s1) dX9_box_67 mb_yX5_addBox ⟨ml_RX9_95, im_yX5_addBox, se_yX5_addBox⟩ rfl h_s1 (by decide) rfl rfl (Nat.le_of_ble_eq_true rfl) (fun v38 M35 q34 w37 l36 => ?_)
  refine am_if_ne (tgt := 76) dX9_box_70 (by decide) (fun c40 => ?_) (fun c40 => ?_)
  · refine am_aload_n 0 dX9_box_76 rfl rfl ?_
    refine am_getR 8 dX9_box_77 fl_RX9_19 (am_sh.mono l36 h_x0) rfl (fun r41 e42 h43 => ?_)
    refine am_callVv 0 [] (CX0_forget G r41 M35 h43) dX9_box_80 mb_yX0_forget ⟨ml_RX9_62, im_yX0_forget, se_yX0_forget⟩ rfl h43 (by decide) rfl rfl (Nat.le_of_ble_eq_true rfl) (fun M45 q44 w47 l46 => ?_)
    refine am_aload_n 0 dX9_box_83 rfl rfl ?_
    refine am_getR 8 dX9_box_84 fl_RX9_26 (am_sh.mono l46 (am_sh.mono l36 h_x0)) rfl (fun r49 e50 h51 => ?_)
    refine am_getI 4 dX9_box_87 fl_RX9_99 h51 rfl ?_
    exact am_iret dX9_box_90
  · refine am_bipush (x := -3) dX9_box_73 (by decide) ?_
    exact am_iret dX9_box_75
set_option maxRecDepth 100000 in
set_option maxHeartbeats 4000000 in
theorem sX9_box_0 (G : am_G) (a0 : Nat) (a1 : Int32) (a2 : Int32) (a3 : Int32) (a4 : Int32) (a5 : Int32) (M : am_M) (h_a0 : am_sh M a0 13) : am_S am_ei G 2 yX9_box.cls yX9_box.name cX9_box 6 (some FieldType.int) 0 [(0, .ref a0), (1, .int a1), (2, .int a2), (3, .int a3), (4, .int a4), (5, .int a5)] [] M (fX9_box a0 a1 a2 a3 a4 a5 M) := by
  show am_S am_ei G 2 yX9_box.cls yX9_box.name cX9_box 6 (some FieldType.int) 0 [(0, .ref a0), (1, .int a1), (2, .int a2), (3, .int a3), (4, .int a4), (5, .int a5)] [] M ((fX9_isBit a1 M).bind fun p6 => if p6.1 = 0 then some ((-1), p6.2) else (p6.2.2.2.1 a0 2).bind fun r8 => (fX5_hasCell r8 a2 a3 p6.2).bind fun p16 => if p16.1 = 0 then some ((-1), p16.2) else (p16.2.2.2.1 a0 2).bind fun r18 => (fX5_hasCell r18 a4 a5 p16.2).bind fun p26 => if p26.1 = 0 then some ((-1), p26.2) else if a4 < a2 then some ((-1), p26.2) else if a3 ≤ a5 then (p26.2.2.2.1 a0 2).bind fun r30 => if a1 = 1 then fX9_box_61 a0 a2 a3 a4 a5 1 r30 p26.2 else fX9_box_61 a0 a2 a3 a4 a5 0 r30 p26.2 else some ((-1), p26.2))
  refine am_iload_n 1 dX9_box_0 rfl rfl ?_
  refine am_callSi [.int a1] (CX9_isBit G a1 M) dX9_box_1 mb_yX9_isBit ⟨ml_RX9_75, sm_yX9_isBit⟩ (by decide) rfl rfl (Nat.le_of_ble_eq_true rfl) (fun v5 M2 q1 w4 l3 => ?_)
  refine am_if_eq (tgt := 45) dX9_box_4 (by decide) (fun c7 => ?_) (fun c7 => ?_)
  · refine am_iconst dX9_box_45 am_kc_m1 ?_
    exact am_iret dX9_box_46
  · refine am_aload_n 0 dX9_box_7 rfl rfl ?_
    refine am_getR 8 dX9_box_8 fl_RX9_26 (am_sh.mono l3 h_a0) rfl (fun r8 e9 h10 => ?_)
    refine am_iload_n 2 dX9_box_11 rfl rfl ?_
    refine am_iload_n 3 dX9_box_12 rfl rfl ?_
    refine am_callVi 4 [.int a2, .int a3] (CX5_hasCell G r8 a2 a3 M2 h10) dX9_box_13 mb_yX5_hasCell ⟨ml_RX9_91, im_yX5_hasCell, se_yX5_hasCell⟩ rfl h10 (by decide) rfl rfl (Nat.le_of_ble_eq_true rfl) (fun v15 M12 q11 w14 l13 => ?_)
    refine am_if_eq (tgt := 45) dX9_box_16 (by decide) (fun c17 => ?_) (fun c17 => ?_)
    · refine am_iconst dX9_box_45 am_kc_m1 ?_
      exact am_iret dX9_box_46
    · refine am_aload_n 0 dX9_box_19 rfl rfl ?_
      refine am_getR 8 dX9_box_20 fl_RX9_26 (am_sh.mono l13 (am_sh.mono l3 h_a0)) rfl (fun r18 e19 h20 => ?_)
      refine am_iload 4 dX9_box_23 rfl ?_
      refine am_iload 5 dX9_box_25 rfl ?_
      refine am_callVi 4 [.int a4, .int a5] (CX5_hasCell G r18 a4 a5 M12 h20) dX9_box_27 mb_yX5_hasCell ⟨ml_RX9_91, im_yX5_hasCell, se_yX5_hasCell⟩ rfl h20 (by decide) rfl rfl (Nat.le_of_ble_eq_true rfl) (fun v25 M22 q21 w24 l23 => ?_)
      refine am_if_eq (tgt := 45) dX9_box_30 (by decide) (fun c27 => ?_) (fun c27 => ?_)
      · refine am_iconst dX9_box_45 am_kc_m1 ?_
        exact am_iret dX9_box_46
      · refine am_iload 4 dX9_box_33 rfl ?_
        refine am_iload_n 2 dX9_box_35 rfl rfl ?_
        refine am_icmp_lt (tgt := 45) dX9_box_36 (by decide) (fun c28 => ?_) (fun c28 => ?_)
        · refine am_iconst dX9_box_45 am_kc_m1 ?_
          exact am_iret dX9_box_46
        · refine am_iload 5 dX9_box_39 rfl ?_
          refine am_iload_n 3 dX9_box_41 rfl rfl ?_
          refine am_icmp_ge (tgt := 47) dX9_box_42 (by decide) (fun c29 => ?_) (fun c29 => ?_)
          · refine am_aload_n 0 dX9_box_47 rfl rfl ?_
            refine am_getR 8 dX9_box_48 fl_RX9_26 (am_sh.mono l23 (am_sh.mono l13 (am_sh.mono l3 h_a0))) rfl (fun r30 e31 h32 => ?_)
            refine am_iload_n 1 dX9_box_51 rfl rfl ?_
            refine am_iconst dX9_box_52 am_kc_1 ?_
            refine am_icmp_ne (tgt := 60) dX9_box_53 (by decide) (fun c33 => ?_) (fun c33 => ?_)
            · refine am_iconst dX9_box_60 am_kc_0 ?_
              refine am_sub [0, 2, 3, 4, 5] rfl ?_
              exact sX9_box_61 G a0 a2 a3 a4 a5 0 r30 M22 (am_sh.mono l23 (am_sh.mono l13 (am_sh.mono l3 h_a0))) h32
            · refine am_iconst dX9_box_56 am_kc_1 ?_
              refine am_goto (tgt := 61) dX9_box_57 (by decide) ?_
              refine am_sub [0, 2, 3, 4, 5] rfl ?_
              exact sX9_box_61 G a0 a2 a3 a4 a5 1 r30 M22 (am_sh.mono l23 (am_sh.mono l13 (am_sh.mono l3 h_a0))) h32
          · refine am_iconst dX9_box_45 am_kc_m1 ?_
            exact am_iret dX9_box_46
theorem CX9_box (G : am_G) (a0 : Nat) (a1 : Int32) (a2 : Int32) (a3 : Int32) (a4 : Int32) (a5 : Int32) (M : am_M) (h_a0 : am_sh M a0 13) : am_C am_ei G 2 yX9_box cX9_box 6 (some FieldType.int) [.ref a0, .int a1, .int a2, .int a3, .int a4, .int a5] M (fX9_box a0 a1 a2 a3 a4 a5 M) :=
  am_meth (by decide) rfl (Nat.le_of_ble_eq_true rfl) (sX9_box_0 G a0 a1 a2 a3 a4 a5 M h_a0)
def fX9_disc_47 (x0 : Nat) (x2 : Int32) (x3 : Int32) (x4 : Int32) (s0 : Int32) (s1 : Nat) (M : am_M) : Option (Int32 × am_M) := (fX5_addDisc s1 s0 x2 x3 x4 M).bind fun p29 => if p29.1 = 0 then some ((-3), p29.2) else (p29.2.2.2.1 x0 1).bind fun r31 => (fX0_forget r31 p29.2).bind fun M35 => (M35.2.2.1 x0 2).bind fun r39 => some (M35.1 r39 2, M35)
def fX9_disc (a0 : Nat) (a1 : Int32) (a2 : Int32) (a3 : Int32) (a4 : Int32) (M : am_M) : Option (Int32 × am_M) := (fX9_isBit a1 M).bind fun p6 => if p6.1 = 0 then some ((-1), p6.2) else (p6.2.2.2.1 a0 2).bind fun r8 => (fX5_hasCell r8 a2 a3 p6.2).bind fun p16 => if p16.1 = 0 then some ((-1), p16.2) else if a4 < 0 then some ((-1), p16.2) else if a4 ≤ 63 then (p16.2.2.2.1 a0 2).bind fun r20 => if a1 = 1 then fX9_disc_47 a0 a2 a3 a4 1 r20 p16.2 else fX9_disc_47 a0 a2 a3 a4 0 r20 p16.2 else some ((-1), p16.2)
set_option maxRecDepth 100000 in
set_option maxHeartbeats 4000000 in
theorem sX9_disc_47 (G : am_G) (x0 : Nat) (x2 : Int32) (x3 : Int32) (x4 : Int32) (s0 : Int32) (s1 : Nat) (M : am_M) (h_x0 : am_sh M x0 13) (h_s1 : am_sh M s1 9) : am_S am_ei G 2 yX9_disc.cls yX9_disc.name cX9_disc 5 (some FieldType.int) 47 [(0, .ref x0), (2, .int x2), (3, .int x3), (4, .int x4)] [.int s0, .ref s1] M (fX9_disc_47 x0 x2 x3 x4 s0 s1 M) := by
  show am_S am_ei G 2 yX9_disc.cls yX9_disc.name cX9_disc 5 (some FieldType.int) 47 [(0, .ref x0), (2, .int x2), (3, .int x3), (4, .int x4)] [.int s0, .ref s1] M ((fX5_addDisc s1 s0 x2 x3 x4 M).bind fun p29 => if p29.1 = 0 then some ((-3), p29.2) else (p29.2.2.2.1 x0 1).bind fun r31 => (fX0_forget r31 p29.2).bind fun M35 => (M35.2.2.1 x0 2).bind fun r39 => some (M35.1 r39 2, M35))
  refine am_iload_n 1 dX9_disc_47 rfl rfl ?_
  refine am_iload_n 2 dX9_disc_48 rfl rfl ?_
  refine am_iload 3 dX9_disc_49 rfl ?_
  refine am_callVi 4 [.int s0, .int x2, .int x3, .int x4] (CX5_addDisc G s1 s0 x2 x3 x4 M h_s1) dX9_disc_51 mb_yX5_addDisc ⟨ml_RX9_102, im_yX5_addDisc, se_yX5_addDisc⟩ rfl h_s1 (by decide) rfl rfl (Nat.le_of_ble_eq_true rfl) (fun v28 M25 q24 w27 l26 => ?_)
  refine am_if_ne (tgt := 60) dX9_disc_54 (by decide) (fun c30 => ?_) (fun c30 => ?_)
  · refine am_aload_n 0 dX9_disc_60 rfl rfl ?_
    refine am_getR 8 dX9_disc_61 fl_RX9_19 (am_sh.mono l26 h_x0) rfl (fun r31 e32 h33 => ?_)
    refine am_callVv 0 [] (CX0_forget G r31 M25 h33) dX9_disc_64 mb_yX0_forget ⟨ml_RX9_62, im_yX0_forget, se_yX0_forget⟩ rfl h33 (by decide) rfl rfl (Nat.le_of_ble_eq_true rfl) (fun M35 q34 w37 l36 => ?_)
    refine am_aload_n 0 dX9_disc_67 rfl rfl ?_
    refine am_getR 8 dX9_disc_68 fl_RX9_26 (am_sh.mono l36 (am_sh.mono l26 h_x0)) rfl (fun r39 e40 h41 => ?_)
    refine am_getI 4 dX9_disc_71 fl_RX9_99 h41 rfl ?_
    exact am_iret dX9_disc_74
  · refine am_bipush (x := -3) dX9_disc_57 (by decide) ?_
    exact am_iret dX9_disc_59
set_option maxRecDepth 100000 in
set_option maxHeartbeats 4000000 in
theorem sX9_disc_0 (G : am_G) (a0 : Nat) (a1 : Int32) (a2 : Int32) (a3 : Int32) (a4 : Int32) (M : am_M) (h_a0 : am_sh M a0 13) : am_S am_ei G 2 yX9_disc.cls yX9_disc.name cX9_disc 5 (some FieldType.int) 0 [(0, .ref a0), (1, .int a1), (2, .int a2), (3, .int a3), (4, .int a4)] [] M (fX9_disc a0 a1 a2 a3 a4 M) := by
  show am_S am_ei G 2 yX9_disc.cls yX9_disc.name cX9_disc 5 (some FieldType.int) 0 [(0, .ref a0), (1, .int a1), (2, .int a2), (3, .int a3), (4, .int a4)] [] M ((fX9_isBit a1 M).bind fun p6 => if p6.1 = 0 then some ((-1), p6.2) else (p6.2.2.2.1 a0 2).bind fun r8 => (fX5_hasCell r8 a2 a3 p6.2).bind fun p16 => if p16.1 = 0 then some ((-1), p16.2) else if a4 < 0 then some ((-1), p16.2) else if a4 ≤ 63 then (p16.2.2.2.1 a0 2).bind fun r20 => if a1 = 1 then fX9_disc_47 a0 a2 a3 a4 1 r20 p16.2 else fX9_disc_47 a0 a2 a3 a4 0 r20 p16.2 else some ((-1), p16.2))
  refine am_iload_n 1 dX9_disc_0 rfl rfl ?_
  refine am_callSi [.int a1] (CX9_isBit G a1 M) dX9_disc_1 mb_yX9_isBit ⟨ml_RX9_75, sm_yX9_isBit⟩ (by decide) rfl rfl (Nat.le_of_ble_eq_true rfl) (fun v5 M2 q1 w4 l3 => ?_)
  refine am_if_eq (tgt := 31) dX9_disc_4 (by decide) (fun c7 => ?_) (fun c7 => ?_)
  · refine am_iconst dX9_disc_31 am_kc_m1 ?_
    exact am_iret dX9_disc_32
  · refine am_aload_n 0 dX9_disc_7 rfl rfl ?_
    refine am_getR 8 dX9_disc_8 fl_RX9_26 (am_sh.mono l3 h_a0) rfl (fun r8 e9 h10 => ?_)
    refine am_iload_n 2 dX9_disc_11 rfl rfl ?_
    refine am_iload_n 3 dX9_disc_12 rfl rfl ?_
    refine am_callVi 4 [.int a2, .int a3] (CX5_hasCell G r8 a2 a3 M2 h10) dX9_disc_13 mb_yX5_hasCell ⟨ml_RX9_91, im_yX5_hasCell, se_yX5_hasCell⟩ rfl h10 (by decide) rfl rfl (Nat.le_of_ble_eq_true rfl) (fun v15 M12 q11 w14 l13 => ?_)
    refine am_if_eq (tgt := 31) dX9_disc_16 (by decide) (fun c17 => ?_) (fun c17 => ?_)
    · refine am_iconst dX9_disc_31 am_kc_m1 ?_
      exact am_iret dX9_disc_32
    · refine am_iload 4 dX9_disc_19 rfl ?_
      refine am_if_lt (tgt := 31) dX9_disc_21 (by decide) (fun c18 => ?_) (fun c18 => ?_)
      · refine am_iconst dX9_disc_31 am_kc_m1 ?_
        exact am_iret dX9_disc_32
      · refine am_iload 4 dX9_disc_24 rfl ?_
        refine am_bipush (x := 63) dX9_disc_26 (by decide) ?_
        refine am_icmp_le (tgt := 33) dX9_disc_28 (by decide) (fun c19 => ?_) (fun c19 => ?_)
        · refine am_aload_n 0 dX9_disc_33 rfl rfl ?_
          refine am_getR 8 dX9_disc_34 fl_RX9_26 (am_sh.mono l13 (am_sh.mono l3 h_a0)) rfl (fun r20 e21 h22 => ?_)
          refine am_iload_n 1 dX9_disc_37 rfl rfl ?_
          refine am_iconst dX9_disc_38 am_kc_1 ?_
          refine am_icmp_ne (tgt := 46) dX9_disc_39 (by decide) (fun c23 => ?_) (fun c23 => ?_)
          · refine am_iconst dX9_disc_46 am_kc_0 ?_
            refine am_sub [0, 2, 3, 4] rfl ?_
            exact sX9_disc_47 G a0 a2 a3 a4 0 r20 M12 (am_sh.mono l13 (am_sh.mono l3 h_a0)) h22
          · refine am_iconst dX9_disc_42 am_kc_1 ?_
            refine am_goto (tgt := 47) dX9_disc_43 (by decide) ?_
            refine am_sub [0, 2, 3, 4] rfl ?_
            exact sX9_disc_47 G a0 a2 a3 a4 1 r20 M12 (am_sh.mono l13 (am_sh.mono l3 h_a0)) h22
        · refine am_iconst dX9_disc_31 am_kc_m1 ?_
          exact am_iret dX9_disc_32
theorem CX9_disc (G : am_G) (a0 : Nat) (a1 : Int32) (a2 : Int32) (a3 : Int32) (a4 : Int32) (M : am_M) (h_a0 : am_sh M a0 13) : am_C am_ei G 2 yX9_disc cX9_disc 5 (some FieldType.int) [.ref a0, .int a1, .int a2, .int a3, .int a4] M (fX9_disc a0 a1 a2 a3 a4 M) :=
  am_meth (by decide) rfl (Nat.le_of_ble_eq_true rfl) (sX9_disc_0 G a0 a1 a2 a3 a4 M h_a0)
def fX9_drop (a0 : Nat) (a1 : Int32) (M : am_M) : Option (Int32 × am_M) := (M.2.2.1 a0 2).bind fun r1 => (fX5_removePart r1 a1 M).bind fun p9 => if p9.1 = 0 then some ((-1), p9.2) else (p9.2.2.2.1 a0 1).bind fun r11 => (fX0_forget r11 p9.2).bind fun M15 => (M15.2.2.1 a0 2).bind fun r19 => some (M15.1 r19 2, M15)
set_option maxRecDepth 100000 in
set_option maxHeartbeats 4000000 in
theorem sX9_drop_0 (G : am_G) (a0 : Nat) (a1 : Int32) (M : am_M) (h_a0 : am_sh M a0 13) : am_S am_ei G 1 yX9_drop.cls yX9_drop.name cX9_drop 2 (some FieldType.int) 0 [(0, .ref a0), (1, .int a1)] [] M (fX9_drop a0 a1 M) := by
  show am_S am_ei G 1 yX9_drop.cls yX9_drop.name cX9_drop 2 (some FieldType.int) 0 [(0, .ref a0), (1, .int a1)] [] M ((M.2.2.1 a0 2).bind fun r1 => (fX5_removePart r1 a1 M).bind fun p9 => if p9.1 = 0 then some ((-1), p9.2) else (p9.2.2.2.1 a0 1).bind fun r11 => (fX0_forget r11 p9.2).bind fun M15 => (M15.2.2.1 a0 2).bind fun r19 => some (M15.1 r19 2, M15))
  refine am_aload_n 0 dX9_drop_0 rfl rfl ?_
  refine am_getR 8 dX9_drop_1 fl_RX9_26 h_a0 rfl (fun r1 e2 h3 => ?_)
  refine am_iload_n 1 dX9_drop_4 rfl rfl ?_
  refine am_callVi 4 [.int a1] (CX5_removePart G r1 a1 M h3) dX9_drop_5 mb_yX5_removePart ⟨ml_RX9_106, im_yX5_removePart, se_yX5_removePart⟩ rfl h3 (by decide) rfl rfl (Nat.le_of_ble_eq_true rfl) (fun v8 M5 q4 w7 l6 => ?_)
  refine am_if_ne (tgt := 13) dX9_drop_8 (by decide) (fun c10 => ?_) (fun c10 => ?_)
  · refine am_aload_n 0 dX9_drop_13 rfl rfl ?_
    refine am_getR 8 dX9_drop_14 fl_RX9_19 (am_sh.mono l6 h_a0) rfl (fun r11 e12 h13 => ?_)
    refine am_callVv 0 [] (CX0_forget G r11 M5 h13) dX9_drop_17 mb_yX0_forget ⟨ml_RX9_62, im_yX0_forget, se_yX0_forget⟩ rfl h13 (by decide) rfl rfl (Nat.le_of_ble_eq_true rfl) (fun M15 q14 w17 l16 => ?_)
    refine am_aload_n 0 dX9_drop_20 rfl rfl ?_
    refine am_getR 8 dX9_drop_21 fl_RX9_26 (am_sh.mono l16 (am_sh.mono l6 h_a0)) rfl (fun r19 e20 h21 => ?_)
    refine am_getI 4 dX9_drop_24 fl_RX9_99 h21 rfl ?_
    exact am_iret dX9_drop_27
  · refine am_iconst dX9_drop_11 am_kc_m1 ?_
    exact am_iret dX9_drop_12
theorem CX9_drop (G : am_G) (a0 : Nat) (a1 : Int32) (M : am_M) (h_a0 : am_sh M a0 13) : am_C am_ei G 1 yX9_drop cX9_drop 2 (some FieldType.int) [.ref a0, .int a1] M (fX9_drop a0 a1 M) :=
  am_meth (by decide) rfl (Nat.le_of_ble_eq_true rfl) (sX9_drop_0 G a0 a1 M h_a0)
def fX9_point (a0 : Nat) (a1 : Int32) (a2 : Int32) (M : am_M) : Option (Int32 × am_M) := (M.2.2.1 a0 2).bind fun r1 => (fX5_hasCell r1 a1 a2 M).bind fun p9 => if p9.1 = 0 then some ((-1), p9.2) else (p9.2.2.2.1 a0 2).bind fun r11 => (p9.2.2.2.1 r11 0).bind fun r14 => (fX6_add r14 a1 a2 p9.2).bind fun p22 => if p22.1 = 0 then some ((-3), p22.2) else (p22.2.2.2.1 a0 2).bind fun r24 => (p22.2.2.2.1 r24 0).bind fun r27 => some ((p22.2.1 r27 4) - 1, p22.2)
set_option maxRecDepth 100000 in
set_option maxHeartbeats 4000000 in
theorem sX9_point_0 (G : am_G) (a0 : Nat) (a1 : Int32) (a2 : Int32) (M : am_M) (h_a0 : am_sh M a0 13) : am_S am_ei G 2 yX9_point.cls yX9_point.name cX9_point 3 (some FieldType.int) 0 [(0, .ref a0), (1, .int a1), (2, .int a2)] [] M (fX9_point a0 a1 a2 M) := by
  show am_S am_ei G 2 yX9_point.cls yX9_point.name cX9_point 3 (some FieldType.int) 0 [(0, .ref a0), (1, .int a1), (2, .int a2)] [] M ((M.2.2.1 a0 2).bind fun r1 => (fX5_hasCell r1 a1 a2 M).bind fun p9 => if p9.1 = 0 then some ((-1), p9.2) else (p9.2.2.2.1 a0 2).bind fun r11 => (p9.2.2.2.1 r11 0).bind fun r14 => (fX6_add r14 a1 a2 p9.2).bind fun p22 => if p22.1 = 0 then some ((-3), p22.2) else (p22.2.2.2.1 a0 2).bind fun r24 => (p22.2.2.2.1 r24 0).bind fun r27 => some ((p22.2.1 r27 4) - 1, p22.2))
  refine am_aload_n 0 dX9_point_0 rfl rfl ?_
  refine am_getR 8 dX9_point_1 fl_RX9_26 h_a0 rfl (fun r1 e2 h3 => ?_)
  refine am_iload_n 1 dX9_point_4 rfl rfl ?_
  refine am_iload_n 2 dX9_point_5 rfl rfl ?_
  refine am_callVi 4 [.int a1, .int a2] (CX5_hasCell G r1 a1 a2 M h3) dX9_point_6 mb_yX5_hasCell ⟨ml_RX9_91, im_yX5_hasCell, se_yX5_hasCell⟩ rfl h3 (by decide) rfl rfl (Nat.le_of_ble_eq_true rfl) (fun v8 M5 q4 w7 l6 => ?_)
  refine am_if_ne (tgt := 14) dX9_point_9 (by decide) (fun c10 => ?_) (fun c10 => ?_)
  · refine am_aload_n 0 dX9_point_14 rfl rfl ?_
    refine am_getR 8 dX9_point_15 fl_RX9_26 (am_sh.mono l6 h_a0) rfl (fun r11 e12 h13 => ?_)
    refine am_getR 4 dX9_point_18 fl_RX9_109 h13 rfl (fun r14 e15 h16 => ?_)
    refine am_iload_n 1 dX9_point_21 rfl rfl ?_
    refine am_iload_n 2 dX9_point_22 rfl rfl ?_
    refine am_callVi 5 [.int a1, .int a2] (CX6_add G r14 a1 a2 M5 h16) dX9_point_23 mb_yX6_add ⟨ml_RX9_113, im_yX6_add, se_yX6_add⟩ rfl h16 (by decide) rfl rfl (Nat.le_of_ble_eq_true rfl) (fun v21 M18 q17 w20 l19 => ?_)
    refine am_if_eq (tgt := 44) dX9_point_26 (by decide) (fun c23 => ?_) (fun c23 => ?_)
    · refine am_bipush (x := -3) dX9_point_44 (by decide) ?_
      exact am_iret dX9_point_46
    · refine am_aload_n 0 dX9_point_29 rfl rfl ?_
      refine am_getR 8 dX9_point_30 fl_RX9_26 (am_sh.mono l19 (am_sh.mono l6 h_a0)) rfl (fun r24 e25 h26 => ?_)
      refine am_getR 4 dX9_point_33 fl_RX9_109 h26 rfl (fun r27 e28 h29 => ?_)
      refine am_getI 5 dX9_point_36 fl_RX9_118 h29 rfl ?_
      refine am_iconst dX9_point_39 am_kc_1 ?_
      refine am_isub dX9_point_40 ?_
      refine am_goto (tgt := 46) dX9_point_41 (by decide) ?_
      exact am_iret dX9_point_46
  · refine am_iconst dX9_point_12 am_kc_m1 ?_
    exact am_iret dX9_point_13
theorem CX9_point (G : am_G) (a0 : Nat) (a1 : Int32) (a2 : Int32) (M : am_M) (h_a0 : am_sh M a0 13) : am_C am_ei G 2 yX9_point cX9_point 3 (some FieldType.int) [.ref a0, .int a1, .int a2] M (fX9_point a0 a1 a2 M) :=
  am_meth (by decide) rfl (Nat.le_of_ble_eq_true rfl) (sX9_point_0 G a0 a1 a2 M h_a0)
def fX9_lift (a0 : Nat) (a1 : Int32) (M : am_M) : Option (Int32 × am_M) := (M.2.2.1 a0 2).bind fun r1 => (M.2.2.1 r1 0).bind fun r4 => (fX6_remove r4 a1 M).bind fun p12 => if p12.1 = 0 then some ((-1), p12.2) else (p12.2.2.2.1 a0 2).bind fun r14 => (p12.2.2.2.1 r14 0).bind fun r17 => some (p12.2.1 r17 4, p12.2)
set_option maxRecDepth 100000 in
set_option maxHeartbeats 4000000 in
theorem sX9_lift_0 (G : am_G) (a0 : Nat) (a1 : Int32) (M : am_M) (h_a0 : am_sh M a0 13) : am_S am_ei G 2 yX9_lift.cls yX9_lift.name cX9_lift 2 (some FieldType.int) 0 [(0, .ref a0), (1, .int a1)] [] M (fX9_lift a0 a1 M) := by
  show am_S am_ei G 2 yX9_lift.cls yX9_lift.name cX9_lift 2 (some FieldType.int) 0 [(0, .ref a0), (1, .int a1)] [] M ((M.2.2.1 a0 2).bind fun r1 => (M.2.2.1 r1 0).bind fun r4 => (fX6_remove r4 a1 M).bind fun p12 => if p12.1 = 0 then some ((-1), p12.2) else (p12.2.2.2.1 a0 2).bind fun r14 => (p12.2.2.2.1 r14 0).bind fun r17 => some (p12.2.1 r17 4, p12.2))
  refine am_aload_n 0 dX9_lift_0 rfl rfl ?_
  refine am_getR 8 dX9_lift_1 fl_RX9_26 h_a0 rfl (fun r1 e2 h3 => ?_)
  refine am_getR 4 dX9_lift_4 fl_RX9_109 h3 rfl (fun r4 e5 h6 => ?_)
  refine am_iload_n 1 dX9_lift_7 rfl rfl ?_
  refine am_callVi 5 [.int a1] (CX6_remove G r4 a1 M h6) dX9_lift_8 mb_yX6_remove ⟨ml_RX9_121, im_yX6_remove, se_yX6_remove⟩ rfl h6 (by decide) rfl rfl (Nat.le_of_ble_eq_true rfl) (fun v11 M8 q7 w10 l9 => ?_)
  refine am_if_eq (tgt := 27) dX9_lift_11 (by decide) (fun c13 => ?_) (fun c13 => ?_)
  · refine am_iconst dX9_lift_27 am_kc_m1 ?_
    exact am_iret dX9_lift_28
  · refine am_aload_n 0 dX9_lift_14 rfl rfl ?_
    refine am_getR 8 dX9_lift_15 fl_RX9_26 (am_sh.mono l9 h_a0) rfl (fun r14 e15 h16 => ?_)
    refine am_getR 4 dX9_lift_18 fl_RX9_109 h16 rfl (fun r17 e18 h19 => ?_)
    refine am_getI 5 dX9_lift_21 fl_RX9_118 h19 rfl ?_
    refine am_goto (tgt := 28) dX9_lift_24 (by decide) ?_
    exact am_iret dX9_lift_28
theorem CX9_lift (G : am_G) (a0 : Nat) (a1 : Int32) (M : am_M) (h_a0 : am_sh M a0 13) : am_C am_ei G 2 yX9_lift cX9_lift 2 (some FieldType.int) [.ref a0, .int a1] M (fX9_lift a0 a1 M) :=
  am_meth (by decide) rfl (Nat.le_of_ble_eq_true rfl) (sX9_lift_0 G a0 a1 M h_a0)
def fX9_key (a0 : Nat) (a1 : Int32) (a2 : Int32) (M : am_M) : Option (Int32 × am_M) := (M.2.2.1 a0 2).bind fun r1 => (fX5_hasCell r1 a1 a2 M).bind fun p9 => if p9.1 = 0 then some ((-1), p9.2) else (p9.2.2.2.1 a0 2).bind fun r11 => (p9.2.2.2.1 a0 2).bind fun r14 => (fX1_keyOf (p9.2.1 r11 3) (p9.2.1 r14 4) a1 a2 p9.2).bind fun p22 => some (p22.1, p22.2)
set_option maxRecDepth 100000 in
set_option maxHeartbeats 4000000 in
theorem sX9_key_0 (G : am_G) (a0 : Nat) (a1 : Int32) (a2 : Int32) (M : am_M) (h_a0 : am_sh M a0 13) : am_S am_ei G 2 yX9_key.cls yX9_key.name cX9_key 3 (some FieldType.int) 0 [(0, .ref a0), (1, .int a1), (2, .int a2)] [] M (fX9_key a0 a1 a2 M) := by
  show am_S am_ei G 2 yX9_key.cls yX9_key.name cX9_key 3 (some FieldType.int) 0 [(0, .ref a0), (1, .int a1), (2, .int a2)] [] M ((M.2.2.1 a0 2).bind fun r1 => (fX5_hasCell r1 a1 a2 M).bind fun p9 => if p9.1 = 0 then some ((-1), p9.2) else (p9.2.2.2.1 a0 2).bind fun r11 => (p9.2.2.2.1 a0 2).bind fun r14 => (fX1_keyOf (p9.2.1 r11 3) (p9.2.1 r14 4) a1 a2 p9.2).bind fun p22 => some (p22.1, p22.2))
  refine am_aload_n 0 dX9_key_0 rfl rfl ?_
  refine am_getR 8 dX9_key_1 fl_RX9_26 h_a0 rfl (fun r1 e2 h3 => ?_)
  refine am_iload_n 1 dX9_key_4 rfl rfl ?_
  refine am_iload_n 2 dX9_key_5 rfl rfl ?_
  refine am_callVi 4 [.int a1, .int a2] (CX5_hasCell G r1 a1 a2 M h3) dX9_key_6 mb_yX5_hasCell ⟨ml_RX9_91, im_yX5_hasCell, se_yX5_hasCell⟩ rfl h3 (by decide) rfl rfl (Nat.le_of_ble_eq_true rfl) (fun v8 M5 q4 w7 l6 => ?_)
  refine am_if_eq (tgt := 34) dX9_key_9 (by decide) (fun c10 => ?_) (fun c10 => ?_)
  · refine am_iconst dX9_key_34 am_kc_m1 ?_
    exact am_iret dX9_key_35
  · refine am_aload_n 0 dX9_key_12 rfl rfl ?_
    refine am_getR 8 dX9_key_13 fl_RX9_26 (am_sh.mono l6 h_a0) rfl (fun r11 e12 h13 => ?_)
    refine am_getI 4 dX9_key_16 fl_RX9_82 h13 rfl ?_
    refine am_aload_n 0 dX9_key_19 rfl rfl ?_
    refine am_getR 8 dX9_key_20 fl_RX9_26 (am_sh.mono l6 h_a0) rfl (fun r14 e15 h16 => ?_)
    refine am_getI 4 dX9_key_23 fl_RX9_79 h16 rfl ?_
    refine am_iload_n 1 dX9_key_26 rfl rfl ?_
    refine am_iload_n 2 dX9_key_27 rfl rfl ?_
    refine am_callSi [.int (M5.1 r11 3), .int (M5.1 r14 4), .int a1, .int a2] (CX1_keyOf G (M5.1 r11 3) (M5.1 r14 4) a1 a2 M5) dX9_key_28 mb_yX1_keyOf ⟨ml_RX9_124, sm_yX1_keyOf⟩ (by decide) rfl rfl (Nat.le_of_ble_eq_true rfl) (fun v21 M18 q17 w20 l19 => ?_)
    refine am_goto (tgt := 35) dX9_key_31 (by decide) ?_
    exact am_iret dX9_key_35
theorem CX9_key (G : am_G) (a0 : Nat) (a1 : Int32) (a2 : Int32) (M : am_M) (h_a0 : am_sh M a0 13) : am_C am_ei G 2 yX9_key cX9_key 3 (some FieldType.int) [.ref a0, .int a1, .int a2] M (fX9_key a0 a1 a2 M) :=
  am_meth (by decide) rfl (Nat.le_of_ble_eq_true rfl) (sX9_key_0 G a0 a1 a2 M h_a0)
def fX9_cell (a0 : Nat) (a1 : Int32) (a2 : Int32) (M : am_M) : Option (Int32 × am_M) := (M.2.2.1 a0 2).bind fun r1 => (M.2.2.1 a0 2).bind fun r4 => (fX5_hasTile r1 (M.1 r4 3) a1 M).bind fun p12 => if p12.1 = 0 then some ((-1), p12.2) else (fX9_isBit a2 p12.2).bind fun p19 => if p19.1 = 0 then some ((-1), p19.2) else (p19.2.2.2.1 a0 2).bind fun r21 => (p19.2.2.2.1 a0 2).bind fun r24 => (fX1_placeOf (p19.2.1 r21 3) (p19.2.1 r24 4) a1 p19.2).bind fun p32 => (fX1_half p32.1 a2 p32.2).bind fun p38 => some (p38.1, p38.2)
set_option maxRecDepth 100000 in
set_option maxHeartbeats 4000000 in
theorem sX9_cell_0 (G : am_G) (a0 : Nat) (a1 : Int32) (a2 : Int32) (M : am_M) (h_a0 : am_sh M a0 13) : am_S am_ei G 2 yX9_cell.cls yX9_cell.name cX9_cell 3 (some FieldType.int) 0 [(0, .ref a0), (1, .int a1), (2, .int a2)] [] M (fX9_cell a0 a1 a2 M) := by
  show am_S am_ei G 2 yX9_cell.cls yX9_cell.name cX9_cell 3 (some FieldType.int) 0 [(0, .ref a0), (1, .int a1), (2, .int a2)] [] M ((M.2.2.1 a0 2).bind fun r1 => (M.2.2.1 a0 2).bind fun r4 => (fX5_hasTile r1 (M.1 r4 3) a1 M).bind fun p12 => if p12.1 = 0 then some ((-1), p12.2) else (fX9_isBit a2 p12.2).bind fun p19 => if p19.1 = 0 then some ((-1), p19.2) else (p19.2.2.2.1 a0 2).bind fun r21 => (p19.2.2.2.1 a0 2).bind fun r24 => (fX1_placeOf (p19.2.1 r21 3) (p19.2.1 r24 4) a1 p19.2).bind fun p32 => (fX1_half p32.1 a2 p32.2).bind fun p38 => some (p38.1, p38.2))
  refine am_aload_n 0 dX9_cell_0 rfl rfl ?_
  refine am_getR 8 dX9_cell_1 fl_RX9_26 h_a0 rfl (fun r1 e2 h3 => ?_)
  refine am_aload_n 0 dX9_cell_4 rfl rfl ?_
  refine am_getR 8 dX9_cell_5 fl_RX9_26 h_a0 rfl (fun r4 e5 h6 => ?_)
  refine am_getI 4 dX9_cell_8 fl_RX9_82 h6 rfl ?_
  refine am_iload_n 1 dX9_cell_11 rfl rfl ?_
  refine am_callVi 4 [.int (M.1 r4 3), .int a1] (CX5_hasTile G r1 (M.1 r4 3) a1 M h3) dX9_cell_12 mb_yX5_hasTile ⟨ml_RX9_130, im_yX5_hasTile, se_yX5_hasTile⟩ rfl h3 (by decide) rfl rfl (Nat.le_of_ble_eq_true rfl) (fun v11 M8 q7 w10 l9 => ?_)
  refine am_if_eq (tgt := 25) dX9_cell_15 (by decide) (fun c13 => ?_) (fun c13 => ?_)
  · refine am_iconst dX9_cell_25 am_kc_m1 ?_
    exact am_iret dX9_cell_26
  · refine am_iload_n 2 dX9_cell_18 rfl rfl ?_
    refine am_callSi [.int a2] (CX9_isBit G a2 M8) dX9_cell_19 mb_yX9_isBit ⟨ml_RX9_75, sm_yX9_isBit⟩ (by decide) rfl rfl (Nat.le_of_ble_eq_true rfl) (fun v18 M15 q14 w17 l16 => ?_)
    refine am_if_ne (tgt := 27) dX9_cell_22 (by decide) (fun c20 => ?_) (fun c20 => ?_)
    · refine am_aload_n 0 dX9_cell_27 rfl rfl ?_
      refine am_getR 8 dX9_cell_28 fl_RX9_26 (am_sh.mono l16 (am_sh.mono l9 h_a0)) rfl (fun r21 e22 h23 => ?_)
      refine am_getI 4 dX9_cell_31 fl_RX9_82 h23 rfl ?_
      refine am_aload_n 0 dX9_cell_34 rfl rfl ?_
      refine am_getR 8 dX9_cell_35 fl_RX9_26 (am_sh.mono l16 (am_sh.mono l9 h_a0)) rfl (fun r24 e25 h26 => ?_)
      refine am_getI 4 dX9_cell_38 fl_RX9_79 h26 rfl ?_
      refine am_iload_n 1 dX9_cell_41 rfl rfl ?_
      refine am_callSi [.int (M15.1 r21 3), .int (M15.1 r24 4), .int a1] (CX1_placeOf G (M15.1 r21 3) (M15.1 r24 4) a1 M15) dX9_cell_42 mb_yX1_placeOf ⟨ml_RX9_133, sm_yX1_placeOf⟩ (by decide) rfl rfl (Nat.le_of_ble_eq_true rfl) (fun v31 M28 q27 w30 l29 => ?_)
      refine am_iload_n 2 dX9_cell_45 rfl rfl ?_
      refine am_callSi [.int v31, .int a2] (CX1_half G v31 a2 M28) dX9_cell_46 mb_yX1_half ⟨ml_RX9_137, sm_yX1_half⟩ (by decide) rfl rfl (Nat.le_of_ble_eq_true rfl) (fun v37 M34 q33 w36 l35 => ?_)
      exact am_iret dX9_cell_49
    · refine am_iconst dX9_cell_25 am_kc_m1 ?_
      exact am_iret dX9_cell_26
theorem CX9_cell (G : am_G) (a0 : Nat) (a1 : Int32) (a2 : Int32) (M : am_M) (h_a0 : am_sh M a0 13) : am_C am_ei G 2 yX9_cell cX9_cell 3 (some FieldType.int) [.ref a0, .int a1, .int a2] M (fX9_cell a0 a1 a2 M) :=
  am_meth (by decide) rfl (Nat.le_of_ble_eq_true rfl) (sX9_cell_0 G a0 a1 a2 M h_a0)
def fX9_tile (a0 : Nat) (a1 : Int32) (a2 : Int32) (a3 : Int32) (M : am_M) : Option (Int32 × am_M) := (M.2.2.1 a0 2).bind fun r1 => (fX5_hasTile r1 a1 a2 M).bind fun p9 => if p9.1 = 0 then some ((-1), p9.2) else if a3 < 0 then some ((-1), p9.2) else if a3 ≤ 6 then (p9.2.2.2.1 a0 2).bind fun r13 => (p9.2.2.2.1 a0 2).bind fun r16 => (fX5_tileSize r16 a1 p9.2).bind fun p24 => if a3 = 0 then (p24.2.2.2.1 a0 2).bind fun r26 => (fX1_placeOf a1 (p24.2.1 r26 4) a2 p24.2).bind fun p34 => (fX1_half p34.1 a3 p34.2).bind fun p40 => some (p40.1 * (1 <<< (((p9.2.1 r13 3) - a1) &&& 31)), p40.2) else if a3 = 1 then (p24.2.2.2.1 a0 2).bind fun r42 => (fX1_placeOf a1 (p24.2.1 r42 4) a2 p24.2).bind fun p50 => (fX1_half p50.1 a3 p50.2).bind fun p56 => some (p56.1 * (1 <<< (((p9.2.1 r13 3) - a1) &&& 31)), p56.2) else if a3 = 2 then some (1 <<< (((p9.2.1 r13 3) - a1) &&& 31), p24.2) else if a3 = 3 then some (a2 * p24.1, p24.2) else if a3 = 4 then some (((a2 * p24.1) + p24.1) - 1, p24.2) else if a3 = 5 then (p24.2.2.2.1 a0 1).bind fun r61 => (p24.2.2.2.1 a0 2).bind fun r64 => (fX0_refresh r61 r64 p24.2).bind fun M68 => (M68.2.2.1 a0 1).bind fun r72 => (M68.2.2.1 r72 0).bind fun r75 => (fX3_countIn r75 (a2 * p24.1) p24.1 M68).bind fun p83 => some (p83.1, p83.2) else (p24.2.2.2.1 a0 2).bind fun r84 => (fX5_pointsIn r84 a1 a2 p24.2).bind fun p92 => some (p92.1, p92.2) else some ((-1), p9.2)
set_option maxRecDepth 100000 in
set_option maxHeartbeats 4000000 in
theorem sX9_tile_0 (G : am_G) (a0 : Nat) (a1 : Int32) (a2 : Int32) (a3 : Int32) (M : am_M) (h_a0 : am_sh M a0 13) : am_S am_ei G 4 yX9_tile.cls yX9_tile.name cX9_tile 6 (some FieldType.int) 0 [(0, .ref a0), (1, .int a1), (2, .int a2), (3, .int a3)] [] M (fX9_tile a0 a1 a2 a3 M) := by
  show am_S am_ei G 4 yX9_tile.cls yX9_tile.name cX9_tile 6 (some FieldType.int) 0 [(0, .ref a0), (1, .int a1), (2, .int a2), (3, .int a3)] [] M ((M.2.2.1 a0 2).bind fun r1 => (fX5_hasTile r1 a1 a2 M).bind fun p9 => if p9.1 = 0 then some ((-1), p9.2) else if a3 < 0 then some ((-1), p9.2) else if a3 ≤ 6 then (p9.2.2.2.1 a0 2).bind fun r13 => (p9.2.2.2.1 a0 2).bind fun r16 => (fX5_tileSize r16 a1 p9.2).bind fun p24 => if a3 = 0 then (p24.2.2.2.1 a0 2).bind fun r26 => (fX1_placeOf a1 (p24.2.1 r26 4) a2 p24.2).bind fun p34 => (fX1_half p34.1 a3 p34.2).bind fun p40 => some (p40.1 * (1 <<< (((p9.2.1 r13 3) - a1) &&& 31)), p40.2) else if a3 = 1 then (p24.2.2.2.1 a0 2).bind fun r42 => (fX1_placeOf a1 (p24.2.1 r42 4) a2 p24.2).bind fun p50 => (fX1_half p50.1 a3 p50.2).bind fun p56 => some (p56.1 * (1 <<< (((p9.2.1 r13 3) - a1) &&& 31)), p56.2) else if a3 = 2 then some (1 <<< (((p9.2.1 r13 3) - a1) &&& 31), p24.2) else if a3 = 3 then some (a2 * p24.1, p24.2) else if a3 = 4 then some (((a2 * p24.1) + p24.1) - 1, p24.2) else if a3 = 5 then (p24.2.2.2.1 a0 1).bind fun r61 => (p24.2.2.2.1 a0 2).bind fun r64 => (fX0_refresh r61 r64 p24.2).bind fun M68 => (M68.2.2.1 a0 1).bind fun r72 => (M68.2.2.1 r72 0).bind fun r75 => (fX3_countIn r75 (a2 * p24.1) p24.1 M68).bind fun p83 => some (p83.1, p83.2) else (p24.2.2.2.1 a0 2).bind fun r84 => (fX5_pointsIn r84 a1 a2 p24.2).bind fun p92 => some (p92.1, p92.2) else some ((-1), p9.2))
  refine am_aload_n 0 dX9_tile_0 rfl rfl ?_
  refine am_getR 8 dX9_tile_1 fl_RX9_26 h_a0 rfl (fun r1 e2 h3 => ?_)
  refine am_iload_n 1 dX9_tile_4 rfl rfl ?_
  refine am_iload_n 2 dX9_tile_5 rfl rfl ?_
  refine am_callVi 4 [.int a1, .int a2] (CX5_hasTile G r1 a1 a2 M h3) dX9_tile_6 mb_yX5_hasTile ⟨ml_RX9_130, im_yX5_hasTile, se_yX5_hasTile⟩ rfl h3 (by decide) rfl rfl (Nat.le_of_ble_eq_true rfl) (fun v8 M5 q4 w7 l6 => ?_)
  refine am_if_eq (tgt := 22) dX9_tile_9 (by decide) (fun c10 => ?_) (fun c10 => ?_)
  · refine am_iconst dX9_tile_22 am_kc_m1 ?_
    exact am_iret dX9_tile_23
  · refine am_iload_n 3 dX9_tile_12 rfl rfl ?_
    refine am_if_lt (tgt := 22) dX9_tile_13 (by decide) (fun c11 => ?_) (fun c11 => ?_)
    · refine am_iconst dX9_tile_22 am_kc_m1 ?_
      exact am_iret dX9_tile_23
    · refine am_iload_n 3 dX9_tile_16 rfl rfl ?_
      refine am_bipush (x := 6) dX9_tile_17 (by decide) ?_
      refine am_icmp_le (tgt := 24) dX9_tile_19 (by decide) (fun c12 => ?_) (fun c12 => ?_)
      · refine am_iconst dX9_tile_24 am_kc_1 ?_
        refine am_aload_n 0 dX9_tile_25 rfl rfl ?_
        refine am_getR 8 dX9_tile_26 fl_RX9_26 (am_sh.mono l6 h_a0) rfl (fun r13 e14 h15 => ?_)
        refine am_getI 4 dX9_tile_29 fl_RX9_82 h15 rfl ?_
        refine am_iload_n 1 dX9_tile_32 rfl rfl ?_
        refine am_isub dX9_tile_33 ?_
        refine am_ishl dX9_tile_34 ?_
        refine am_istore (L' := [(4, .int (1 <<< (((M5.1 r13 3) - a1) &&& 31))), (0, .ref a0), (1, .int a1), (2, .int a2), (3, .int a3)]) dX9_tile_35 (by decide) rfl ?_
        refine am_aload_n 1 dX9_tile_37 rfl rfl ?_
        refine am_getR 8 dX9_tile_38 fl_RX9_26 (am_sh.mono l6 h_a0) rfl (fun r16 e17 h18 => ?_)
        refine am_iload_n 2 dX9_tile_41 rfl rfl ?_
        refine am_callVi 4 [.int a1] (CX5_tileSize G r16 a1 M5 h18) dX9_tile_42 mb_yX5_tileSize ⟨ml_RX9_141, im_yX5_tileSize, se_yX5_tileSize⟩ rfl h18 (by decide) rfl rfl (Nat.le_of_ble_eq_true rfl) (fun v23 M20 q19 w22 l21 => ?_)
        refine am_istore (L' := [(5, .int v23), (4, .int (1 <<< (((M5.1 r13 3) - a1) &&& 31))), (0, .ref a0), (1, .int a1), (2, .int a2), (3, .int a3)]) dX9_tile_45 (by decide) rfl ?_
        refine am_iload_n 5 dX9_tile_47 rfl rfl ?_
        refine am_case (fun c25 => ?_) (fun c25 => ?_)
        · have e_c25 : a3.toInt = 0 := by rw [c25]; decide
          refine am_swIn (off := 40) (tgt := 88) dX9_tile_48 (by omega) (by omega) (by rw [e_c25]; rfl) (by decide) ?_
          refine am_iload_n 3 dX9_tile_88 rfl rfl ?_
          refine am_aload_n 2 dX9_tile_89 rfl rfl ?_
          refine am_getR 8 dX9_tile_90 fl_RX9_26 (am_sh.mono l21 (am_sh.mono l6 h_a0)) rfl (fun r26 e27 h28 => ?_)
          refine am_getI 4 dX9_tile_93 fl_RX9_79 h28 rfl ?_
          refine am_iload_n 4 dX9_tile_96 rfl rfl ?_
          refine am_callSi [.int a1, .int (M20.1 r26 4), .int a2] (CX1_placeOf G a1 (M20.1 r26 4) a2 M20) dX9_tile_97 mb_yX1_placeOf ⟨ml_RX9_133, sm_yX1_placeOf⟩ (by decide) rfl rfl (Nat.le_of_ble_eq_true rfl) (fun v33 M30 q29 w32 l31 => ?_)
          refine am_iload_n 5 dX9_tile_100 rfl rfl ?_
          refine am_callSi [.int v33, .int a3] (CX1_half G v33 a3 M30) dX9_tile_101 mb_yX1_half ⟨ml_RX9_137, sm_yX1_half⟩ (by decide) rfl rfl (Nat.le_of_ble_eq_true rfl) (fun v39 M36 q35 w38 l37 => ?_)
          refine am_iload 1 dX9_tile_104 rfl ?_
          refine am_imul dX9_tile_106 ?_
          exact am_iret dX9_tile_107
        refine am_case (fun c41 => ?_) (fun c41 => ?_)
        · have e_c41 : a3.toInt = 1 := by rw [c41]; decide
          refine am_swIn (off := 40) (tgt := 88) dX9_tile_48 (by omega) (by omega) (by rw [e_c41]; rfl) (by decide) ?_
          refine am_iload_n 3 dX9_tile_88 rfl rfl ?_
          refine am_aload_n 2 dX9_tile_89 rfl rfl ?_
          refine am_getR 8 dX9_tile_90 fl_RX9_26 (am_sh.mono l21 (am_sh.mono l6 h_a0)) rfl (fun r42 e43 h44 => ?_)
          refine am_getI 4 dX9_tile_93 fl_RX9_79 h44 rfl ?_
          refine am_iload_n 4 dX9_tile_96 rfl rfl ?_
          refine am_callSi [.int a1, .int (M20.1 r42 4), .int a2] (CX1_placeOf G a1 (M20.1 r42 4) a2 M20) dX9_tile_97 mb_yX1_placeOf ⟨ml_RX9_133, sm_yX1_placeOf⟩ (by decide) rfl rfl (Nat.le_of_ble_eq_true rfl) (fun v49 M46 q45 w48 l47 => ?_)
          refine am_iload_n 5 dX9_tile_100 rfl rfl ?_
          refine am_callSi [.int v49, .int a3] (CX1_half G v49 a3 M46) dX9_tile_101 mb_yX1_half ⟨ml_RX9_137, sm_yX1_half⟩ (by decide) rfl rfl (Nat.le_of_ble_eq_true rfl) (fun v55 M52 q51 w54 l53 => ?_)
          refine am_iload 1 dX9_tile_104 rfl ?_
          refine am_imul dX9_tile_106 ?_
          exact am_iret dX9_tile_107
        refine am_case (fun c57 => ?_) (fun c57 => ?_)
        · have e_c57 : a3.toInt = 2 := by rw [c57]; decide
          refine am_swIn (off := 60) (tgt := 108) dX9_tile_48 (by omega) (by omega) (by rw [e_c57]; rfl) (by decide) ?_
          refine am_iload 1 dX9_tile_108 rfl ?_
          exact am_iret dX9_tile_110
        refine am_case (fun c58 => ?_) (fun c58 => ?_)
        · have e_c58 : a3.toInt = 3 := by rw [c58]; decide
          refine am_swIn (off := 63) (tgt := 111) dX9_tile_48 (by omega) (by omega) (by rw [e_c58]; rfl) (by decide) ?_
          refine am_iload_n 4 dX9_tile_111 rfl rfl ?_
          refine am_iload 0 dX9_tile_112 rfl ?_
          refine am_imul dX9_tile_114 ?_
          exact am_iret dX9_tile_115
        refine am_case (fun c59 => ?_) (fun c59 => ?_)
        · have e_c59 : a3.toInt = 4 := by rw [c59]; decide
          refine am_swIn (off := 68) (tgt := 116) dX9_tile_48 (by omega) (by omega) (by rw [e_c59]; rfl) (by decide) ?_
          refine am_iload_n 4 dX9_tile_116 rfl rfl ?_
          refine am_iload 0 dX9_tile_117 rfl ?_
          refine am_imul dX9_tile_119 ?_
          refine am_iload 0 dX9_tile_120 rfl ?_
          refine am_iadd dX9_tile_122 ?_
          refine am_iconst dX9_tile_123 am_kc_1 ?_
          refine am_isub dX9_tile_124 ?_
          exact am_iret dX9_tile_125
        refine am_case (fun c60 => ?_) (fun c60 => ?_)
        · have e_c60 : a3.toInt = 5 := by rw [c60]; decide
          refine am_swIn (off := 78) (tgt := 126) dX9_tile_48 (by omega) (by omega) (by rw [e_c60]; rfl) (by decide) ?_
          refine am_aload_n 2 dX9_tile_126 rfl rfl ?_
          refine am_getR 8 dX9_tile_127 fl_RX9_19 (am_sh.mono l21 (am_sh.mono l6 h_a0)) rfl (fun r61 e62 h63 => ?_)
          refine am_aload_n 2 dX9_tile_130 rfl rfl ?_
          refine am_getR 8 dX9_tile_131 fl_RX9_26 (am_sh.mono l21 (am_sh.mono l6 h_a0)) rfl (fun r64 e65 h66 => ?_)
          refine am_callVv 0 [.ref r64] (CX0_refresh G r61 r64 M20 h63 h66) dX9_tile_134 mb_yX0_refresh ⟨ml_RX9_145, im_yX0_refresh, se_yX0_refresh⟩ rfl h63 (by decide) rfl rfl (Nat.le_of_ble_eq_true rfl) (fun M68 q67 w70 l69 => ?_)
          refine am_aload_n 2 dX9_tile_137 rfl rfl ?_
          refine am_getR 8 dX9_tile_138 fl_RX9_19 (am_sh.mono l69 (am_sh.mono l21 (am_sh.mono l6 h_a0))) rfl (fun r72 e73 h74 => ?_)
          refine am_getR 0 dX9_tile_141 fl_RX9_149 h74 rfl (fun r75 e76 h77 => ?_)
          refine am_iload_n 4 dX9_tile_144 rfl rfl ?_
          refine am_iload 0 dX9_tile_145 rfl ?_
          refine am_imul dX9_tile_147 ?_
          refine am_iload 0 dX9_tile_148 rfl ?_
          refine am_callVi 2 [.int (a2 * v23), .int v23] (CX3_countIn G r75 (a2 * v23) v23 M68 h77) dX9_tile_150 mb_yX3_countIn ⟨ml_RX9_153, im_yX3_countIn, se_yX3_countIn⟩ rfl h77 (by decide) rfl rfl (Nat.le_of_ble_eq_true rfl) (fun v82 M79 q78 w81 l80 => ?_)
          exact am_iret dX9_tile_153
        have e_c25 : a3.toInt ≠ 0 := am_ine c25
        have e_c41 : a3.toInt ≠ 1 := am_ine c41
        have e_c57 : a3.toInt ≠ 2 := am_ine c57
        have e_c58 : a3.toInt ≠ 3 := am_ine c58
        have e_c59 : a3.toInt ≠ 4 := am_ine c59
        have e_c60 : a3.toInt ≠ 5 := am_ine c60
        refine am_swOut (tgt := 154) dX9_tile_48 (by omega) (by decide) ?_
        refine am_aload_n 2 dX9_tile_154 rfl rfl ?_
        refine am_getR 8 dX9_tile_155 fl_RX9_26 (am_sh.mono l21 (am_sh.mono l6 h_a0)) rfl (fun r84 e85 h86 => ?_)
        refine am_iload_n 3 dX9_tile_158 rfl rfl ?_
        refine am_iload_n 4 dX9_tile_159 rfl rfl ?_
        refine am_callVi 4 [.int a1, .int a2] (CX5_pointsIn G r84 a1 a2 M20 h86) dX9_tile_160 mb_yX5_pointsIn ⟨ml_RX9_158, im_yX5_pointsIn, se_yX5_pointsIn⟩ rfl h86 (by decide) rfl rfl (Nat.le_of_ble_eq_true rfl) (fun v91 M88 q87 w90 l89 => ?_)
        exact am_iret dX9_tile_163
      · refine am_iconst dX9_tile_22 am_kc_m1 ?_
        exact am_iret dX9_tile_23
theorem CX9_tile (G : am_G) (a0 : Nat) (a1 : Int32) (a2 : Int32) (a3 : Int32) (M : am_M) (h_a0 : am_sh M a0 13) : am_C am_ei G 4 yX9_tile cX9_tile 6 (some FieldType.int) [.ref a0, .int a1, .int a2, .int a3] M (fX9_tile a0 a1 a2 a3 M) :=
  am_meth (by decide) rfl (Nat.le_of_ble_eq_true rfl) (sX9_tile_0 G a0 a1 a2 a3 M h_a0)
def fX9_isStep (a0 : Int32) (M : am_M) : Option (Int32 × am_M) := if a0 < (-1) then some (0, M) else if (1 : Int32) < a0 then some (0, M) else some (1, M)
set_option maxRecDepth 100000 in
set_option maxHeartbeats 4000000 in
theorem sX9_isStep_0 (G : am_G) (a0 : Int32) (M : am_M) : am_S am_ei G 0 yX9_isStep.cls yX9_isStep.name cX9_isStep 1 (some FieldType.boolean) 0 [(0, .int a0)] [] M (fX9_isStep a0 M) := by
  show am_S am_ei G 0 yX9_isStep.cls yX9_isStep.name cX9_isStep 1 (some FieldType.boolean) 0 [(0, .int a0)] [] M (if a0 < (-1) then some (0, M) else if (1 : Int32) < a0 then some (0, M) else some (1, M))
  refine am_iload_n 0 dX9_isStep_0 rfl rfl ?_
  refine am_iconst dX9_isStep_1 am_kc_m1 ?_
  refine am_icmp_lt (tgt := 14) dX9_isStep_2 (by decide) (fun c1 => ?_) (fun c1 => ?_)
  · refine am_iconst dX9_isStep_14 am_kc_0 ?_
    exact am_zret0 dX9_isStep_15
  · refine am_iload_n 0 dX9_isStep_5 rfl rfl ?_
    refine am_iconst dX9_isStep_6 am_kc_1 ?_
    refine am_icmp_gt (tgt := 14) dX9_isStep_7 (by decide) (fun c2 => ?_) (fun c2 => ?_)
    · refine am_iconst dX9_isStep_14 am_kc_0 ?_
      exact am_zret0 dX9_isStep_15
    · refine am_iconst dX9_isStep_10 am_kc_1 ?_
      refine am_goto (tgt := 15) dX9_isStep_11 (by decide) ?_
      exact am_zret1 dX9_isStep_15
theorem CX9_isStep (G : am_G) (a0 : Int32) (M : am_M) : am_C am_ei G 0 yX9_isStep cX9_isStep 1 (some FieldType.boolean) [.int a0] M (fX9_isStep a0 M) :=
  am_meth (by decide) rfl (Nat.le_of_ble_eq_true rfl) (sX9_isStep_0 G a0 M)
def fX9_beside_38 (x0 : Nat) (x1 : Int32) (x2 : Int32) (x3 : Int32) (x4 : Int32) (M : am_M) : Option (Int32 × am_M) := (M.2.2.1 x0 2).bind fun r26 => (fX1_placeOf x1 (M.1 r26 4) x2 M).bind fun p34 => (fX1_half p34.1 0 p34.2).bind fun p40 => (fX1_half p34.1 1 p40.2).bind fun p46 => if p40.1 + x3 < 0 then some ((-4), p46.2) else if 1 <<< (x1 &&& 31) ≤ p40.1 + x3 then some ((-4), p46.2) else if p46.1 + x4 < 0 then some ((-4), p46.2) else if p46.1 + x4 < 1 <<< (x1 &&& 31) then (p46.2.2.2.1 x0 2).bind fun r51 => (fX1_keyOf x1 (p46.2.1 r51 4) (p40.1 + x3) (p46.1 + x4) p46.2).bind fun p59 => some (p59.1, p59.2) else some ((-4), p46.2)
def fX9_beside (a0 : Nat) (a1 : Int32) (a2 : Int32) (a3 : Int32) (a4 : Int32) (M : am_M) : Option (Int32 × am_M) := (M.2.2.1 a0 2).bind fun r1 => (fX5_hasTile r1 a1 a2 M).bind fun p9 => if p9.1 = 0 then some ((-1), p9.2) else (fX9_isStep a3 p9.2).bind fun p16 => if p16.1 = 0 then some ((-1), p16.2) else (fX9_isStep a4 p16.2).bind fun p23 => if p23.1 = 0 then some ((-1), p23.2) else if a3 = 0 then if a4 = 0 then some ((-1), p23.2) else fX9_beside_38 a0 a1 a2 a3 a4 p23.2 else fX9_beside_38 a0 a1 a2 a3 a4 p23.2
set_option maxRecDepth 100000 in
set_option maxHeartbeats 4000000 in
theorem sX9_beside_38 (G : am_G) (x0 : Nat) (x1 : Int32) (x2 : Int32) (x3 : Int32) (x4 : Int32) (M : am_M) (h_x0 : am_sh M x0 13) : am_S am_ei G 2 yX9_beside.cls yX9_beside.name cX9_beside 9 (some FieldType.int) 38 [(0, .ref x0), (1, .int x1), (2, .int x2), (3, .int x3), (4, .int x4)] [] M (fX9_beside_38 x0 x1 x2 x3 x4 M) := by
  show am_S am_ei G 2 yX9_beside.cls yX9_beside.name cX9_beside 9 (some FieldType.int) 38 [(0, .ref x0), (1, .int x1), (2, .int x2), (3, .int x3), (4, .int x4)] [] M ((M.2.2.1 x0 2).bind fun r26 => (fX1_placeOf x1 (M.1 r26 4) x2 M).bind fun p34 => (fX1_half p34.1 0 p34.2).bind fun p40 => (fX1_half p34.1 1 p40.2).bind fun p46 => if p40.1 + x3 < 0 then some ((-4), p46.2) else if 1 <<< (x1 &&& 31) ≤ p40.1 + x3 then some ((-4), p46.2) else if p46.1 + x4 < 0 then some ((-4), p46.2) else if p46.1 + x4 < 1 <<< (x1 &&& 31) then (p46.2.2.2.1 x0 2).bind fun r51 => (fX1_keyOf x1 (p46.2.1 r51 4) (p40.1 + x3) (p46.1 + x4) p46.2).bind fun p59 => some (p59.1, p59.2) else some ((-4), p46.2))
  refine am_iload_n 1 dX9_beside_38 rfl rfl ?_
  refine am_aload_n 0 dX9_beside_39 rfl rfl ?_
  refine am_getR 8 dX9_beside_40 fl_RX9_26 h_x0 rfl (fun r26 e27 h28 => ?_)
  refine am_getI 4 dX9_beside_43 fl_RX9_79 h28 rfl ?_
  refine am_iload_n 2 dX9_beside_46 rfl rfl ?_
  refine am_callSi [.int x1, .int (M.1 r26 4), .int x2] (CX1_placeOf G x1 (M.1 r26 4) x2 M) dX9_beside_47 mb_yX1_placeOf ⟨ml_RX9_133, sm_yX1_placeOf⟩ (by decide) rfl rfl (Nat.le_of_ble_eq_true rfl) (fun v33 M30 q29 w32 l31 => ?_)
  refine am_istore (L' := [(5, .int v33), (0, .ref x0), (1, .int x1), (2, .int x2), (3, .int x3), (4, .int x4)]) dX9_beside_50 (by decide) rfl ?_
  refine am_iload 0 dX9_beside_52 rfl ?_
  refine am_iconst dX9_beside_54 am_kc_0 ?_
  refine am_callSi [.int v33, .int 0] (CX1_half G v33 0 M30) dX9_beside_55 mb_yX1_half ⟨ml_RX9_137, sm_yX1_half⟩ (by decide) rfl rfl (Nat.le_of_ble_eq_true rfl) (fun v39 M36 q35 w38 l37 => ?_)
  refine am_iload_n 4 dX9_beside_58 rfl rfl ?_
  refine am_iadd dX9_beside_59 ?_
  refine am_istore (L' := [(6, .int (v39 + x3)), (5, .int v33), (0, .ref x0), (1, .int x1), (2, .int x2), (3, .int x3), (4, .int x4)]) dX9_beside_60 (by decide) rfl ?_
  refine am_iload 1 dX9_beside_62 rfl ?_
  refine am_iconst dX9_beside_64 am_kc_1 ?_
  refine am_callSi [.int v33, .int 1] (CX1_half G v33 1 M36) dX9_beside_65 mb_yX1_half ⟨ml_RX9_137, sm_yX1_half⟩ (by decide) rfl rfl (Nat.le_of_ble_eq_true rfl) (fun v45 M42 q41 w44 l43 => ?_)
  refine am_iload 6 dX9_beside_68 rfl ?_
  refine am_iadd dX9_beside_70 ?_
  refine am_istore (L' := [(7, .int (v45 + x4)), (6, .int (v39 + x3)), (5, .int v33), (0, .ref x0), (1, .int x1), (2, .int x2), (3, .int x3), (4, .int x4)]) dX9_beside_71 (by decide) rfl ?_
  refine am_iconst dX9_beside_73 am_kc_1 ?_
  refine am_iload_n 4 dX9_beside_74 rfl rfl ?_
  refine am_ishl dX9_beside_75 ?_
  refine am_istore (L' := [(8, .int (1 <<< (x1 &&& 31))), (7, .int (v45 + x4)), (6, .int (v39 + x3)), (5, .int v33), (0, .ref x0), (1, .int x1), (2, .int x2), (3, .int x3), (4, .int x4)]) dX9_beside_76 (by decide) rfl ?_
  refine am_iload 2 dX9_beside_78 rfl ?_
  refine am_if_lt (tgt := 102) dX9_beside_80 (by decide) (fun c47 => ?_) (fun c47 => ?_)
  · refine am_bipush (x := -4) dX9_beside_102 (by decide) ?_
    exact am_iret dX9_beside_104
  · refine am_iload 2 dX9_beside_83 rfl ?_
    refine am_iload 0 dX9_beside_85 rfl ?_
    refine am_icmp_ge (tgt := 102) dX9_beside_87 (by decide) (fun c48 => ?_) (fun c48 => ?_)
    · refine am_bipush (x := -4) dX9_beside_102 (by decide) ?_
      exact am_iret dX9_beside_104
    · refine am_iload 1 dX9_beside_90 rfl ?_
      refine am_if_lt (tgt := 102) dX9_beside_92 (by decide) (fun c49 => ?_) (fun c49 => ?_)
      · refine am_bipush (x := -4) dX9_beside_102 (by decide) ?_
        exact am_iret dX9_beside_104
      · refine am_iload 1 dX9_beside_95 rfl ?_
        refine am_iload 0 dX9_beside_97 rfl ?_
        refine am_icmp_lt (tgt := 105) dX9_beside_99 (by decide) (fun c50 => ?_) (fun c50 => ?_)
        · refine am_iload_n 5 dX9_beside_105 rfl rfl ?_
          refine am_aload_n 4 dX9_beside_106 rfl rfl ?_
          refine am_getR 8 dX9_beside_107 fl_RX9_26 (am_sh.mono l43 (am_sh.mono l37 (am_sh.mono l31 h_x0))) rfl (fun r51 e52 h53 => ?_)
          refine am_getI 4 dX9_beside_110 fl_RX9_79 h53 rfl ?_
          refine am_iload 2 dX9_beside_113 rfl ?_
          refine am_iload 1 dX9_beside_115 rfl ?_
          refine am_callSi [.int x1, .int (M42.1 r51 4), .int (v39 + x3), .int (v45 + x4)] (CX1_keyOf G x1 (M42.1 r51 4) (v39 + x3) (v45 + x4) M42) dX9_beside_117 mb_yX1_keyOf ⟨ml_RX9_124, sm_yX1_keyOf⟩ (by decide) rfl rfl (Nat.le_of_ble_eq_true rfl) (fun v58 M55 q54 w57 l56 => ?_)
          exact am_iret dX9_beside_120
        · refine am_bipush (x := -4) dX9_beside_102 (by decide) ?_
          exact am_iret dX9_beside_104
set_option maxRecDepth 100000 in
set_option maxHeartbeats 4000000 in
theorem sX9_beside_0 (G : am_G) (a0 : Nat) (a1 : Int32) (a2 : Int32) (a3 : Int32) (a4 : Int32) (M : am_M) (h_a0 : am_sh M a0 13) : am_S am_ei G 2 yX9_beside.cls yX9_beside.name cX9_beside 9 (some FieldType.int) 0 [(0, .ref a0), (1, .int a1), (2, .int a2), (3, .int a3), (4, .int a4)] [] M (fX9_beside a0 a1 a2 a3 a4 M) := by
  show am_S am_ei G 2 yX9_beside.cls yX9_beside.name cX9_beside 9 (some FieldType.int) 0 [(0, .ref a0), (1, .int a1), (2, .int a2), (3, .int a3), (4, .int a4)] [] M ((M.2.2.1 a0 2).bind fun r1 => (fX5_hasTile r1 a1 a2 M).bind fun p9 => if p9.1 = 0 then some ((-1), p9.2) else (fX9_isStep a3 p9.2).bind fun p16 => if p16.1 = 0 then some ((-1), p16.2) else (fX9_isStep a4 p16.2).bind fun p23 => if p23.1 = 0 then some ((-1), p23.2) else if a3 = 0 then if a4 = 0 then some ((-1), p23.2) else fX9_beside_38 a0 a1 a2 a3 a4 p23.2 else fX9_beside_38 a0 a1 a2 a3 a4 p23.2)
  refine am_aload_n 0 dX9_beside_0 rfl rfl ?_
  refine am_getR 8 dX9_beside_1 fl_RX9_26 h_a0 rfl (fun r1 e2 h3 => ?_)
  refine am_iload_n 1 dX9_beside_4 rfl rfl ?_
  refine am_iload_n 2 dX9_beside_5 rfl rfl ?_
  refine am_callVi 4 [.int a1, .int a2] (CX5_hasTile G r1 a1 a2 M h3) dX9_beside_6 mb_yX5_hasTile ⟨ml_RX9_130, im_yX5_hasTile, se_yX5_hasTile⟩ rfl h3 (by decide) rfl rfl (Nat.le_of_ble_eq_true rfl) (fun v8 M5 q4 w7 l6 => ?_)
  refine am_if_eq (tgt := 36) dX9_beside_9 (by decide) (fun c10 => ?_) (fun c10 => ?_)
  · refine am_iconst dX9_beside_36 am_kc_m1 ?_
    exact am_iret dX9_beside_37
  · refine am_iload_n 3 dX9_beside_12 rfl rfl ?_
    refine am_callSi [.int a3] (CX9_isStep G a3 M5) dX9_beside_13 mb_yX9_isStep ⟨ml_RX9_161, sm_yX9_isStep⟩ (by decide) rfl rfl (Nat.le_of_ble_eq_true rfl) (fun v15 M12 q11 w14 l13 => ?_)
    refine am_if_eq (tgt := 36) dX9_beside_16 (by decide) (fun c17 => ?_) (fun c17 => ?_)
    · refine am_iconst dX9_beside_36 am_kc_m1 ?_
      exact am_iret dX9_beside_37
    · refine am_iload 4 dX9_beside_19 rfl ?_
      refine am_callSi [.int a4] (CX9_isStep G a4 M12) dX9_beside_21 mb_yX9_isStep ⟨ml_RX9_161, sm_yX9_isStep⟩ (by decide) rfl rfl (Nat.le_of_ble_eq_true rfl) (fun v22 M19 q18 w21 l20 => ?_)
      refine am_if_eq (tgt := 36) dX9_beside_24 (by decide) (fun c24 => ?_) (fun c24 => ?_)
      · refine am_iconst dX9_beside_36 am_kc_m1 ?_
        exact am_iret dX9_beside_37
      · refine am_iload_n 3 dX9_beside_27 rfl rfl ?_
        refine am_if_ne (tgt := 38) dX9_beside_28 (by decide) (fun c25 => ?_) (fun c25 => ?_)
        · exact sX9_beside_38 G a0 a1 a2 a3 a4 M19 (am_sh.mono l20 (am_sh.mono l13 (am_sh.mono l6 h_a0)))
        · refine am_iload 4 dX9_beside_31 rfl ?_
          refine am_if_ne (tgt := 38) dX9_beside_33 (by decide) (fun c60 => ?_) (fun c60 => ?_)
          · exact sX9_beside_38 G a0 a1 a2 a3 a4 M19 (am_sh.mono l20 (am_sh.mono l13 (am_sh.mono l6 h_a0)))
          · refine am_iconst dX9_beside_36 am_kc_m1 ?_
            exact am_iret dX9_beside_37
theorem CX9_beside (G : am_G) (a0 : Nat) (a1 : Int32) (a2 : Int32) (a3 : Int32) (a4 : Int32) (M : am_M) (h_a0 : am_sh M a0 13) : am_C am_ei G 2 yX9_beside cX9_beside 9 (some FieldType.int) [.ref a0, .int a1, .int a2, .int a3, .int a4] M (fX9_beside a0 a1 a2 a3 a4 M) :=
  am_meth (by decide) rfl (Nat.le_of_ble_eq_true rfl) (sX9_beside_0 G a0 a1 a2 a3 a4 M h_a0)
def fX9_common_84 (k33 : (Nat × Int32 × Int32 × Int32 × Int32 × Int32 × Int32 × am_M) → Option (Int32 × am_M)) (x0 : Nat) (x1 : Int32) (x2 : Int32) (x3 : Int32) (x4 : Int32) (x5 : Int32) (x6 : Int32) (M : am_M) : Option (Int32 × am_M) := k33 (x0, x1, x2, x3, x4, x5, x6 + 1, M)
def fX9_common_33 : ((Nat × Int32 × Int32 × Int32 × Int32 × Int32 × Int32 × am_M) → Option (Int32 × am_M)) → (Nat × Int32 × Int32 × Int32 × Int32 × Int32 × Int32 × am_M) → Option (Int32 × am_M) := fun k33 q0 => match q0 with
  | (x0, x1, x2, x3, x4, x5, x6, M) => (M.2.2.1 x0 2).bind fun r21 => if M.1 r21 3 < x6 then some (x5, M) else (M.2.2.1 x0 2).bind fun r25 => if x1 >>> (((M.1 r25 3) - x6) &&& 31) = x3 >>> (((M.1 r25 3) - x6) &&& 31) then if x2 >>> (((M.1 r25 3) - x6) &&& 31) = x4 >>> (((M.1 r25 3) - x6) &&& 31) then fX9_common_84 k33 x0 x1 x2 x3 x4 x6 x6 M else fX9_common_84 k33 x0 x1 x2 x3 x4 x5 x6 M else fX9_common_84 k33 x0 x1 x2 x3 x4 x5 x6 M
def fX9_common (a0 : Nat) (a1 : Int32) (a2 : Int32) (a3 : Int32) (a4 : Int32) (M : am_M) : Option (Int32 × am_M) := (M.2.2.1 a0 2).bind fun r1 => (fX5_hasCell r1 a1 a2 M).bind fun p9 => if p9.1 = 0 then some ((-1), p9.2) else (p9.2.2.2.1 a0 2).bind fun r11 => (fX5_hasCell r11 a3 a4 p9.2).bind fun p19 => if p19.1 = 0 then some ((-1), p19.2) else am_loop (fX9_common_33) 100000 (a0, a1, a2, a3, a4, 0, 1, p19.2)
set_option maxRecDepth 100000 in
set_option maxHeartbeats 4000000 in
theorem sX9_common_84 (G : am_G) (k33 : (Nat × Int32 × Int32 × Int32 × Int32 × Int32 × Int32 × am_M) → Option (Int32 × am_M)) (hk33 : ∀ q : (Nat × Int32 × Int32 × Int32 × Int32 × Int32 × Int32 × am_M), (match q with | (x0, x1, x2, x3, x4, x5, x6, M) => am_sh M x0 13) → match q with | (x0, x1, x2, x3, x4, x5, x6, M) => am_S am_ei G 2 yX9_common.cls yX9_common.name cX9_common 8 (some FieldType.int) 33 [(0, .ref x0), (1, .int x1), (2, .int x2), (3, .int x3), (4, .int x4), (5, .int x5), (6, .int x6)] [] M (k33 (x0, x1, x2, x3, x4, x5, x6, M))) (x0 : Nat) (x1 : Int32) (x2 : Int32) (x3 : Int32) (x4 : Int32) (x5 : Int32) (x6 : Int32) (M : am_M) (h_x0 : am_sh M x0 13) : am_S am_ei G 2 yX9_common.cls yX9_common.name cX9_common 8 (some FieldType.int) 84 [(0, .ref x0), (1, .int x1), (2, .int x2), (3, .int x3), (4, .int x4), (5, .int x5), (6, .int x6)] [] M (fX9_common_84 k33 x0 x1 x2 x3 x4 x5 x6 M) := by
  show am_S am_ei G 2 yX9_common.cls yX9_common.name cX9_common 8 (some FieldType.int) 84 [(0, .ref x0), (1, .int x1), (2, .int x2), (3, .int x3), (4, .int x4), (5, .int x5), (6, .int x6)] [] M (k33 (x0, x1, x2, x3, x4, x5, x6 + 1, M))
  refine am_iinc (L' := [(6, .int (x6 + 1)), (0, .ref x0), (1, .int x1), (2, .int x2), (3, .int x3), (4, .int x4), (5, .int x5)]) 6 dX9_common_84 rfl (by rfl) (by decide) rfl ?_
  refine am_goto (tgt := 33) dX9_common_87 (by decide) ?_
  refine am_sub [1, 2, 3, 4, 5, 6, 0] rfl ?_
  exact hk33 (x0, x1, x2, x3, x4, x5, x6 + 1, M) h_x0
set_option maxRecDepth 100000 in
set_option maxHeartbeats 4000000 in
theorem sX9_common_33 (G : am_G) (k33 : (Nat × Int32 × Int32 × Int32 × Int32 × Int32 × Int32 × am_M) → Option (Int32 × am_M)) (hk33 : ∀ q : (Nat × Int32 × Int32 × Int32 × Int32 × Int32 × Int32 × am_M), (match q with | (x0, x1, x2, x3, x4, x5, x6, M) => am_sh M x0 13) → match q with | (x0, x1, x2, x3, x4, x5, x6, M) => am_S am_ei G 2 yX9_common.cls yX9_common.name cX9_common 8 (some FieldType.int) 33 [(0, .ref x0), (1, .int x1), (2, .int x2), (3, .int x3), (4, .int x4), (5, .int x5), (6, .int x6)] [] M (k33 (x0, x1, x2, x3, x4, x5, x6, M))) (x0 : Nat) (x1 : Int32) (x2 : Int32) (x3 : Int32) (x4 : Int32) (x5 : Int32) (x6 : Int32) (M : am_M) (h_x0 : am_sh M x0 13) : am_S am_ei G 2 yX9_common.cls yX9_common.name cX9_common 8 (some FieldType.int) 33 [(0, .ref x0), (1, .int x1), (2, .int x2), (3, .int x3), (4, .int x4), (5, .int x5), (6, .int x6)] [] M (fX9_common_33 k33 (x0, x1, x2, x3, x4, x5, x6, M)) := by
  show am_S am_ei G 2 yX9_common.cls yX9_common.name cX9_common 8 (some FieldType.int) 33 [(0, .ref x0), (1, .int x1), (2, .int x2), (3, .int x3), (4, .int x4), (5, .int x5), (6, .int x6)] [] M ((M.2.2.1 x0 2).bind fun r21 => if M.1 r21 3 < x6 then some (x5, M) else (M.2.2.1 x0 2).bind fun r25 => if x1 >>> (((M.1 r25 3) - x6) &&& 31) = x3 >>> (((M.1 r25 3) - x6) &&& 31) then if x2 >>> (((M.1 r25 3) - x6) &&& 31) = x4 >>> (((M.1 r25 3) - x6) &&& 31) then fX9_common_84 k33 x0 x1 x2 x3 x4 x6 x6 M else fX9_common_84 k33 x0 x1 x2 x3 x4 x5 x6 M else fX9_common_84 k33 x0 x1 x2 x3 x4 x5 x6 M)
  refine am_iload 6 dX9_common_33 rfl ?_
  refine am_aload_n 0 dX9_common_35 rfl rfl ?_
  refine am_getR 8 dX9_common_36 fl_RX9_26 h_x0 rfl (fun r21 e22 h23 => ?_)
  refine am_getI 4 dX9_common_39 fl_RX9_82 h23 rfl ?_
  refine am_icmp_gt (tgt := 90) dX9_common_42 (by decide) (fun c24 => ?_) (fun c24 => ?_)
  · refine am_iload 5 dX9_common_90 rfl ?_
    exact am_iret dX9_common_92
  · refine am_aload_n 0 dX9_common_45 rfl rfl ?_
    refine am_getR 8 dX9_common_46 fl_RX9_26 h_x0 rfl (fun r25 e26 h27 => ?_)
    refine am_getI 4 dX9_common_49 fl_RX9_82 h27 rfl ?_
    refine am_iload 6 dX9_common_52 rfl ?_
    refine am_isub dX9_common_54 ?_
    refine am_istore (L' := [(7, .int ((M.1 r25 3) - x6)), (0, .ref x0), (1, .int x1), (2, .int x2), (3, .int x3), (4, .int x4), (5, .int x5), (6, .int x6)]) dX9_common_55 (by decide) rfl ?_
    refine am_iload_n 2 dX9_common_57 rfl rfl ?_
    refine am_iload 0 dX9_common_58 rfl ?_
    refine am_ishr dX9_common_60 ?_
    refine am_iload_n 4 dX9_common_61 rfl rfl ?_
    refine am_iload 0 dX9_common_62 rfl ?_
    refine am_ishr dX9_common_64 ?_
    refine am_icmp_ne (tgt := 84) dX9_common_65 (by decide) (fun c28 => ?_) (fun c28 => ?_)
    · refine am_sub [1, 2, 3, 4, 5, 6, 7] rfl ?_
      exact sX9_common_84 G k33 hk33 x0 x1 x2 x3 x4 x5 x6 M h_x0
    · refine am_iload_n 3 dX9_common_68 rfl rfl ?_
      refine am_iload 0 dX9_common_69 rfl ?_
      refine am_ishr dX9_common_71 ?_
      refine am_iload 5 dX9_common_72 rfl ?_
      refine am_iload 0 dX9_common_74 rfl ?_
      refine am_ishr dX9_common_76 ?_
      refine am_icmp_ne (tgt := 84) dX9_common_77 (by decide) (fun c29 => ?_) (fun c29 => ?_)
      · refine am_sub [1, 2, 3, 4, 5, 6, 7] rfl ?_
        exact sX9_common_84 G k33 hk33 x0 x1 x2 x3 x4 x5 x6 M h_x0
      · refine am_iload 7 dX9_common_80 rfl ?_
        refine am_istore (L' := [(5, .int x6), (7, .int ((M.1 r25 3) - x6)), (0, .ref x0), (1, .int x1), (2, .int x2), (3, .int x3), (4, .int x4), (6, .int x6)]) dX9_common_82 (by decide) rfl ?_
        refine am_sub [2, 3, 4, 5, 6, 0, 7] rfl ?_
        exact sX9_common_84 G k33 hk33 x0 x1 x2 x3 x4 x6 x6 M h_x0
set_option maxRecDepth 100000 in
set_option maxHeartbeats 4000000 in
theorem lX9_common_33 (G : am_G) (n : Nat) (q : (Nat × Int32 × Int32 × Int32 × Int32 × Int32 × Int32 × am_M)) (hq : match q with | (x0, x1, x2, x3, x4, x5, x6, M) => am_sh M x0 13) : match q with | (x0, x1, x2, x3, x4, x5, x6, M) => am_S am_ei G 2 yX9_common.cls yX9_common.name cX9_common 8 (some FieldType.int) 33 [(0, .ref x0), (1, .int x1), (2, .int x2), (3, .int x3), (4, .int x4), (5, .int x5), (6, .int x6)] [] M (am_loop (fX9_common_33) n (x0, x1, x2, x3, x4, x5, x6, M)) := by
  exact am_loop_ok (fun q : (Nat × Int32 × Int32 × Int32 × Int32 × Int32 × Int32 × am_M) => match q with | (x0, x1, x2, x3, x4, x5, x6, M) => am_sh M x0 13) (fun q X => match q with | (x0, x1, x2, x3, x4, x5, x6, M) => am_S am_ei G 2 yX9_common.cls yX9_common.name cX9_common 8 (some FieldType.int) 33 [(0, .ref x0), (1, .int x1), (2, .int x2), (3, .int x3), (4, .int x4), (5, .int x5), (6, .int x6)] [] M X) (fun _ => am_none) (fun k33 hk33 q hq => match q, hq with | (x0, x1, x2, x3, x4, x5, x6, M), h_x0 => sX9_common_33 G k33 hk33 x0 x1 x2 x3 x4 x5 x6 M h_x0) n q hq
set_option maxRecDepth 100000 in
set_option maxHeartbeats 4000000 in
theorem sX9_common_0 (G : am_G) (a0 : Nat) (a1 : Int32) (a2 : Int32) (a3 : Int32) (a4 : Int32) (M : am_M) (h_a0 : am_sh M a0 13) : am_S am_ei G 2 yX9_common.cls yX9_common.name cX9_common 8 (some FieldType.int) 0 [(0, .ref a0), (1, .int a1), (2, .int a2), (3, .int a3), (4, .int a4)] [] M (fX9_common a0 a1 a2 a3 a4 M) := by
  show am_S am_ei G 2 yX9_common.cls yX9_common.name cX9_common 8 (some FieldType.int) 0 [(0, .ref a0), (1, .int a1), (2, .int a2), (3, .int a3), (4, .int a4)] [] M ((M.2.2.1 a0 2).bind fun r1 => (fX5_hasCell r1 a1 a2 M).bind fun p9 => if p9.1 = 0 then some ((-1), p9.2) else (p9.2.2.2.1 a0 2).bind fun r11 => (fX5_hasCell r11 a3 a4 p9.2).bind fun p19 => if p19.1 = 0 then some ((-1), p19.2) else am_loop (fX9_common_33) 100000 (a0, a1, a2, a3, a4, 0, 1, p19.2))
  refine am_aload_n 0 dX9_common_0 rfl rfl ?_
  refine am_getR 8 dX9_common_1 fl_RX9_26 h_a0 rfl (fun r1 e2 h3 => ?_)
  refine am_iload_n 1 dX9_common_4 rfl rfl ?_
  refine am_iload_n 2 dX9_common_5 rfl rfl ?_
  refine am_callVi 4 [.int a1, .int a2] (CX5_hasCell G r1 a1 a2 M h3) dX9_common_6 mb_yX5_hasCell ⟨ml_RX9_91, im_yX5_hasCell, se_yX5_hasCell⟩ rfl h3 (by decide) rfl rfl (Nat.le_of_ble_eq_true rfl) (fun v8 M5 q4 w7 l6 => ?_)
  refine am_if_eq (tgt := 25) dX9_common_9 (by decide) (fun c10 => ?_) (fun c10 => ?_)
  · refine am_iconst dX9_common_25 am_kc_m1 ?_
    exact am_iret dX9_common_26
  · refine am_aload_n 0 dX9_common_12 rfl rfl ?_
    refine am_getR 8 dX9_common_13 fl_RX9_26 (am_sh.mono l6 h_a0) rfl (fun r11 e12 h13 => ?_)
    refine am_iload_n 3 dX9_common_16 rfl rfl ?_
    refine am_iload 4 dX9_common_17 rfl ?_
    refine am_callVi 4 [.int a3, .int a4] (CX5_hasCell G r11 a3 a4 M5 h13) dX9_common_19 mb_yX5_hasCell ⟨ml_RX9_91, im_yX5_hasCell, se_yX5_hasCell⟩ rfl h13 (by decide) rfl rfl (Nat.le_of_ble_eq_true rfl) (fun v18 M15 q14 w17 l16 => ?_)
    refine am_if_ne (tgt := 27) dX9_common_22 (by decide) (fun c20 => ?_) (fun c20 => ?_)
    · refine am_iconst dX9_common_27 am_kc_0 ?_
      refine am_istore (L' := [(5, .int 0), (0, .ref a0), (1, .int a1), (2, .int a2), (3, .int a3), (4, .int a4)]) dX9_common_28 (by decide) rfl ?_
      refine am_iconst dX9_common_30 am_kc_1 ?_
      refine am_istore (L' := [(6, .int 1), (5, .int 0), (0, .ref a0), (1, .int a1), (2, .int a2), (3, .int a3), (4, .int a4)]) dX9_common_31 (by decide) rfl ?_
      refine am_sub [2, 3, 4, 5, 6, 1, 0] rfl ?_
      exact lX9_common_33 G 100000 (a0, a1, a2, a3, a4, 0, 1, M15) (am_sh.mono l16 (am_sh.mono l6 h_a0))
    · refine am_iconst dX9_common_25 am_kc_m1 ?_
      exact am_iret dX9_common_26
theorem CX9_common (G : am_G) (a0 : Nat) (a1 : Int32) (a2 : Int32) (a3 : Int32) (a4 : Int32) (M : am_M) (h_a0 : am_sh M a0 13) : am_C am_ei G 2 yX9_common cX9_common 8 (some FieldType.int) [.ref a0, .int a1, .int a2, .int a3, .int a4] M (fX9_common a0 a1 a2 a3 a4 M) :=
  am_meth (by decide) rfl (Nat.le_of_ble_eq_true rfl) (sX9_common_0 G a0 a1 a2 a3 a4 M h_a0)
def fX9_leaps_106 (k33 : (Nat × Int32 × Int32 × Int32 × Int32 × am_M) → Option (Int32 × am_M)) (x0 : Nat) (x1 : Int32) (x2 : Int32) (x4 : Int32) (x5 : Int32) (M : am_M) : Option (Int32 × am_M) := k33 (x0, x1, x2, x5, x4 + 1, M)
def fX9_leaps_33 : ((Nat × Int32 × Int32 × Int32 × Int32 × am_M) → Option (Int32 × am_M)) → (Nat × Int32 × Int32 × Int32 × Int32 × am_M) → Option (Int32 × am_M) := fun k33 q0 => match q0 with
  | (x0, x1, x2, x3, x4, M) => if x2 ≤ x4 then some (x1, M) else (M.2.2.1 x0 2).bind fun r23 => (M.2.2.1 x0 2).bind fun r26 => (fX1_placeOf (M.1 r23 3) (M.1 r26 4) x4 M).bind fun p34 => (fX1_half p34.1 0 p34.2).bind fun p40 => (fX1_half x3 0 p40.2).bind fun p46 => (fX1_half p34.1 1 p46.2).bind fun p52 => (fX1_half x3 1 p52.2).bind fun p58 => if ((p40.1 - p46.1) * (p40.1 - p46.1)) + ((p52.1 - p58.1) * (p52.1 - p58.1)) = 1 then fX9_leaps_106 k33 x0 x1 x2 x4 p34.1 p58.2 else fX9_leaps_106 k33 x0 (x1 + 1) x2 x4 p34.1 p58.2
def fX9_leaps (a0 : Nat) (M : am_M) : Option (Int32 × am_M) := (M.2.2.1 a0 2).bind fun r1 => (fX5_tileSize r1 0 M).bind fun p9 => (p9.2.2.2.1 a0 2).bind fun r10 => (p9.2.2.2.1 a0 2).bind fun r13 => (fX1_placeOf (p9.2.1 r10 3) (p9.2.1 r13 4) 0 p9.2).bind fun p21 => am_loop (fX9_leaps_33) 100000 (a0, 0, p9.1, p21.1, 1, p21.2)
set_option maxRecDepth 100000 in
set_option maxHeartbeats 4000000 in
theorem sX9_leaps_106 (G : am_G) (k33 : (Nat × Int32 × Int32 × Int32 × Int32 × am_M) → Option (Int32 × am_M)) (hk33 : ∀ q : (Nat × Int32 × Int32 × Int32 × Int32 × am_M), (match q with | (x0, x1, x2, x3, x4, M) => am_sh M x0 13) → match q with | (x0, x1, x2, x3, x4, M) => am_S am_ei G 2 yX9_leaps.cls yX9_leaps.name cX9_leaps 8 (some FieldType.int) 33 [(0, .ref x0), (1, .int x1), (2, .int x2), (3, .int x3), (4, .int x4)] [] M (k33 (x0, x1, x2, x3, x4, M))) (x0 : Nat) (x1 : Int32) (x2 : Int32) (x4 : Int32) (x5 : Int32) (M : am_M) (h_x0 : am_sh M x0 13) : am_S am_ei G 2 yX9_leaps.cls yX9_leaps.name cX9_leaps 8 (some FieldType.int) 106 [(0, .ref x0), (1, .int x1), (2, .int x2), (4, .int x4), (5, .int x5)] [] M (fX9_leaps_106 k33 x0 x1 x2 x4 x5 M) := by
  show am_S am_ei G 2 yX9_leaps.cls yX9_leaps.name cX9_leaps 8 (some FieldType.int) 106 [(0, .ref x0), (1, .int x1), (2, .int x2), (4, .int x4), (5, .int x5)] [] M (k33 (x0, x1, x2, x5, x4 + 1, M))
  refine am_iload 4 dX9_leaps_106 rfl ?_
  refine am_istore_n (L' := [(3, .int x5), (0, .ref x0), (1, .int x1), (2, .int x2), (4, .int x4), (5, .int x5)]) dX9_leaps_108 rfl (by decide) rfl ?_
  refine am_iinc (L' := [(4, .int (x4 + 1)), (3, .int x5), (0, .ref x0), (1, .int x1), (2, .int x2), (5, .int x5)]) 4 dX9_leaps_109 rfl (by rfl) (by decide) rfl ?_
  refine am_goto (tgt := 33) dX9_leaps_112 (by decide) ?_
  refine am_sub [2, 3, 4, 1, 0] rfl ?_
  exact hk33 (x0, x1, x2, x5, x4 + 1, M) h_x0
set_option maxRecDepth 100000 in
set_option maxHeartbeats 4000000 in
theorem sX9_leaps_33 (G : am_G) (k33 : (Nat × Int32 × Int32 × Int32 × Int32 × am_M) → Option (Int32 × am_M)) (hk33 : ∀ q : (Nat × Int32 × Int32 × Int32 × Int32 × am_M), (match q with | (x0, x1, x2, x3, x4, M) => am_sh M x0 13) → match q with | (x0, x1, x2, x3, x4, M) => am_S am_ei G 2 yX9_leaps.cls yX9_leaps.name cX9_leaps 8 (some FieldType.int) 33 [(0, .ref x0), (1, .int x1), (2, .int x2), (3, .int x3), (4, .int x4)] [] M (k33 (x0, x1, x2, x3, x4, M))) (x0 : Nat) (x1 : Int32) (x2 : Int32) (x3 : Int32) (x4 : Int32) (M : am_M) (h_x0 : am_sh M x0 13) : am_S am_ei G 2 yX9_leaps.cls yX9_leaps.name cX9_leaps 8 (some FieldType.int) 33 [(0, .ref x0), (1, .int x1), (2, .int x2), (3, .int x3), (4, .int x4)] [] M (fX9_leaps_33 k33 (x0, x1, x2, x3, x4, M)) := by
  show am_S am_ei G 2 yX9_leaps.cls yX9_leaps.name cX9_leaps 8 (some FieldType.int) 33 [(0, .ref x0), (1, .int x1), (2, .int x2), (3, .int x3), (4, .int x4)] [] M (if x2 ≤ x4 then some (x1, M) else (M.2.2.1 x0 2).bind fun r23 => (M.2.2.1 x0 2).bind fun r26 => (fX1_placeOf (M.1 r23 3) (M.1 r26 4) x4 M).bind fun p34 => (fX1_half p34.1 0 p34.2).bind fun p40 => (fX1_half x3 0 p40.2).bind fun p46 => (fX1_half p34.1 1 p46.2).bind fun p52 => (fX1_half x3 1 p52.2).bind fun p58 => if ((p40.1 - p46.1) * (p40.1 - p46.1)) + ((p52.1 - p58.1) * (p52.1 - p58.1)) = 1 then fX9_leaps_106 k33 x0 x1 x2 x4 p34.1 p58.2 else fX9_leaps_106 k33 x0 (x1 + 1) x2 x4 p34.1 p58.2)
  refine am_iload 4 dX9_leaps_33 rfl ?_
  refine am_iload_n 2 dX9_leaps_35 rfl rfl ?_
  refine am_icmp_ge (tgt := 115) dX9_leaps_36 (by decide) (fun c22 => ?_) (fun c22 => ?_)
  · refine am_iload_n 1 dX9_leaps_115 rfl rfl ?_
    exact am_iret dX9_leaps_116
  · refine am_aload_n 0 dX9_leaps_39 rfl rfl ?_
    refine am_getR 8 dX9_leaps_40 fl_RX9_26 h_x0 rfl (fun r23 e24 h25 => ?_)
    refine am_getI 4 dX9_leaps_43 fl_RX9_82 h25 rfl ?_
    refine am_aload_n 0 dX9_leaps_46 rfl rfl ?_
    refine am_getR 8 dX9_leaps_47 fl_RX9_26 h_x0 rfl (fun r26 e27 h28 => ?_)
    refine am_getI 4 dX9_leaps_50 fl_RX9_79 h28 rfl ?_
    refine am_iload 4 dX9_leaps_53 rfl ?_
    refine am_callSi [.int (M.1 r23 3), .int (M.1 r26 4), .int x4] (CX1_placeOf G (M.1 r23 3) (M.1 r26 4) x4 M) dX9_leaps_55 mb_yX1_placeOf ⟨ml_RX9_133, sm_yX1_placeOf⟩ (by decide) rfl rfl (Nat.le_of_ble_eq_true rfl) (fun v33 M30 q29 w32 l31 => ?_)
    refine am_istore (L' := [(5, .int v33), (0, .ref x0), (1, .int x1), (2, .int x2), (3, .int x3), (4, .int x4)]) dX9_leaps_58 (by decide) rfl ?_
    refine am_iload 0 dX9_leaps_60 rfl ?_
    refine am_iconst dX9_leaps_62 am_kc_0 ?_
    refine am_callSi [.int v33, .int 0] (CX1_half G v33 0 M30) dX9_leaps_63 mb_yX1_half ⟨ml_RX9_137, sm_yX1_half⟩ (by decide) rfl rfl (Nat.le_of_ble_eq_true rfl) (fun v39 M36 q35 w38 l37 => ?_)
    refine am_iload_n 4 dX9_leaps_66 rfl rfl ?_
    refine am_iconst dX9_leaps_67 am_kc_0 ?_
    refine am_callSi [.int x3, .int 0] (CX1_half G x3 0 M36) dX9_leaps_68 mb_yX1_half ⟨ml_RX9_137, sm_yX1_half⟩ (by decide) rfl rfl (Nat.le_of_ble_eq_true rfl) (fun v45 M42 q41 w44 l43 => ?_)
    refine am_isub dX9_leaps_71 ?_
    refine am_istore (L' := [(6, .int (v39 - v45)), (5, .int v33), (0, .ref x0), (1, .int x1), (2, .int x2), (3, .int x3), (4, .int x4)]) dX9_leaps_72 (by decide) rfl ?_
    refine am_iload 1 dX9_leaps_74 rfl ?_
    refine am_iconst dX9_leaps_76 am_kc_1 ?_
    refine am_callSi [.int v33, .int 1] (CX1_half G v33 1 M42) dX9_leaps_77 mb_yX1_half ⟨ml_RX9_137, sm_yX1_half⟩ (by decide) rfl rfl (Nat.le_of_ble_eq_true rfl) (fun v51 M48 q47 w50 l49 => ?_)
    refine am_iload_n 5 dX9_leaps_80 rfl rfl ?_
    refine am_iconst dX9_leaps_81 am_kc_1 ?_
    refine am_callSi [.int x3, .int 1] (CX1_half G x3 1 M48) dX9_leaps_82 mb_yX1_half ⟨ml_RX9_137, sm_yX1_half⟩ (by decide) rfl rfl (Nat.le_of_ble_eq_true rfl) (fun v57 M54 q53 w56 l55 => ?_)
    refine am_isub dX9_leaps_85 ?_
    refine am_istore (L' := [(7, .int (v51 - v57)), (6, .int (v39 - v45)), (5, .int v33), (0, .ref x0), (1, .int x1), (2, .int x2), (3, .int x3), (4, .int x4)]) dX9_leaps_86 (by decide) rfl ?_
    refine am_iload 1 dX9_leaps_88 rfl ?_
    refine am_iload 1 dX9_leaps_90 rfl ?_
    refine am_imul dX9_leaps_92 ?_
    refine am_iload 0 dX9_leaps_93 rfl ?_
    refine am_iload 0 dX9_leaps_95 rfl ?_
    refine am_imul dX9_leaps_97 ?_
    refine am_iadd dX9_leaps_98 ?_
    refine am_iconst dX9_leaps_99 am_kc_1 ?_
    refine am_icmp_eq (tgt := 106) dX9_leaps_100 (by decide) (fun c59 => ?_) (fun c59 => ?_)
    · refine am_sub [3, 4, 5, 7, 2] rfl ?_
      exact sX9_leaps_106 G k33 hk33 x0 x1 x2 x4 v33 M54 (am_sh.mono l55 (am_sh.mono l49 (am_sh.mono l43 (am_sh.mono l37 (am_sh.mono l31 h_x0)))))
    · refine am_iinc (L' := [(1, .int (x1 + 1)), (7, .int (v51 - v57)), (6, .int (v39 - v45)), (5, .int v33), (0, .ref x0), (2, .int x2), (3, .int x3), (4, .int x4)]) 4 dX9_leaps_103 rfl (by rfl) (by decide) rfl ?_
      refine am_sub [4, 0, 5, 7, 3] rfl ?_
      exact sX9_leaps_106 G k33 hk33 x0 (x1 + 1) x2 x4 v33 M54 (am_sh.mono l55 (am_sh.mono l49 (am_sh.mono l43 (am_sh.mono l37 (am_sh.mono l31 h_x0)))))
set_option maxRecDepth 100000 in
set_option maxHeartbeats 4000000 in
theorem lX9_leaps_33 (G : am_G) (n : Nat) (q : (Nat × Int32 × Int32 × Int32 × Int32 × am_M)) (hq : match q with | (x0, x1, x2, x3, x4, M) => am_sh M x0 13) : match q with | (x0, x1, x2, x3, x4, M) => am_S am_ei G 2 yX9_leaps.cls yX9_leaps.name cX9_leaps 8 (some FieldType.int) 33 [(0, .ref x0), (1, .int x1), (2, .int x2), (3, .int x3), (4, .int x4)] [] M (am_loop (fX9_leaps_33) n (x0, x1, x2, x3, x4, M)) := by
  exact am_loop_ok (fun q : (Nat × Int32 × Int32 × Int32 × Int32 × am_M) => match q with | (x0, x1, x2, x3, x4, M) => am_sh M x0 13) (fun q X => match q with | (x0, x1, x2, x3, x4, M) => am_S am_ei G 2 yX9_leaps.cls yX9_leaps.name cX9_leaps 8 (some FieldType.int) 33 [(0, .ref x0), (1, .int x1), (2, .int x2), (3, .int x3), (4, .int x4)] [] M X) (fun _ => am_none) (fun k33 hk33 q hq => match q, hq with | (x0, x1, x2, x3, x4, M), h_x0 => sX9_leaps_33 G k33 hk33 x0 x1 x2 x3 x4 M h_x0) n q hq
set_option maxRecDepth 100000 in
set_option maxHeartbeats 4000000 in
theorem sX9_leaps_0 (G : am_G) (a0 : Nat) (M : am_M) (h_a0 : am_sh M a0 13) : am_S am_ei G 2 yX9_leaps.cls yX9_leaps.name cX9_leaps 8 (some FieldType.int) 0 [(0, .ref a0)] [] M (fX9_leaps a0 M) := by
  show am_S am_ei G 2 yX9_leaps.cls yX9_leaps.name cX9_leaps 8 (some FieldType.int) 0 [(0, .ref a0)] [] M ((M.2.2.1 a0 2).bind fun r1 => (fX5_tileSize r1 0 M).bind fun p9 => (p9.2.2.2.1 a0 2).bind fun r10 => (p9.2.2.2.1 a0 2).bind fun r13 => (fX1_placeOf (p9.2.1 r10 3) (p9.2.1 r13 4) 0 p9.2).bind fun p21 => am_loop (fX9_leaps_33) 100000 (a0, 0, p9.1, p21.1, 1, p21.2))
  refine am_iconst dX9_leaps_0 am_kc_0 ?_
  refine am_istore_n (L' := [(1, .int 0), (0, .ref a0)]) dX9_leaps_1 rfl (by decide) rfl ?_
  refine am_aload_n 1 dX9_leaps_2 rfl rfl ?_
  refine am_getR 8 dX9_leaps_3 fl_RX9_26 h_a0 rfl (fun r1 e2 h3 => ?_)
  refine am_iconst dX9_leaps_6 am_kc_0 ?_
  refine am_callVi 4 [.int 0] (CX5_tileSize G r1 0 M h3) dX9_leaps_7 mb_yX5_tileSize ⟨ml_RX9_141, im_yX5_tileSize, se_yX5_tileSize⟩ rfl h3 (by decide) rfl rfl (Nat.le_of_ble_eq_true rfl) (fun v8 M5 q4 w7 l6 => ?_)
  refine am_istore_n (L' := [(2, .int v8), (1, .int 0), (0, .ref a0)]) dX9_leaps_10 rfl (by decide) rfl ?_
  refine am_aload_n 2 dX9_leaps_11 rfl rfl ?_
  refine am_getR 8 dX9_leaps_12 fl_RX9_26 (am_sh.mono l6 h_a0) rfl (fun r10 e11 h12 => ?_)
  refine am_getI 4 dX9_leaps_15 fl_RX9_82 h12 rfl ?_
  refine am_aload_n 2 dX9_leaps_18 rfl rfl ?_
  refine am_getR 8 dX9_leaps_19 fl_RX9_26 (am_sh.mono l6 h_a0) rfl (fun r13 e14 h15 => ?_)
  refine am_getI 4 dX9_leaps_22 fl_RX9_79 h15 rfl ?_
  refine am_iconst dX9_leaps_25 am_kc_0 ?_
  refine am_callSi [.int (M5.1 r10 3), .int (M5.1 r13 4), .int 0] (CX1_placeOf G (M5.1 r10 3) (M5.1 r13 4) 0 M5) dX9_leaps_26 mb_yX1_placeOf ⟨ml_RX9_133, sm_yX1_placeOf⟩ (by decide) rfl rfl (Nat.le_of_ble_eq_true rfl) (fun v20 M17 q16 w19 l18 => ?_)
  refine am_istore_n (L' := [(3, .int v20), (2, .int v8), (1, .int 0), (0, .ref a0)]) dX9_leaps_29 rfl (by decide) rfl ?_
  refine am_iconst dX9_leaps_30 am_kc_1 ?_
  refine am_istore (L' := [(4, .int 1), (3, .int v20), (2, .int v8), (1, .int 0), (0, .ref a0)]) dX9_leaps_31 (by decide) rfl ?_
  refine am_sub [4, 3, 2, 1, 0] rfl ?_
  exact lX9_leaps_33 G 100000 (a0, 0, v8, v20, 1, M17) (am_sh.mono l18 (am_sh.mono l6 h_a0))
theorem CX9_leaps (G : am_G) (a0 : Nat) (M : am_M) (h_a0 : am_sh M a0 13) : am_C am_ei G 2 yX9_leaps cX9_leaps 8 (some FieldType.int) [.ref a0] M (fX9_leaps a0 M) :=
  am_meth (by decide) rfl (Nat.le_of_ble_eq_true rfl) (sX9_leaps_0 G a0 M h_a0)
def fX9_in (a0 : Nat) (a1 : Int32) (a2 : Int32) (M : am_M) : Option (Int32 × am_M) := (M.2.2.1 a0 2).bind fun r1 => (fX5_hasCell r1 a1 a2 M).bind fun p9 => if p9.1 = 0 then some ((-1), p9.2) else (p9.2.2.2.1 a0 2).bind fun r11 => (fX5_inShape r11 a1 a2 p9.2).bind fun p19 => if p19.1 = 0 then some (0, p19.2) else some (1, p19.2)
set_option maxRecDepth 100000 in
set_option maxHeartbeats 4000000 in
theorem sX9_in_0 (G : am_G) (a0 : Nat) (a1 : Int32) (a2 : Int32) (M : am_M) (h_a0 : am_sh M a0 13) : am_S am_ei G 2 yX9_in.cls yX9_in.name cX9_in 3 (some FieldType.int) 0 [(0, .ref a0), (1, .int a1), (2, .int a2)] [] M (fX9_in a0 a1 a2 M) := by
  show am_S am_ei G 2 yX9_in.cls yX9_in.name cX9_in 3 (some FieldType.int) 0 [(0, .ref a0), (1, .int a1), (2, .int a2)] [] M ((M.2.2.1 a0 2).bind fun r1 => (fX5_hasCell r1 a1 a2 M).bind fun p9 => if p9.1 = 0 then some ((-1), p9.2) else (p9.2.2.2.1 a0 2).bind fun r11 => (fX5_inShape r11 a1 a2 p9.2).bind fun p19 => if p19.1 = 0 then some (0, p19.2) else some (1, p19.2))
  refine am_aload_n 0 dX9_in_0 rfl rfl ?_
  refine am_getR 8 dX9_in_1 fl_RX9_26 h_a0 rfl (fun r1 e2 h3 => ?_)
  refine am_iload_n 1 dX9_in_4 rfl rfl ?_
  refine am_iload_n 2 dX9_in_5 rfl rfl ?_
  refine am_callVi 4 [.int a1, .int a2] (CX5_hasCell G r1 a1 a2 M h3) dX9_in_6 mb_yX5_hasCell ⟨ml_RX9_91, im_yX5_hasCell, se_yX5_hasCell⟩ rfl h3 (by decide) rfl rfl (Nat.le_of_ble_eq_true rfl) (fun v8 M5 q4 w7 l6 => ?_)
  refine am_if_ne (tgt := 14) dX9_in_9 (by decide) (fun c10 => ?_) (fun c10 => ?_)
  · refine am_aload_n 0 dX9_in_14 rfl rfl ?_
    refine am_getR 8 dX9_in_15 fl_RX9_26 (am_sh.mono l6 h_a0) rfl (fun r11 e12 h13 => ?_)
    refine am_iload_n 1 dX9_in_18 rfl rfl ?_
    refine am_iload_n 2 dX9_in_19 rfl rfl ?_
    refine am_callVi 4 [.int a1, .int a2] (CX5_inShape G r11 a1 a2 M5 h13) dX9_in_20 mb_yX5_inShape ⟨ml_RX9_164, im_yX5_inShape, se_yX5_inShape⟩ rfl h13 (by decide) rfl rfl (Nat.le_of_ble_eq_true rfl) (fun v18 M15 q14 w17 l16 => ?_)
    refine am_if_eq (tgt := 30) dX9_in_23 (by decide) (fun c20 => ?_) (fun c20 => ?_)
    · refine am_iconst dX9_in_30 am_kc_0 ?_
      exact am_iret dX9_in_31
    · refine am_iconst dX9_in_26 am_kc_1 ?_
      refine am_goto (tgt := 31) dX9_in_27 (by decide) ?_
      exact am_iret dX9_in_31
  · refine am_iconst dX9_in_12 am_kc_m1 ?_
    exact am_iret dX9_in_13
theorem CX9_in (G : am_G) (a0 : Nat) (a1 : Int32) (a2 : Int32) (M : am_M) (h_a0 : am_sh M a0 13) : am_C am_ei G 2 yX9_in cX9_in 3 (some FieldType.int) [.ref a0, .int a1, .int a2] M (fX9_in a0 a1 a2 M) :=
  am_meth (by decide) rfl (Nat.le_of_ble_eq_true rfl) (sX9_in_0 G a0 a1 a2 M h_a0)
def fX9_cover (a0 : Nat) (a1 : Int32) (a2 : Int32) (a3 : Int32) (M : am_M) : Option (Int32 × am_M) := (fX9_isBit a1 M).bind fun p6 => if p6.1 = 0 then some ((-1), p6.2) else if a2 < (-1) then some ((-1), p6.2) else (fX9_isBit a3 p6.2).bind fun p14 => if p14.1 = 0 then some ((-1), p14.2) else (p14.2.2.2.1 a0 1).bind fun r16 => (p14.2.2.2.1 a0 2).bind fun r19 => (fX0_refresh r16 r19 p14.2).bind fun M23 => (M23.2.2.1 a0 1).bind fun r27 => (M23.2.2.1 a0 2).bind fun r30 => (M23.2.2.1 a0 1).bind fun r33 => (fX0_keysOf r33 a1 M23).bind fun p41 => (fX0_tileOf r27 r30 p41.1 a2 a3 p41.2).bind fun p47 => some (p47.1, p47.2)
set_option maxRecDepth 100000 in
set_option maxHeartbeats 4000000 in
theorem sX9_cover_0 (G : am_G) (a0 : Nat) (a1 : Int32) (a2 : Int32) (a3 : Int32) (M : am_M) (h_a0 : am_sh M a0 13) : am_S am_ei G 4 yX9_cover.cls yX9_cover.name cX9_cover 4 (some FieldType.int) 0 [(0, .ref a0), (1, .int a1), (2, .int a2), (3, .int a3)] [] M (fX9_cover a0 a1 a2 a3 M) := by
  show am_S am_ei G 4 yX9_cover.cls yX9_cover.name cX9_cover 4 (some FieldType.int) 0 [(0, .ref a0), (1, .int a1), (2, .int a2), (3, .int a3)] [] M ((fX9_isBit a1 M).bind fun p6 => if p6.1 = 0 then some ((-1), p6.2) else if a2 < (-1) then some ((-1), p6.2) else (fX9_isBit a3 p6.2).bind fun p14 => if p14.1 = 0 then some ((-1), p14.2) else (p14.2.2.2.1 a0 1).bind fun r16 => (p14.2.2.2.1 a0 2).bind fun r19 => (fX0_refresh r16 r19 p14.2).bind fun M23 => (M23.2.2.1 a0 1).bind fun r27 => (M23.2.2.1 a0 2).bind fun r30 => (M23.2.2.1 a0 1).bind fun r33 => (fX0_keysOf r33 a1 M23).bind fun p41 => (fX0_tileOf r27 r30 p41.1 a2 a3 p41.2).bind fun p47 => some (p47.1, p47.2))
  refine am_iload_n 1 dX9_cover_0 rfl rfl ?_
  refine am_callSi [.int a1] (CX9_isBit G a1 M) dX9_cover_1 mb_yX9_isBit ⟨ml_RX9_75, sm_yX9_isBit⟩ (by decide) rfl rfl (Nat.le_of_ble_eq_true rfl) (fun v5 M2 q1 w4 l3 => ?_)
  refine am_if_eq (tgt := 19) dX9_cover_4 (by decide) (fun c7 => ?_) (fun c7 => ?_)
  · refine am_iconst dX9_cover_19 am_kc_m1 ?_
    exact am_iret dX9_cover_20
  · refine am_iload_n 2 dX9_cover_7 rfl rfl ?_
    refine am_iconst dX9_cover_8 am_kc_m1 ?_
    refine am_icmp_lt (tgt := 19) dX9_cover_9 (by decide) (fun c8 => ?_) (fun c8 => ?_)
    · refine am_iconst dX9_cover_19 am_kc_m1 ?_
      exact am_iret dX9_cover_20
    · refine am_iload_n 3 dX9_cover_12 rfl rfl ?_
      refine am_callSi [.int a3] (CX9_isBit G a3 M2) dX9_cover_13 mb_yX9_isBit ⟨ml_RX9_75, sm_yX9_isBit⟩ (by decide) rfl rfl (Nat.le_of_ble_eq_true rfl) (fun v13 M10 q9 w12 l11 => ?_)
      refine am_if_ne (tgt := 21) dX9_cover_16 (by decide) (fun c15 => ?_) (fun c15 => ?_)
      · refine am_aload_n 0 dX9_cover_21 rfl rfl ?_
        refine am_getR 8 dX9_cover_22 fl_RX9_19 (am_sh.mono l11 (am_sh.mono l3 h_a0)) rfl (fun r16 e17 h18 => ?_)
        refine am_aload_n 0 dX9_cover_25 rfl rfl ?_
        refine am_getR 8 dX9_cover_26 fl_RX9_26 (am_sh.mono l11 (am_sh.mono l3 h_a0)) rfl (fun r19 e20 h21 => ?_)
        refine am_callVv 0 [.ref r19] (CX0_refresh G r16 r19 M10 h18 h21) dX9_cover_29 mb_yX0_refresh ⟨ml_RX9_145, im_yX0_refresh, se_yX0_refresh⟩ rfl h18 (by decide) rfl rfl (Nat.le_of_ble_eq_true rfl) (fun M23 q22 w25 l24 => ?_)
        refine am_aload_n 0 dX9_cover_32 rfl rfl ?_
        refine am_getR 8 dX9_cover_33 fl_RX9_19 (am_sh.mono l24 (am_sh.mono l11 (am_sh.mono l3 h_a0))) rfl (fun r27 e28 h29 => ?_)
        refine am_aload_n 0 dX9_cover_36 rfl rfl ?_
        refine am_getR 8 dX9_cover_37 fl_RX9_26 (am_sh.mono l24 (am_sh.mono l11 (am_sh.mono l3 h_a0))) rfl (fun r30 e31 h32 => ?_)
        refine am_aload_n 0 dX9_cover_40 rfl rfl ?_
        refine am_getR 8 dX9_cover_41 fl_RX9_19 (am_sh.mono l24 (am_sh.mono l11 (am_sh.mono l3 h_a0))) rfl (fun r33 e34 h35 => ?_)
        refine am_iload_n 1 dX9_cover_44 rfl rfl ?_
        refine am_callVr 0 [.int a1] (CX0_keysOf G r33 a1 M23 h35) dX9_cover_45 mb_yX0_keysOf ⟨ml_RX9_167, im_yX0_keysOf, se_yX0_keysOf⟩ rfl h35 (by decide) rfl rfl (Nat.le_of_ble_eq_true rfl) (fun v40 M37 q36 w39 l38 => ?_)
        refine am_iload_n 2 dX9_cover_48 rfl rfl ?_
        refine am_iload_n 3 dX9_cover_49 rfl rfl ?_
        refine am_callVi 0 [.ref r30, .ref v40, .int a2, .int a3] (CX0_tileOf G r27 r30 v40 a2 a3 M37 (am_sh.mono l38 h29) (am_sh.mono l38 h32) (fX0_keysOf_sh h35 w39 q36)) dX9_cover_50 mb_yX0_tileOf ⟨ml_RX9_171, im_yX0_tileOf, se_yX0_tileOf⟩ rfl (am_sh.mono l38 h29) (by decide) rfl rfl (Nat.le_of_ble_eq_true rfl) (fun v46 M43 q42 w45 l44 => ?_)
        exact am_iret dX9_cover_53
      · refine am_iconst dX9_cover_19 am_kc_m1 ?_
        exact am_iret dX9_cover_20
theorem CX9_cover (G : am_G) (a0 : Nat) (a1 : Int32) (a2 : Int32) (a3 : Int32) (M : am_M) (h_a0 : am_sh M a0 13) : am_C am_ei G 4 yX9_cover cX9_cover 4 (some FieldType.int) [.ref a0, .int a1, .int a2, .int a3] M (fX9_cover a0 a1 a2 a3 M) :=
  am_meth (by decide) rfl (Nat.le_of_ble_eq_true rfl) (sX9_cover_0 G a0 a1 a2 a3 M h_a0)
def fX9_rest (a0 : Nat) (a1 : Int32) (M : am_M) : Option (Int32 × am_M) := (fX9_isBit a1 M).bind fun p6 => if p6.1 = 0 then some ((-1), p6.2) else (p6.2.2.2.1 a0 1).bind fun r8 => (p6.2.2.2.1 a0 2).bind fun r11 => (fX0_refresh r8 r11 p6.2).bind fun M15 => (M15.2.2.1 a0 2).bind fun r19 => (fX5_tileSize r19 0 M15).bind fun p27 => (p27.2.2.2.1 a0 1).bind fun r28 => (fX0_keysOf r28 a1 p27.2).bind fun p36 => (fX3_countIn p36.1 0 p27.1 p36.2).bind fun p42 => (p42.2.2.2.1 a0 1).bind fun r43 => (p42.2.2.2.1 r43 0).bind fun r46 => (fX3_countIn r46 0 p27.1 p42.2).bind fun p54 => some (if 0 ≤ p42.1 - p54.1 then p42.1 - p54.1 else 0 - (p42.1 - p54.1), p54.2)
set_option maxRecDepth 100000 in
set_option maxHeartbeats 4000000 in
theorem sX9_rest_0 (G : am_G) (a0 : Nat) (a1 : Int32) (M : am_M) (h_a0 : am_sh M a0 13) : am_S am_ei G 4 yX9_rest.cls yX9_rest.name cX9_rest 3 (some FieldType.int) 0 [(0, .ref a0), (1, .int a1)] [] M (fX9_rest a0 a1 M) := by
  show am_S am_ei G 4 yX9_rest.cls yX9_rest.name cX9_rest 3 (some FieldType.int) 0 [(0, .ref a0), (1, .int a1)] [] M ((fX9_isBit a1 M).bind fun p6 => if p6.1 = 0 then some ((-1), p6.2) else (p6.2.2.2.1 a0 1).bind fun r8 => (p6.2.2.2.1 a0 2).bind fun r11 => (fX0_refresh r8 r11 p6.2).bind fun M15 => (M15.2.2.1 a0 2).bind fun r19 => (fX5_tileSize r19 0 M15).bind fun p27 => (p27.2.2.2.1 a0 1).bind fun r28 => (fX0_keysOf r28 a1 p27.2).bind fun p36 => (fX3_countIn p36.1 0 p27.1 p36.2).bind fun p42 => (p42.2.2.2.1 a0 1).bind fun r43 => (p42.2.2.2.1 r43 0).bind fun r46 => (fX3_countIn r46 0 p27.1 p42.2).bind fun p54 => some (if 0 ≤ p42.1 - p54.1 then p42.1 - p54.1 else 0 - (p42.1 - p54.1), p54.2))
  refine am_iload_n 1 dX9_rest_0 rfl rfl ?_
  refine am_callSi [.int a1] (CX9_isBit G a1 M) dX9_rest_1 mb_yX9_isBit ⟨ml_RX9_75, sm_yX9_isBit⟩ (by decide) rfl rfl (Nat.le_of_ble_eq_true rfl) (fun v5 M2 q1 w4 l3 => ?_)
  refine am_if_ne (tgt := 9) dX9_rest_4 (by decide) (fun c7 => ?_) (fun c7 => ?_)
  · refine am_aload_n 0 dX9_rest_9 rfl rfl ?_
    refine am_getR 8 dX9_rest_10 fl_RX9_19 (am_sh.mono l3 h_a0) rfl (fun r8 e9 h10 => ?_)
    refine am_aload_n 0 dX9_rest_13 rfl rfl ?_
    refine am_getR 8 dX9_rest_14 fl_RX9_26 (am_sh.mono l3 h_a0) rfl (fun r11 e12 h13 => ?_)
    refine am_callVv 0 [.ref r11] (CX0_refresh G r8 r11 M2 h10 h13) dX9_rest_17 mb_yX0_refresh ⟨ml_RX9_145, im_yX0_refresh, se_yX0_refresh⟩ rfl h10 (by decide) rfl rfl (Nat.le_of_ble_eq_true rfl) (fun M15 q14 w17 l16 => ?_)
    refine am_aload_n 0 dX9_rest_20 rfl rfl ?_
    refine am_getR 8 dX9_rest_21 fl_RX9_26 (am_sh.mono l16 (am_sh.mono l3 h_a0)) rfl (fun r19 e20 h21 => ?_)
    refine am_iconst dX9_rest_24 am_kc_0 ?_
    refine am_callVi 4 [.int 0] (CX5_tileSize G r19 0 M15 h21) dX9_rest_25 mb_yX5_tileSize ⟨ml_RX9_141, im_yX5_tileSize, se_yX5_tileSize⟩ rfl h21 (by decide) rfl rfl (Nat.le_of_ble_eq_true rfl) (fun v26 M23 q22 w25 l24 => ?_)
    refine am_istore_n (L' := [(2, .int v26), (0, .ref a0), (1, .int a1)]) dX9_rest_28 rfl (by decide) rfl ?_
    refine am_aload_n 1 dX9_rest_29 rfl rfl ?_
    refine am_getR 8 dX9_rest_30 fl_RX9_19 (am_sh.mono l24 (am_sh.mono l16 (am_sh.mono l3 h_a0))) rfl (fun r28 e29 h30 => ?_)
    refine am_iload_n 2 dX9_rest_33 rfl rfl ?_
    refine am_callVr 0 [.int a1] (CX0_keysOf G r28 a1 M23 h30) dX9_rest_34 mb_yX0_keysOf ⟨ml_RX9_167, im_yX0_keysOf, se_yX0_keysOf⟩ rfl h30 (by decide) rfl rfl (Nat.le_of_ble_eq_true rfl) (fun v35 M32 q31 w34 l33 => ?_)
    refine am_iconst dX9_rest_37 am_kc_0 ?_
    refine am_iload_n 0 dX9_rest_38 rfl rfl ?_
    refine am_callVi 2 [.int 0, .int v26] (CX3_countIn G v35 0 v26 M32 (fX0_keysOf_sh h30 w34 q31)) dX9_rest_39 mb_yX3_countIn ⟨ml_RX9_153, im_yX3_countIn, se_yX3_countIn⟩ rfl (fX0_keysOf_sh h30 w34 q31) (by decide) rfl rfl (Nat.le_of_ble_eq_true rfl) (fun v41 M38 q37 w40 l39 => ?_)
    refine am_aload_n 1 dX9_rest_42 rfl rfl ?_
    refine am_getR 8 dX9_rest_43 fl_RX9_19 (am_sh.mono l39 (am_sh.mono l33 (am_sh.mono l24 (am_sh.mono l16 (am_sh.mono l3 h_a0))))) rfl (fun r43 e44 h45 => ?_)
    refine am_getR 0 dX9_rest_46 fl_RX9_149 h45 rfl (fun r46 e47 h48 => ?_)
    refine am_iconst dX9_rest_49 am_kc_0 ?_
    refine am_iload_n 0 dX9_rest_50 rfl rfl ?_
    refine am_callVi 2 [.int 0, .int v26] (CX3_countIn G r46 0 v26 M38 h48) dX9_rest_51 mb_yX3_countIn ⟨ml_RX9_153, im_yX3_countIn, se_yX3_countIn⟩ rfl h48 (by decide) rfl rfl (Nat.le_of_ble_eq_true rfl) (fun v53 M50 q49 w52 l51 => ?_)
    refine am_isub dX9_rest_54 ?_
    refine am_mabs dX9_rest_55 ⟨ml_RX9_175, am_w_abs⟩ (by decide) (Nat.le_of_ble_eq_true rfl) ?_
    exact am_iret dX9_rest_58
  · refine am_iconst dX9_rest_7 am_kc_m1 ?_
    exact am_iret dX9_rest_8
theorem CX9_rest (G : am_G) (a0 : Nat) (a1 : Int32) (M : am_M) (h_a0 : am_sh M a0 13) : am_C am_ei G 4 yX9_rest cX9_rest 3 (some FieldType.int) [.ref a0, .int a1] M (fX9_rest a0 a1 M) :=
  am_meth (by decide) rfl (Nat.le_of_ble_eq_true rfl) (sX9_rest_0 G a0 a1 M h_a0)
def fX9_best (a0 : Nat) (a1 : Int32) (M : am_M) : Option (Int32 × am_M) := if a1 < 1 then some ((-1), M) else if a1 ≤ 12 then (M.2.2.1 a0 1).bind fun r3 => (M.2.2.1 a0 2).bind fun r6 => (fX0_refresh r3 r6 M).bind fun M10 => (M10.2.2.1 a0 1).bind fun r14 => (M10.2.2.1 a0 2).bind fun r17 => (fX0_leastCells r14 r17 a1 M10).bind fun p25 => if p25.1 < 1000000 then (p25.2.2.2.1 a0 1).bind fun r27 => (p25.2.2.2.1 r27 0).bind fun r30 => (p25.2.2.2.1 a0 2).bind fun r33 => (fX5_tileSize r33 0 p25.2).bind fun p41 => (fX3_countIn r30 0 p41.1 p41.2).bind fun p47 => some (p25.1 - p47.1, p47.2) else some ((-4), p25.2) else some ((-1), M)
set_option maxRecDepth 100000 in
set_option maxHeartbeats 4000000 in
theorem sX9_best_0 (G : am_G) (a0 : Nat) (a1 : Int32) (M : am_M) (h_a0 : am_sh M a0 13) : am_S am_ei G 16 yX9_best.cls yX9_best.name cX9_best 3 (some FieldType.int) 0 [(0, .ref a0), (1, .int a1)] [] M (fX9_best a0 a1 M) := by
  show am_S am_ei G 16 yX9_best.cls yX9_best.name cX9_best 3 (some FieldType.int) 0 [(0, .ref a0), (1, .int a1)] [] M (if a1 < 1 then some ((-1), M) else if a1 ≤ 12 then (M.2.2.1 a0 1).bind fun r3 => (M.2.2.1 a0 2).bind fun r6 => (fX0_refresh r3 r6 M).bind fun M10 => (M10.2.2.1 a0 1).bind fun r14 => (M10.2.2.1 a0 2).bind fun r17 => (fX0_leastCells r14 r17 a1 M10).bind fun p25 => if p25.1 < 1000000 then (p25.2.2.2.1 a0 1).bind fun r27 => (p25.2.2.2.1 r27 0).bind fun r30 => (p25.2.2.2.1 a0 2).bind fun r33 => (fX5_tileSize r33 0 p25.2).bind fun p41 => (fX3_countIn r30 0 p41.1 p41.2).bind fun p47 => some (p25.1 - p47.1, p47.2) else some ((-4), p25.2) else some ((-1), M))
  refine am_iload_n 1 dX9_best_0 rfl rfl ?_
  refine am_iconst dX9_best_1 am_kc_1 ?_
  refine am_icmp_lt (tgt := 11) dX9_best_2 (by decide) (fun c1 => ?_) (fun c1 => ?_)
  · refine am_iconst dX9_best_11 am_kc_m1 ?_
    exact am_iret dX9_best_12
  · refine am_iload_n 1 dX9_best_5 rfl rfl ?_
    refine am_bipush (x := 12) dX9_best_6 (by decide) ?_
    refine am_icmp_le (tgt := 13) dX9_best_8 (by decide) (fun c2 => ?_) (fun c2 => ?_)
    · refine am_aload_n 0 dX9_best_13 rfl rfl ?_
      refine am_getR 8 dX9_best_14 fl_RX9_19 h_a0 rfl (fun r3 e4 h5 => ?_)
      refine am_aload_n 0 dX9_best_17 rfl rfl ?_
      refine am_getR 8 dX9_best_18 fl_RX9_26 h_a0 rfl (fun r6 e7 h8 => ?_)
      refine am_callVv 0 [.ref r6] (CX0_refresh G r3 r6 M h5 h8) dX9_best_21 mb_yX0_refresh ⟨ml_RX9_145, im_yX0_refresh, se_yX0_refresh⟩ rfl h5 (by decide) rfl rfl (Nat.le_of_ble_eq_true rfl) (fun M10 q9 w12 l11 => ?_)
      refine am_aload_n 0 dX9_best_24 rfl rfl ?_
      refine am_getR 8 dX9_best_25 fl_RX9_19 (am_sh.mono l11 h_a0) rfl (fun r14 e15 h16 => ?_)
      refine am_aload_n 0 dX9_best_28 rfl rfl ?_
      refine am_getR 8 dX9_best_29 fl_RX9_26 (am_sh.mono l11 h_a0) rfl (fun r17 e18 h19 => ?_)
      refine am_iload_n 1 dX9_best_32 rfl rfl ?_
      refine am_callVi 0 [.ref r17, .int a1] (CX0_leastCells G r14 r17 a1 M10 h16 h19) dX9_best_33 mb_yX0_leastCells ⟨ml_RX9_180, im_yX0_leastCells, se_yX0_leastCells⟩ rfl h16 (by decide) rfl rfl (Nat.le_of_ble_eq_true rfl) (fun v24 M21 q20 w23 l22 => ?_)
      refine am_istore_n (L' := [(2, .int v24), (0, .ref a0), (1, .int a1)]) dX9_best_36 rfl (by decide) rfl ?_
      refine am_iload_n 0 dX9_best_37 rfl rfl ?_
      refine am_ldc dX9_best_38 kc_RX9_186 ?_
      refine am_icmp_lt (tgt := 46) dX9_best_40 (by decide) (fun c26 => ?_) (fun c26 => ?_)
      · refine am_iload_n 0 dX9_best_46 rfl rfl ?_
        refine am_aload_n 1 dX9_best_47 rfl rfl ?_
        refine am_getR 8 dX9_best_48 fl_RX9_19 (am_sh.mono l22 (am_sh.mono l11 h_a0)) rfl (fun r27 e28 h29 => ?_)
        refine am_getR 0 dX9_best_51 fl_RX9_149 h29 rfl (fun r30 e31 h32 => ?_)
        refine am_iconst dX9_best_54 am_kc_0 ?_
        refine am_aload_n 1 dX9_best_55 rfl rfl ?_
        refine am_getR 8 dX9_best_56 fl_RX9_26 (am_sh.mono l22 (am_sh.mono l11 h_a0)) rfl (fun r33 e34 h35 => ?_)
        refine am_iconst dX9_best_59 am_kc_0 ?_
        refine am_callVi 4 [.int 0] (CX5_tileSize G r33 0 M21 h35) dX9_best_60 mb_yX5_tileSize ⟨ml_RX9_141, im_yX5_tileSize, se_yX5_tileSize⟩ rfl h35 (by decide) rfl rfl (Nat.le_of_ble_eq_true rfl) (fun v40 M37 q36 w39 l38 => ?_)
        refine am_callVi 2 [.int 0, .int v40] (CX3_countIn G r30 0 v40 M37 (am_sh.mono l38 h32)) dX9_best_63 mb_yX3_countIn ⟨ml_RX9_153, im_yX3_countIn, se_yX3_countIn⟩ rfl (am_sh.mono l38 h32) (by decide) rfl rfl (Nat.le_of_ble_eq_true rfl) (fun v46 M43 q42 w45 l44 => ?_)
        refine am_isub dX9_best_66 ?_
        exact am_iret dX9_best_67
      · refine am_bipush (x := -4) dX9_best_43 (by decide) ?_
        exact am_iret dX9_best_45
    · refine am_iconst dX9_best_11 am_kc_m1 ?_
      exact am_iret dX9_best_12
theorem CX9_best (G : am_G) (a0 : Nat) (a1 : Int32) (M : am_M) (h_a0 : am_sh M a0 13) : am_C am_ei G 16 yX9_best cX9_best 3 (some FieldType.int) [.ref a0, .int a1] M (fX9_best a0 a1 M) :=
  am_meth (by decide) rfl (Nat.le_of_ble_eq_true rfl) (sX9_best_0 G a0 a1 M h_a0)
def fX9_span (a0 : Nat) (a1 : Int32) (a2 : Int32) (a3 : Int32) (M : am_M) : Option (Int32 × am_M) := (fX9_isBit a1 M).bind fun p6 => if p6.1 = 0 then some ((-1), p6.2) else if a2 < (-1) then some ((-1), p6.2) else (fX9_isBit a3 p6.2).bind fun p14 => if p14.1 = 0 then some ((-1), p14.2) else (p14.2.2.2.1 a0 1).bind fun r16 => (p14.2.2.2.1 a0 2).bind fun r19 => (fX0_refresh r16 r19 p14.2).bind fun M23 => (M23.2.2.1 a0 1).bind fun r27 => (fX0_keysOf r27 a1 M23).bind fun p35 => (fX3_runEnd p35.1 a2 a3 p35.2).bind fun p41 => some (p41.1, p41.2)
set_option maxRecDepth 100000 in
set_option maxHeartbeats 4000000 in
theorem sX9_span_0 (G : am_G) (a0 : Nat) (a1 : Int32) (a2 : Int32) (a3 : Int32) (M : am_M) (h_a0 : am_sh M a0 13) : am_S am_ei G 4 yX9_span.cls yX9_span.name cX9_span 4 (some FieldType.int) 0 [(0, .ref a0), (1, .int a1), (2, .int a2), (3, .int a3)] [] M (fX9_span a0 a1 a2 a3 M) := by
  show am_S am_ei G 4 yX9_span.cls yX9_span.name cX9_span 4 (some FieldType.int) 0 [(0, .ref a0), (1, .int a1), (2, .int a2), (3, .int a3)] [] M ((fX9_isBit a1 M).bind fun p6 => if p6.1 = 0 then some ((-1), p6.2) else if a2 < (-1) then some ((-1), p6.2) else (fX9_isBit a3 p6.2).bind fun p14 => if p14.1 = 0 then some ((-1), p14.2) else (p14.2.2.2.1 a0 1).bind fun r16 => (p14.2.2.2.1 a0 2).bind fun r19 => (fX0_refresh r16 r19 p14.2).bind fun M23 => (M23.2.2.1 a0 1).bind fun r27 => (fX0_keysOf r27 a1 M23).bind fun p35 => (fX3_runEnd p35.1 a2 a3 p35.2).bind fun p41 => some (p41.1, p41.2))
  refine am_iload_n 1 dX9_span_0 rfl rfl ?_
  refine am_callSi [.int a1] (CX9_isBit G a1 M) dX9_span_1 mb_yX9_isBit ⟨ml_RX9_75, sm_yX9_isBit⟩ (by decide) rfl rfl (Nat.le_of_ble_eq_true rfl) (fun v5 M2 q1 w4 l3 => ?_)
  refine am_if_eq (tgt := 19) dX9_span_4 (by decide) (fun c7 => ?_) (fun c7 => ?_)
  · refine am_iconst dX9_span_19 am_kc_m1 ?_
    exact am_iret dX9_span_20
  · refine am_iload_n 2 dX9_span_7 rfl rfl ?_
    refine am_iconst dX9_span_8 am_kc_m1 ?_
    refine am_icmp_lt (tgt := 19) dX9_span_9 (by decide) (fun c8 => ?_) (fun c8 => ?_)
    · refine am_iconst dX9_span_19 am_kc_m1 ?_
      exact am_iret dX9_span_20
    · refine am_iload_n 3 dX9_span_12 rfl rfl ?_
      refine am_callSi [.int a3] (CX9_isBit G a3 M2) dX9_span_13 mb_yX9_isBit ⟨ml_RX9_75, sm_yX9_isBit⟩ (by decide) rfl rfl (Nat.le_of_ble_eq_true rfl) (fun v13 M10 q9 w12 l11 => ?_)
      refine am_if_ne (tgt := 21) dX9_span_16 (by decide) (fun c15 => ?_) (fun c15 => ?_)
      · refine am_aload_n 0 dX9_span_21 rfl rfl ?_
        refine am_getR 8 dX9_span_22 fl_RX9_19 (am_sh.mono l11 (am_sh.mono l3 h_a0)) rfl (fun r16 e17 h18 => ?_)
        refine am_aload_n 0 dX9_span_25 rfl rfl ?_
        refine am_getR 8 dX9_span_26 fl_RX9_26 (am_sh.mono l11 (am_sh.mono l3 h_a0)) rfl (fun r19 e20 h21 => ?_)
        refine am_callVv 0 [.ref r19] (CX0_refresh G r16 r19 M10 h18 h21) dX9_span_29 mb_yX0_refresh ⟨ml_RX9_145, im_yX0_refresh, se_yX0_refresh⟩ rfl h18 (by decide) rfl rfl (Nat.le_of_ble_eq_true rfl) (fun M23 q22 w25 l24 => ?_)
        refine am_aload_n 0 dX9_span_32 rfl rfl ?_
        refine am_getR 8 dX9_span_33 fl_RX9_19 (am_sh.mono l24 (am_sh.mono l11 (am_sh.mono l3 h_a0))) rfl (fun r27 e28 h29 => ?_)
        refine am_iload_n 1 dX9_span_36 rfl rfl ?_
        refine am_callVr 0 [.int a1] (CX0_keysOf G r27 a1 M23 h29) dX9_span_37 mb_yX0_keysOf ⟨ml_RX9_167, im_yX0_keysOf, se_yX0_keysOf⟩ rfl h29 (by decide) rfl rfl (Nat.le_of_ble_eq_true rfl) (fun v34 M31 q30 w33 l32 => ?_)
        refine am_iload_n 2 dX9_span_40 rfl rfl ?_
        refine am_iload_n 3 dX9_span_41 rfl rfl ?_
        refine am_callVi 2 [.int a2, .int a3] (CX3_runEnd G v34 a2 a3 M31 (fX0_keysOf_sh h29 w33 q30)) dX9_span_42 mb_yX3_runEnd ⟨ml_RX9_187, im_yX3_runEnd, se_yX3_runEnd⟩ rfl (fX0_keysOf_sh h29 w33 q30) (by decide) rfl rfl (Nat.le_of_ble_eq_true rfl) (fun v40 M37 q36 w39 l38 => ?_)
        exact am_iret dX9_span_45
      · refine am_iconst dX9_span_19 am_kc_m1 ?_
        exact am_iret dX9_span_20
theorem CX9_span (G : am_G) (a0 : Nat) (a1 : Int32) (a2 : Int32) (a3 : Int32) (M : am_M) (h_a0 : am_sh M a0 13) : am_C am_ei G 4 yX9_span cX9_span 4 (some FieldType.int) [.ref a0, .int a1, .int a2, .int a3] M (fX9_span a0 a1 a2 a3 M) :=
  am_meth (by decide) rfl (Nat.le_of_ble_eq_true rfl) (sX9_span_0 G a0 a1 a2 a3 M h_a0)
def fX9_joined (a0 : Nat) (a1 : Int32) (a2 : Int32) (M : am_M) : Option (Int32 × am_M) := (fX9_isBit a1 M).bind fun p6 => if p6.1 = 0 then some ((-1), p6.2) else if a2 < 1 then some ((-1), p6.2) else if a2 ≤ 99 then (p6.2.2.2.1 a0 1).bind fun r10 => (p6.2.2.2.1 a0 2).bind fun r13 => (fX0_refresh r10 r13 p6.2).bind fun M17 => (M17.2.2.1 a0 1).bind fun r21 => (M17.2.2.1 r21 3).bind fun r24 => (M17.2.2.1 a0 1).bind fun r27 => (fX0_keysOf r27 a1 M17).bind fun p35 => (fX2_filledFor r24 p35.1 a2 p35.2).bind fun p41 => some (p41.1, p41.2) else some ((-1), p6.2)
set_option maxRecDepth 100000 in
set_option maxHeartbeats 4000000 in
theorem sX9_joined_0 (G : am_G) (a0 : Nat) (a1 : Int32) (a2 : Int32) (M : am_M) (h_a0 : am_sh M a0 13) : am_S am_ei G 4 yX9_joined.cls yX9_joined.name cX9_joined 3 (some FieldType.int) 0 [(0, .ref a0), (1, .int a1), (2, .int a2)] [] M (fX9_joined a0 a1 a2 M) := by
  show am_S am_ei G 4 yX9_joined.cls yX9_joined.name cX9_joined 3 (some FieldType.int) 0 [(0, .ref a0), (1, .int a1), (2, .int a2)] [] M ((fX9_isBit a1 M).bind fun p6 => if p6.1 = 0 then some ((-1), p6.2) else if a2 < 1 then some ((-1), p6.2) else if a2 ≤ 99 then (p6.2.2.2.1 a0 1).bind fun r10 => (p6.2.2.2.1 a0 2).bind fun r13 => (fX0_refresh r10 r13 p6.2).bind fun M17 => (M17.2.2.1 a0 1).bind fun r21 => (M17.2.2.1 r21 3).bind fun r24 => (M17.2.2.1 a0 1).bind fun r27 => (fX0_keysOf r27 a1 M17).bind fun p35 => (fX2_filledFor r24 p35.1 a2 p35.2).bind fun p41 => some (p41.1, p41.2) else some ((-1), p6.2))
  refine am_iload_n 1 dX9_joined_0 rfl rfl ?_
  refine am_callSi [.int a1] (CX9_isBit G a1 M) dX9_joined_1 mb_yX9_isBit ⟨ml_RX9_75, sm_yX9_isBit⟩ (by decide) rfl rfl (Nat.le_of_ble_eq_true rfl) (fun v5 M2 q1 w4 l3 => ?_)
  refine am_if_eq (tgt := 18) dX9_joined_4 (by decide) (fun c7 => ?_) (fun c7 => ?_)
  · refine am_iconst dX9_joined_18 am_kc_m1 ?_
    exact am_iret dX9_joined_19
  · refine am_iload_n 2 dX9_joined_7 rfl rfl ?_
    refine am_iconst dX9_joined_8 am_kc_1 ?_
    refine am_icmp_lt (tgt := 18) dX9_joined_9 (by decide) (fun c8 => ?_) (fun c8 => ?_)
    · refine am_iconst dX9_joined_18 am_kc_m1 ?_
      exact am_iret dX9_joined_19
    · refine am_iload_n 2 dX9_joined_12 rfl rfl ?_
      refine am_bipush (x := 99) dX9_joined_13 (by decide) ?_
      refine am_icmp_le (tgt := 20) dX9_joined_15 (by decide) (fun c9 => ?_) (fun c9 => ?_)
      · refine am_aload_n 0 dX9_joined_20 rfl rfl ?_
        refine am_getR 8 dX9_joined_21 fl_RX9_19 (am_sh.mono l3 h_a0) rfl (fun r10 e11 h12 => ?_)
        refine am_aload_n 0 dX9_joined_24 rfl rfl ?_
        refine am_getR 8 dX9_joined_25 fl_RX9_26 (am_sh.mono l3 h_a0) rfl (fun r13 e14 h15 => ?_)
        refine am_callVv 0 [.ref r13] (CX0_refresh G r10 r13 M2 h12 h15) dX9_joined_28 mb_yX0_refresh ⟨ml_RX9_145, im_yX0_refresh, se_yX0_refresh⟩ rfl h12 (by decide) rfl rfl (Nat.le_of_ble_eq_true rfl) (fun M17 q16 w19 l18 => ?_)
        refine am_aload_n 0 dX9_joined_31 rfl rfl ?_
        refine am_getR 8 dX9_joined_32 fl_RX9_19 (am_sh.mono l18 (am_sh.mono l3 h_a0)) rfl (fun r21 e22 h23 => ?_)
        refine am_getR 0 dX9_joined_35 fl_RX9_190 h23 rfl (fun r24 e25 h26 => ?_)
        refine am_aload_n 0 dX9_joined_38 rfl rfl ?_
        refine am_getR 8 dX9_joined_39 fl_RX9_19 (am_sh.mono l18 (am_sh.mono l3 h_a0)) rfl (fun r27 e28 h29 => ?_)
        refine am_iload_n 1 dX9_joined_42 rfl rfl ?_
        refine am_callVr 0 [.int a1] (CX0_keysOf G r27 a1 M17 h29) dX9_joined_43 mb_yX0_keysOf ⟨ml_RX9_167, im_yX0_keysOf, se_yX0_keysOf⟩ rfl h29 (by decide) rfl rfl (Nat.le_of_ble_eq_true rfl) (fun v34 M31 q30 w33 l32 => ?_)
        refine am_iload_n 2 dX9_joined_46 rfl rfl ?_
        refine am_callVi 1 [.ref v34, .int a2] (CX2_filledFor G r24 v34 a2 M31 (am_sh.mono l32 h26) (fX0_keysOf_sh h29 w33 q30)) dX9_joined_47 mb_yX2_filledFor ⟨ml_RX9_194, im_yX2_filledFor, se_yX2_filledFor⟩ rfl (am_sh.mono l32 h26) (by decide) rfl rfl (Nat.le_of_ble_eq_true rfl) (fun v40 M37 q36 w39 l38 => ?_)
        exact am_iret dX9_joined_50
      · refine am_iconst dX9_joined_18 am_kc_m1 ?_
        exact am_iret dX9_joined_19
theorem CX9_joined (G : am_G) (a0 : Nat) (a1 : Int32) (a2 : Int32) (M : am_M) (h_a0 : am_sh M a0 13) : am_C am_ei G 4 yX9_joined cX9_joined 3 (some FieldType.int) [.ref a0, .int a1, .int a2] M (fX9_joined a0 a1 a2 M) :=
  am_meth (by decide) rfl (Nat.le_of_ble_eq_true rfl) (sX9_joined_0 G a0 a1 a2 M h_a0)
def fX9_at (a0 : Nat) (a1 : Int32) (a2 : Int32) (M : am_M) : Option (Int32 × am_M) := (M.2.2.1 a0 2).bind fun r1 => (M.2.2.1 r1 0).bind fun r4 => (fX6_has r4 a1 M).bind fun p12 => if p12.1 = 0 then some ((-1), p12.2) else if a2 < 0 then some ((-1), p12.2) else if a2 ≤ 2 then if a2 = 2 then (p12.2.2.2.1 a0 2).bind fun r26 => (p12.2.2.2.1 a0 2).bind fun r29 => (fX6_arrange r4 (p12.2.1 r26 3) (p12.2.1 r29 4) p12.2).bind fun M33 => (fX6_rankOf r4 a1 M33).bind fun p42 => some (p42.1, p42.2) else if a2 = 0 then (p12.2.2.2.1 r4 0).bind fun r22 => if a1 < 0 ∨ am_len p12.2 r22 ≤ a1.toNatClampNeg then none else some (p12.2.1 r22 (a1.toNatClampNeg), p12.2) else (p12.2.2.2.1 r4 1).bind fun r18 => if a1 < 0 ∨ am_len p12.2 r18 ≤ a1.toNatClampNeg then none else some (p12.2.1 r18 (a1.toNatClampNeg), p12.2) else some ((-1), p12.2)
set_option maxRecDepth 100000 in
set_option maxHeartbeats 4000000 in
theorem sX9_at_0 (G : am_G) (a0 : Nat) (a1 : Int32) (a2 : Int32) (M : am_M) (h_a0 : am_sh M a0 13) : am_S am_ei G 3 yX9_at.cls yX9_at.name cX9_at 4 (some FieldType.int) 0 [(0, .ref a0), (1, .int a1), (2, .int a2)] [] M (fX9_at a0 a1 a2 M) := by
  show am_S am_ei G 3 yX9_at.cls yX9_at.name cX9_at 4 (some FieldType.int) 0 [(0, .ref a0), (1, .int a1), (2, .int a2)] [] M ((M.2.2.1 a0 2).bind fun r1 => (M.2.2.1 r1 0).bind fun r4 => (fX6_has r4 a1 M).bind fun p12 => if p12.1 = 0 then some ((-1), p12.2) else if a2 < 0 then some ((-1), p12.2) else if a2 ≤ 2 then if a2 = 2 then (p12.2.2.2.1 a0 2).bind fun r26 => (p12.2.2.2.1 a0 2).bind fun r29 => (fX6_arrange r4 (p12.2.1 r26 3) (p12.2.1 r29 4) p12.2).bind fun M33 => (fX6_rankOf r4 a1 M33).bind fun p42 => some (p42.1, p42.2) else if a2 = 0 then (p12.2.2.2.1 r4 0).bind fun r22 => if a1 < 0 ∨ am_len p12.2 r22 ≤ a1.toNatClampNeg then none else some (p12.2.1 r22 (a1.toNatClampNeg), p12.2) else (p12.2.2.2.1 r4 1).bind fun r18 => if a1 < 0 ∨ am_len p12.2 r18 ≤ a1.toNatClampNeg then none else some (p12.2.1 r18 (a1.toNatClampNeg), p12.2) else some ((-1), p12.2))
  refine am_aload_n 0 dX9_at_0 rfl rfl ?_
  refine am_getR 8 dX9_at_1 fl_RX9_26 h_a0 rfl (fun r1 e2 h3 => ?_)
  refine am_getR 4 dX9_at_4 fl_RX9_109 h3 rfl (fun r4 e5 h6 => ?_)
  refine am_astore_n (L' := [(3, .ref r4), (0, .ref a0), (1, .int a1), (2, .int a2)]) dX9_at_7 rfl (by decide) rfl ?_
  refine am_aload_n 0 dX9_at_8 rfl rfl ?_
  refine am_iload_n 2 dX9_at_9 rfl rfl ?_
  refine am_callVi 5 [.int a1] (CX6_has G r4 a1 M h6) dX9_at_10 mb_yX6_has ⟨ml_RX9_200, im_yX6_has, se_yX6_has⟩ rfl h6 (by decide) rfl rfl (Nat.le_of_ble_eq_true rfl) (fun v11 M8 q7 w10 l9 => ?_)
  refine am_if_eq (tgt := 25) dX9_at_13 (by decide) (fun c13 => ?_) (fun c13 => ?_)
  · refine am_iconst dX9_at_25 am_kc_m1 ?_
    exact am_iret dX9_at_26
  · refine am_iload_n 3 dX9_at_16 rfl rfl ?_
    refine am_if_lt (tgt := 25) dX9_at_17 (by decide) (fun c14 => ?_) (fun c14 => ?_)
    · refine am_iconst dX9_at_25 am_kc_m1 ?_
      exact am_iret dX9_at_26
    · refine am_iload_n 3 dX9_at_20 rfl rfl ?_
      refine am_iconst dX9_at_21 am_kc_2 ?_
      refine am_icmp_le (tgt := 27) dX9_at_22 (by decide) (fun c15 => ?_) (fun c15 => ?_)
      · refine am_iload_n 3 dX9_at_27 rfl rfl ?_
        refine am_iconst dX9_at_28 am_kc_2 ?_
        refine am_icmp_ne (tgt := 56) dX9_at_29 (by decide) (fun c16 => ?_) (fun c16 => ?_)
        · refine am_iload_n 3 dX9_at_56 rfl rfl ?_
          refine am_if_ne (tgt := 69) dX9_at_57 (by decide) (fun c17 => ?_) (fun c17 => ?_)
          · refine am_aload_n 0 dX9_at_69 rfl rfl ?_
            refine am_getR 5 dX9_at_70 fl_RX9_213 (am_sh.mono l9 h6) rfl (fun r18 e19 h20 => ?_)
            refine am_iload_n 2 dX9_at_73 rfl rfl ?_
            refine am_iald dX9_at_74 h20 (fun b21 => ?_)
            exact am_iret dX9_at_75
          · refine am_aload_n 0 dX9_at_60 rfl rfl ?_
            refine am_getR 5 dX9_at_61 fl_RX9_210 (am_sh.mono l9 h6) rfl (fun r22 e23 h24 => ?_)
            refine am_iload_n 2 dX9_at_64 rfl rfl ?_
            refine am_iald dX9_at_65 h24 (fun b25 => ?_)
            refine am_goto (tgt := 75) dX9_at_66 (by decide) ?_
            exact am_iret dX9_at_75
        · refine am_aload_n 0 dX9_at_32 rfl rfl ?_
          refine am_aload_n 1 dX9_at_33 rfl rfl ?_
          refine am_getR 8 dX9_at_34 fl_RX9_26 (am_sh.mono l9 h_a0) rfl (fun r26 e27 h28 => ?_)
          refine am_getI 4 dX9_at_37 fl_RX9_82 h28 rfl ?_
          refine am_aload_n 1 dX9_at_40 rfl rfl ?_
          refine am_getR 8 dX9_at_41 fl_RX9_26 (am_sh.mono l9 h_a0) rfl (fun r29 e30 h31 => ?_)
          refine am_getI 4 dX9_at_44 fl_RX9_79 h31 rfl ?_
          refine am_callVv 5 [.int (M8.1 r26 3), .int (M8.1 r29 4)] (CX6_arrange G r4 (M8.1 r26 3) (M8.1 r29 4) M8 (am_sh.mono l9 h6)) dX9_at_47 mb_yX6_arrange ⟨ml_RX9_203, im_yX6_arrange, se_yX6_arrange⟩ rfl (am_sh.mono l9 h6) (by decide) rfl rfl (Nat.le_of_ble_eq_true rfl) (fun M33 q32 w35 l34 => ?_)
          refine am_aload_n 0 dX9_at_50 rfl rfl ?_
          refine am_iload_n 2 dX9_at_51 rfl rfl ?_
          refine am_callVi 5 [.int a1] (CX6_rankOf G r4 a1 M33 (am_sh.mono l34 (am_sh.mono l9 h6))) dX9_at_52 mb_yX6_rankOf ⟨ml_RX9_207, im_yX6_rankOf, se_yX6_rankOf⟩ rfl (am_sh.mono l34 (am_sh.mono l9 h6)) (by decide) rfl rfl (Nat.le_of_ble_eq_true rfl) (fun v41 M38 q37 w40 l39 => ?_)
          exact am_iret dX9_at_55
      · refine am_iconst dX9_at_25 am_kc_m1 ?_
        exact am_iret dX9_at_26
theorem CX9_at (G : am_G) (a0 : Nat) (a1 : Int32) (a2 : Int32) (M : am_M) (h_a0 : am_sh M a0 13) : am_C am_ei G 3 yX9_at cX9_at 4 (some FieldType.int) [.ref a0, .int a1, .int a2] M (fX9_at a0 a1 a2 M) :=
  am_meth (by decide) rfl (Nat.le_of_ble_eq_true rfl) (sX9_at_0 G a0 a1 a2 M h_a0)
def fX9_ordered (a0 : Nat) (a1 : Int32) (M : am_M) : Option (Int32 × am_M) := if (0 : Int32) ≤ a1 then (M.2.2.1 a0 2).bind fun r2 => (M.2.2.1 r2 0).bind fun r5 => (fX6_has r5 a1 M).bind fun p13 => if p13.1 = 0 then some ((-4), p13.2) else (p13.2.2.2.1 a0 2).bind fun r15 => (p13.2.2.2.1 r15 0).bind fun r18 => (p13.2.2.2.1 a0 2).bind fun r21 => (p13.2.2.2.1 a0 2).bind fun r24 => (fX6_arrange r18 (p13.2.1 r21 3) (p13.2.1 r24 4) p13.2).bind fun M28 => (M28.2.2.1 a0 2).bind fun r32 => (M28.2.2.1 r32 0).bind fun r35 => (M28.2.2.1 r35 2).bind fun r38 => if a1 < 0 ∨ am_len M28 r38 ≤ a1.toNatClampNeg then none else some (M28.1 r38 (a1.toNatClampNeg), M28) else some ((-1), M)
set_option maxRecDepth 100000 in
set_option maxHeartbeats 4000000 in
theorem sX9_ordered_0 (G : am_G) (a0 : Nat) (a1 : Int32) (M : am_M) (h_a0 : am_sh M a0 13) : am_S am_ei G 3 yX9_ordered.cls yX9_ordered.name cX9_ordered 2 (some FieldType.int) 0 [(0, .ref a0), (1, .int a1)] [] M (fX9_ordered a0 a1 M) := by
  show am_S am_ei G 3 yX9_ordered.cls yX9_ordered.name cX9_ordered 2 (some FieldType.int) 0 [(0, .ref a0), (1, .int a1)] [] M (if (0 : Int32) ≤ a1 then (M.2.2.1 a0 2).bind fun r2 => (M.2.2.1 r2 0).bind fun r5 => (fX6_has r5 a1 M).bind fun p13 => if p13.1 = 0 then some ((-4), p13.2) else (p13.2.2.2.1 a0 2).bind fun r15 => (p13.2.2.2.1 r15 0).bind fun r18 => (p13.2.2.2.1 a0 2).bind fun r21 => (p13.2.2.2.1 a0 2).bind fun r24 => (fX6_arrange r18 (p13.2.1 r21 3) (p13.2.1 r24 4) p13.2).bind fun M28 => (M28.2.2.1 a0 2).bind fun r32 => (M28.2.2.1 r32 0).bind fun r35 => (M28.2.2.1 r35 2).bind fun r38 => if a1 < 0 ∨ am_len M28 r38 ≤ a1.toNatClampNeg then none else some (M28.1 r38 (a1.toNatClampNeg), M28) else some ((-1), M))
  refine am_iload_n 1 dX9_ordered_0 rfl rfl ?_
  refine am_if_ge (tgt := 6) dX9_ordered_1 (by decide) (fun c1 => ?_) (fun c1 => ?_)
  · refine am_aload_n 0 dX9_ordered_6 rfl rfl ?_
    refine am_getR 8 dX9_ordered_7 fl_RX9_26 h_a0 rfl (fun r2 e3 h4 => ?_)
    refine am_getR 4 dX9_ordered_10 fl_RX9_109 h4 rfl (fun r5 e6 h7 => ?_)
    refine am_iload_n 1 dX9_ordered_13 rfl rfl ?_
    refine am_callVi 5 [.int a1] (CX6_has G r5 a1 M h7) dX9_ordered_14 mb_yX6_has ⟨ml_RX9_200, im_yX6_has, se_yX6_has⟩ rfl h7 (by decide) rfl rfl (Nat.le_of_ble_eq_true rfl) (fun v12 M9 q8 w11 l10 => ?_)
    refine am_if_ne (tgt := 23) dX9_ordered_17 (by decide) (fun c14 => ?_) (fun c14 => ?_)
    · refine am_aload_n 0 dX9_ordered_23 rfl rfl ?_
      refine am_getR 8 dX9_ordered_24 fl_RX9_26 (am_sh.mono l10 h_a0) rfl (fun r15 e16 h17 => ?_)
      refine am_getR 4 dX9_ordered_27 fl_RX9_109 h17 rfl (fun r18 e19 h20 => ?_)
      refine am_aload_n 0 dX9_ordered_30 rfl rfl ?_
      refine am_getR 8 dX9_ordered_31 fl_RX9_26 (am_sh.mono l10 h_a0) rfl (fun r21 e22 h23 => ?_)
      refine am_getI 4 dX9_ordered_34 fl_RX9_82 h23 rfl ?_
      refine am_aload_n 0 dX9_ordered_37 rfl rfl ?_
      refine am_getR 8 dX9_ordered_38 fl_RX9_26 (am_sh.mono l10 h_a0) rfl (fun r24 e25 h26 => ?_)
      refine am_getI 4 dX9_ordered_41 fl_RX9_79 h26 rfl ?_
      refine am_callVv 5 [.int (M9.1 r21 3), .int (M9.1 r24 4)] (CX6_arrange G r18 (M9.1 r21 3) (M9.1 r24 4) M9 h20) dX9_ordered_44 mb_yX6_arrange ⟨ml_RX9_203, im_yX6_arrange, se_yX6_arrange⟩ rfl h20 (by decide) rfl rfl (Nat.le_of_ble_eq_true rfl) (fun M28 q27 w30 l29 => ?_)
      refine am_aload_n 0 dX9_ordered_47 rfl rfl ?_
      refine am_getR 8 dX9_ordered_48 fl_RX9_26 (am_sh.mono l29 (am_sh.mono l10 h_a0)) rfl (fun r32 e33 h34 => ?_)
      refine am_getR 4 dX9_ordered_51 fl_RX9_109 h34 rfl (fun r35 e36 h37 => ?_)
      refine am_getR 5 dX9_ordered_54 fl_RX9_216 h37 rfl (fun r38 e39 h40 => ?_)
      refine am_iload_n 1 dX9_ordered_57 rfl rfl ?_
      refine am_iald dX9_ordered_58 h40 (fun b41 => ?_)
      exact am_iret dX9_ordered_59
    · refine am_bipush (x := -4) dX9_ordered_20 (by decide) ?_
      exact am_iret dX9_ordered_22
  · refine am_iconst dX9_ordered_4 am_kc_m1 ?_
    exact am_iret dX9_ordered_5
theorem CX9_ordered (G : am_G) (a0 : Nat) (a1 : Int32) (M : am_M) (h_a0 : am_sh M a0 13) : am_C am_ei G 3 yX9_ordered cX9_ordered 2 (some FieldType.int) [.ref a0, .int a1] M (fX9_ordered a0 a1 M) :=
  am_meth (by decide) rfl (Nat.le_of_ble_eq_true rfl) (sX9_ordered_0 G a0 a1 M h_a0)
def fX9_search (a0 : Nat) (a1 : Int32) (M : am_M) : Option (Int32 × am_M) := (fX9_isBit a1 M).bind fun p6 => if p6.1 = 0 then some ((-1), p6.2) else if a1 = 1 then (p6.2.2.2.1 a0 2).bind fun r35 => (fX5_pointsInShape r35 p6.2).bind fun p43 => some (p43.1, p43.2) else (p6.2.2.2.1 a0 1).bind fun r9 => (p6.2.2.2.1 a0 2).bind fun r12 => (fX0_refresh r9 r12 p6.2).bind fun M16 => (M16.2.2.1 a0 2).bind fun r20 => (M16.2.2.1 a0 1).bind fun r23 => (M16.2.2.1 r23 1).bind fun r26 => (fX5_pointsAmong r20 r26 M16).bind fun p34 => some (p34.1, p34.2)
set_option maxRecDepth 100000 in
set_option maxHeartbeats 4000000 in
theorem sX9_search_0 (G : am_G) (a0 : Nat) (a1 : Int32) (M : am_M) (h_a0 : am_sh M a0 13) : am_S am_ei G 4 yX9_search.cls yX9_search.name cX9_search 2 (some FieldType.int) 0 [(0, .ref a0), (1, .int a1)] [] M (fX9_search a0 a1 M) := by
  show am_S am_ei G 4 yX9_search.cls yX9_search.name cX9_search 2 (some FieldType.int) 0 [(0, .ref a0), (1, .int a1)] [] M ((fX9_isBit a1 M).bind fun p6 => if p6.1 = 0 then some ((-1), p6.2) else if a1 = 1 then (p6.2.2.2.1 a0 2).bind fun r35 => (fX5_pointsInShape r35 p6.2).bind fun p43 => some (p43.1, p43.2) else (p6.2.2.2.1 a0 1).bind fun r9 => (p6.2.2.2.1 a0 2).bind fun r12 => (fX0_refresh r9 r12 p6.2).bind fun M16 => (M16.2.2.1 a0 2).bind fun r20 => (M16.2.2.1 a0 1).bind fun r23 => (M16.2.2.1 r23 1).bind fun r26 => (fX5_pointsAmong r20 r26 M16).bind fun p34 => some (p34.1, p34.2))
  refine am_iload_n 1 dX9_search_0 rfl rfl ?_
  refine am_callSi [.int a1] (CX9_isBit G a1 M) dX9_search_1 mb_yX9_isBit ⟨ml_RX9_75, sm_yX9_isBit⟩ (by decide) rfl rfl (Nat.le_of_ble_eq_true rfl) (fun v5 M2 q1 w4 l3 => ?_)
  refine am_if_ne (tgt := 9) dX9_search_4 (by decide) (fun c7 => ?_) (fun c7 => ?_)
  · refine am_iload_n 1 dX9_search_9 rfl rfl ?_
    refine am_iconst dX9_search_10 am_kc_1 ?_
    refine am_icmp_ne (tgt := 22) dX9_search_11 (by decide) (fun c8 => ?_) (fun c8 => ?_)
    · refine am_aload_n 0 dX9_search_22 rfl rfl ?_
      refine am_getR 8 dX9_search_23 fl_RX9_19 (am_sh.mono l3 h_a0) rfl (fun r9 e10 h11 => ?_)
      refine am_aload_n 0 dX9_search_26 rfl rfl ?_
      refine am_getR 8 dX9_search_27 fl_RX9_26 (am_sh.mono l3 h_a0) rfl (fun r12 e13 h14 => ?_)
      refine am_callVv 0 [.ref r12] (CX0_refresh G r9 r12 M2 h11 h14) dX9_search_30 mb_yX0_refresh ⟨ml_RX9_145, im_yX0_refresh, se_yX0_refresh⟩ rfl h11 (by decide) rfl rfl (Nat.le_of_ble_eq_true rfl) (fun M16 q15 w18 l17 => ?_)
      refine am_aload_n 0 dX9_search_33 rfl rfl ?_
      refine am_getR 8 dX9_search_34 fl_RX9_26 (am_sh.mono l17 (am_sh.mono l3 h_a0)) rfl (fun r20 e21 h22 => ?_)
      refine am_aload_n 0 dX9_search_37 rfl rfl ?_
      refine am_getR 8 dX9_search_38 fl_RX9_19 (am_sh.mono l17 (am_sh.mono l3 h_a0)) rfl (fun r23 e24 h25 => ?_)
      refine am_getR 0 dX9_search_41 fl_RX9_222 h25 rfl (fun r26 e27 h28 => ?_)
      refine am_callVi 4 [.ref r26] (CX5_pointsAmong G r20 r26 M16 h22 h28) dX9_search_44 mb_yX5_pointsAmong ⟨ml_RX9_225, im_yX5_pointsAmong, se_yX5_pointsAmong⟩ rfl h22 (by decide) rfl rfl (Nat.le_of_ble_eq_true rfl) (fun v33 M30 q29 w32 l31 => ?_)
      exact am_iret dX9_search_47
    · refine am_aload_n 0 dX9_search_14 rfl rfl ?_
      refine am_getR 8 dX9_search_15 fl_RX9_26 (am_sh.mono l3 h_a0) rfl (fun r35 e36 h37 => ?_)
      refine am_callVi 4 [] (CX5_pointsInShape G r35 M2 h37) dX9_search_18 mb_yX5_pointsInShape ⟨ml_RX9_219, im_yX5_pointsInShape, se_yX5_pointsInShape⟩ rfl h37 (by decide) rfl rfl (Nat.le_of_ble_eq_true rfl) (fun v42 M39 q38 w41 l40 => ?_)
      exact am_iret dX9_search_21
  · refine am_iconst dX9_search_7 am_kc_m1 ?_
    exact am_iret dX9_search_8
theorem CX9_search (G : am_G) (a0 : Nat) (a1 : Int32) (M : am_M) (h_a0 : am_sh M a0 13) : am_C am_ei G 4 yX9_search cX9_search 2 (some FieldType.int) [.ref a0, .int a1] M (fX9_search a0 a1 M) :=
  am_meth (by decide) rfl (Nat.le_of_ble_eq_true rfl) (sX9_search_0 G a0 a1 M h_a0)
