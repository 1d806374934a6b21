def fX9_found (a0 : Nat) (a1 : Int32) (M : am_M) : Option (Int32 × am_M) := if (0 : Int32) ≤ a1 then (M.2.2.1 a0 2).bind fun r2 => (fX5_pointInShape r2 a1 M).bind fun p10 => some (p10.1, p10.2) else some ((-1), M)
set_option maxRecDepth 100000 in
set_option maxHeartbeats 4000000 in
theorem sX9_found_0 (G : am_G) (a0 : Nat) (a1 : Int32) (M : am_M) (h_a0 : am_sh M a0 13) : am_S am_ei G 4 yX9_found.cls yX9_found.name cX9_found 2 (some FieldType.int) 0 [(0, .ref a0), (1, .int a1)] [] M (fX9_found a0 a1 M) := by
  show am_S am_ei G 4 yX9_found.cls yX9_found.name cX9_found 2 (some FieldType.int) 0 [(0, .ref a0), (1, .int a1)] [] M (if (0 : Int32) ≤ a1 then (M.2.2.1 a0 2).bind fun r2 => (fX5_pointInShape r2 a1 M).bind fun p10 => some (p10.1, p10.2) else some ((-1), M))
  refine am_iload_n 1 dX9_found_0 rfl rfl ?_
  refine am_if_ge (tgt := 8) dX9_found_1 (by decide) (fun c1 => ?_) (fun c1 => ?_)
  · refine am_aload_n 0 dX9_found_8 rfl rfl ?_
    refine am_getR 8 dX9_found_9 fl_RX9_26 h_a0 rfl (fun r2 e3 h4 => ?_)
    refine am_iload_n 1 dX9_found_12 rfl rfl ?_
    refine am_callVi 4 [.int a1] (CX5_pointInShape G r2 a1 M h4) dX9_found_13 mb_yX5_pointInShape ⟨ml_RX9_229, im_yX5_pointInShape, se_yX5_pointInShape⟩ rfl h4 (by decide) rfl rfl (Nat.le_of_ble_eq_true rfl) (fun v9 M6 q5 w8 l7 => ?_)
    exact am_iret dX9_found_16
  · refine am_iconst dX9_found_4 am_kc_m1 ?_
    refine am_goto (tgt := 16) dX9_found_5 (by decide) ?_
    exact am_iret dX9_found_16
theorem CX9_found (G : am_G) (a0 : Nat) (a1 : Int32) (M : am_M) (h_a0 : am_sh M a0 13) : am_C am_ei G 4 yX9_found cX9_found 2 (some FieldType.int) [.ref a0, .int a1] M (fX9_found a0 a1 M) :=
  am_meth (by decide) rfl (Nat.le_of_ble_eq_true rfl) (sX9_found_0 G a0 a1 M h_a0)
def fX9_nearest (a0 : Nat) (a1 : Int32) (a2 : Int32) (M : am_M) : Option (Int32 × am_M) := (M.2.2.1 a0 2).bind fun r1 => (fX5_hasCell r1 a1 a2 M).bind fun p9 => if p9.1 = 0 then some ((-1), p9.2) else (p9.2.2.2.1 a0 2).bind fun r11 => (p9.2.2.2.1 r11 0).bind fun r14 => (fX6_nearestTo r14 a1 a2 p9.2).bind fun p22 => some (p22.1, p22.2)
set_option maxRecDepth 100000 in
set_option maxHeartbeats 4000000 in
theorem sX9_nearest_0 (G : am_G) (a0 : Nat) (a1 : Int32) (a2 : Int32) (M : am_M) (h_a0 : am_sh M a0 13) : am_S am_ei G 2 yX9_nearest.cls yX9_nearest.name cX9_nearest 3 (some FieldType.int) 0 [(0, .ref a0), (1, .int a1), (2, .int a2)] [] M (fX9_nearest a0 a1 a2 M) := by
  show am_S am_ei G 2 yX9_nearest.cls yX9_nearest.name cX9_nearest 3 (some FieldType.int) 0 [(0, .ref a0), (1, .int a1), (2, .int a2)] [] M ((M.2.2.1 a0 2).bind fun r1 => (fX5_hasCell r1 a1 a2 M).bind fun p9 => if p9.1 = 0 then some ((-1), p9.2) else (p9.2.2.2.1 a0 2).bind fun r11 => (p9.2.2.2.1 r11 0).bind fun r14 => (fX6_nearestTo r14 a1 a2 p9.2).bind fun p22 => some (p22.1, p22.2))
  refine am_aload_n 0 dX9_nearest_0 rfl rfl ?_
  refine am_getR 8 dX9_nearest_1 fl_RX9_26 h_a0 rfl (fun r1 e2 h3 => ?_)
  refine am_iload_n 1 dX9_nearest_4 rfl rfl ?_
  refine am_iload_n 2 dX9_nearest_5 rfl rfl ?_
  refine am_callVi 4 [.int a1, .int a2] (CX5_hasCell G r1 a1 a2 M h3) dX9_nearest_6 mb_yX5_hasCell ⟨ml_RX9_91, im_yX5_hasCell, se_yX5_hasCell⟩ rfl h3 (by decide) rfl rfl (Nat.le_of_ble_eq_true rfl) (fun v8 M5 q4 w7 l6 => ?_)
  refine am_if_eq (tgt := 27) dX9_nearest_9 (by decide) (fun c10 => ?_) (fun c10 => ?_)
  · refine am_iconst dX9_nearest_27 am_kc_m1 ?_
    exact am_iret dX9_nearest_28
  · refine am_aload_n 0 dX9_nearest_12 rfl rfl ?_
    refine am_getR 8 dX9_nearest_13 fl_RX9_26 (am_sh.mono l6 h_a0) rfl (fun r11 e12 h13 => ?_)
    refine am_getR 4 dX9_nearest_16 fl_RX9_109 h13 rfl (fun r14 e15 h16 => ?_)
    refine am_iload_n 1 dX9_nearest_19 rfl rfl ?_
    refine am_iload_n 2 dX9_nearest_20 rfl rfl ?_
    refine am_callVi 5 [.int a1, .int a2] (CX6_nearestTo G r14 a1 a2 M5 h16) dX9_nearest_21 mb_yX6_nearestTo ⟨ml_RX9_232, im_yX6_nearestTo, se_yX6_nearestTo⟩ rfl h16 (by decide) rfl rfl (Nat.le_of_ble_eq_true rfl) (fun v21 M18 q17 w20 l19 => ?_)
    refine am_goto (tgt := 28) dX9_nearest_24 (by decide) ?_
    exact am_iret dX9_nearest_28
theorem CX9_nearest (G : am_G) (a0 : Nat) (a1 : Int32) (a2 : Int32) (M : am_M) (h_a0 : am_sh M a0 13) : am_C am_ei G 2 yX9_nearest cX9_nearest 3 (some FieldType.int) [.ref a0, .int a1, .int a2] M (fX9_nearest a0 a1 a2 M) :=
  am_meth (by decide) rfl (Nat.le_of_ble_eq_true rfl) (sX9_nearest_0 G a0 a1 a2 M h_a0)
def fX9_count (a0 : Nat) (a1 : Int32) (M : am_M) : Option (Int32 × am_M) := if a1 = 0 then (M.2.2.1 a0 2).bind fun r2 => some (M.1 r2 3, M) else if a1 = 1 then (M.2.2.1 a0 2).bind fun r6 => some (M.1 r6 4, M) else if a1 = 2 then (M.2.2.1 a0 2).bind fun r10 => some (M.1 r10 5, M) else if a1 = 3 then (M.2.2.1 a0 2).bind fun r14 => some (M.1 r14 6, M) else if a1 = 4 then (M.2.2.1 a0 2).bind fun r18 => some (M.1 r18 2, M) else if a1 = 5 then (M.2.2.1 a0 2).bind fun r22 => (M.2.2.1 r22 0).bind fun r25 => some (M.1 r25 4, M) else if a1 = 6 then (M.2.2.1 a0 1).bind fun r29 => (M.2.2.1 a0 2).bind fun r32 => (fX0_refresh r29 r32 M).bind fun M36 => (M36.2.2.1 a0 1).bind fun r40 => (M36.2.2.1 r40 0).bind fun r43 => (M36.2.2.1 a0 2).bind fun r46 => (fX5_tileSize r46 0 M36).bind fun p54 => (fX3_countIn r43 0 p54.1 p54.2).bind fun p60 => some (p60.1, p60.2) else if a1 = 7 then (M.2.2.1 a0 0).bind fun r62 => some (M.1 r62 3, M) else if a1 = 8 then (M.2.2.1 a0 0).bind fun r66 => some (M.1 r66 4, M) else some ((-1), M)
set_option maxRecDepth 100000 in
set_option maxHeartbeats 4000000 in
theorem sX9_count_0 (G : am_G) (a0 : Nat) (a1 : Int32) (M : am_M) (h_a0 : am_sh M a0 13) : am_S am_ei G 4 yX9_count.cls yX9_count.name cX9_count 2 (some FieldType.int) 0 [(0, .ref a0), (1, .int a1)] [] M (fX9_count a0 a1 M) := by
  show am_S am_ei G 4 yX9_count.cls yX9_count.name cX9_count 2 (some FieldType.int) 0 [(0, .ref a0), (1, .int a1)] [] M (if a1 = 0 then (M.2.2.1 a0 2).bind fun r2 => some (M.1 r2 3, M) else if a1 = 1 then (M.2.2.1 a0 2).bind fun r6 => some (M.1 r6 4, M) else if a1 = 2 then (M.2.2.1 a0 2).bind fun r10 => some (M.1 r10 5, M) else if a1 = 3 then (M.2.2.1 a0 2).bind fun r14 => some (M.1 r14 6, M) else if a1 = 4 then (M.2.2.1 a0 2).bind fun r18 => some (M.1 r18 2, M) else if a1 = 5 then (M.2.2.1 a0 2).bind fun r22 => (M.2.2.1 r22 0).bind fun r25 => some (M.1 r25 4, M) else if a1 = 6 then (M.2.2.1 a0 1).bind fun r29 => (M.2.2.1 a0 2).bind fun r32 => (fX0_refresh r29 r32 M).bind fun M36 => (M36.2.2.1 a0 1).bind fun r40 => (M36.2.2.1 r40 0).bind fun r43 => (M36.2.2.1 a0 2).bind fun r46 => (fX5_tileSize r46 0 M36).bind fun p54 => (fX3_countIn r43 0 p54.1 p54.2).bind fun p60 => some (p60.1, p60.2) else if a1 = 7 then (M.2.2.1 a0 0).bind fun r62 => some (M.1 r62 3, M) else if a1 = 8 then (M.2.2.1 a0 0).bind fun r66 => some (M.1 r66 4, M) else some ((-1), M))
  refine am_iload_n 1 dX9_count_0 rfl rfl ?_
  refine am_case (fun c1 => ?_) (fun c1 => ?_)
  · have e_c1 : a1.toInt = 0 := by rw [c1]; decide
    refine am_swIn (off := 51) (tgt := 52) dX9_count_1 (by omega) (by omega) (by rw [e_c1]; rfl) (by decide) ?_
    refine am_aload_n 0 dX9_count_52 rfl rfl ?_
    refine am_getR 8 dX9_count_53 fl_RX9_26 h_a0 rfl (fun r2 e3 h4 => ?_)
    refine am_getI 4 dX9_count_56 fl_RX9_82 h4 rfl ?_
    exact am_iret dX9_count_59
  refine am_case (fun c5 => ?_) (fun c5 => ?_)
  · have e_c5 : a1.toInt = 1 := by rw [c5]; decide
    refine am_swIn (off := 59) (tgt := 60) dX9_count_1 (by omega) (by omega) (by rw [e_c5]; rfl) (by decide) ?_
    refine am_aload_n 0 dX9_count_60 rfl rfl ?_
    refine am_getR 8 dX9_count_61 fl_RX9_26 h_a0 rfl (fun r6 e7 h8 => ?_)
    refine am_getI 4 dX9_count_64 fl_RX9_79 h8 rfl ?_
    exact am_iret dX9_count_67
  refine am_case (fun c9 => ?_) (fun c9 => ?_)
  · have e_c9 : a1.toInt = 2 := by rw [c9]; decide
    refine am_swIn (off := 67) (tgt := 68) dX9_count_1 (by omega) (by omega) (by rw [e_c9]; rfl) (by decide) ?_
    refine am_aload_n 0 dX9_count_68 rfl rfl ?_
    refine am_getR 8 dX9_count_69 fl_RX9_26 h_a0 rfl (fun r10 e11 h12 => ?_)
    refine am_getI 4 dX9_count_72 fl_RX9_85 h12 rfl ?_
    exact am_iret dX9_count_75
  refine am_case (fun c13 => ?_) (fun c13 => ?_)
  · have e_c13 : a1.toInt = 3 := by rw [c13]; decide
    refine am_swIn (off := 75) (tgt := 76) dX9_count_1 (by omega) (by omega) (by rw [e_c13]; rfl) (by decide) ?_
    refine am_aload_n 0 dX9_count_76 rfl rfl ?_
    refine am_getR 8 dX9_count_77 fl_RX9_26 h_a0 rfl (fun r14 e15 h16 => ?_)
    refine am_getI 4 dX9_count_80 fl_RX9_88 h16 rfl ?_
    exact am_iret dX9_count_83
  refine am_case (fun c17 => ?_) (fun c17 => ?_)
  · have e_c17 : a1.toInt = 4 := by rw [c17]; decide
    refine am_swIn (off := 83) (tgt := 84) dX9_count_1 (by omega) (by omega) (by rw [e_c17]; rfl) (by decide) ?_
    refine am_aload_n 0 dX9_count_84 rfl rfl ?_
    refine am_getR 8 dX9_count_85 fl_RX9_26 h_a0 rfl (fun r18 e19 h20 => ?_)
    refine am_getI 4 dX9_count_88 fl_RX9_99 h20 rfl ?_
    exact am_iret dX9_count_91
  refine am_case (fun c21 => ?_) (fun c21 => ?_)
  · have e_c21 : a1.toInt = 5 := by rw [c21]; decide
    refine am_swIn (off := 91) (tgt := 92) dX9_count_1 (by omega) (by omega) (by rw [e_c21]; rfl) (by decide) ?_
    refine am_aload_n 0 dX9_count_92 rfl rfl ?_
    refine am_getR 8 dX9_count_93 fl_RX9_26 h_a0 rfl (fun r22 e23 h24 => ?_)
    refine am_getR 4 dX9_count_96 fl_RX9_109 h24 rfl (fun r25 e26 h27 => ?_)
    refine am_getI 5 dX9_count_99 fl_RX9_118 h27 rfl ?_
    exact am_iret dX9_count_102
  refine am_case (fun c28 => ?_) (fun c28 => ?_)
  · have e_c28 : a1.toInt = 6 := by rw [c28]; decide
    refine am_swIn (off := 102) (tgt := 103) dX9_count_1 (by omega) (by omega) (by rw [e_c28]; rfl) (by decide) ?_
    refine am_aload_n 0 dX9_count_103 rfl rfl ?_
    refine am_getR 8 dX9_count_104 fl_RX9_19 h_a0 rfl (fun r29 e30 h31 => ?_)
    refine am_aload_n 0 dX9_count_107 rfl rfl ?_
    refine am_getR 8 dX9_count_108 fl_RX9_26 h_a0 rfl (fun r32 e33 h34 => ?_)
    refine am_callVv 0 [.ref r32] (CX0_refresh G r29 r32 M h31 h34) dX9_count_111 mb_yX0_refresh ⟨ml_RX9_145, im_yX0_refresh, se_yX0_refresh⟩ rfl h31 (by decide) rfl rfl (Nat.le_of_ble_eq_true rfl) (fun M36 q35 w38 l37 => ?_)
    refine am_aload_n 0 dX9_count_114 rfl rfl ?_
    refine am_getR 8 dX9_count_115 fl_RX9_19 (am_sh.mono l37 h_a0) rfl (fun r40 e41 h42 => ?_)
    refine am_getR 0 dX9_count_118 fl_RX9_149 h42 rfl (fun r43 e44 h45 => ?_)
    refine am_iconst dX9_count_121 am_kc_0 ?_
    refine am_aload_n 0 dX9_count_122 rfl rfl ?_
    refine am_getR 8 dX9_count_123 fl_RX9_26 (am_sh.mono l37 h_a0) rfl (fun r46 e47 h48 => ?_)
    refine am_iconst dX9_count_126 am_kc_0 ?_
    refine am_callVi 4 [.int 0] (CX5_tileSize G r46 0 M36 h48) dX9_count_127 mb_yX5_tileSize ⟨ml_RX9_141, im_yX5_tileSize, se_yX5_tileSize⟩ rfl h48 (by decide) rfl rfl (Nat.le_of_ble_eq_true rfl) (fun v53 M50 q49 w52 l51 => ?_)
    refine am_callVi 2 [.int 0, .int v53] (CX3_countIn G r43 0 v53 M50 (am_sh.mono l51 h45)) dX9_count_130 mb_yX3_countIn ⟨ml_RX9_153, im_yX3_countIn, se_yX3_countIn⟩ rfl (am_sh.mono l51 h45) (by decide) rfl rfl (Nat.le_of_ble_eq_true rfl) (fun v59 M56 q55 w58 l57 => ?_)
    exact am_iret dX9_count_133
  refine am_case (fun c61 => ?_) (fun c61 => ?_)
  · have e_c61 : a1.toInt = 7 := by rw [c61]; decide
    refine am_swIn (off := 133) (tgt := 134) dX9_count_1 (by omega) (by omega) (by rw [e_c61]; rfl) (by decide) ?_
    refine am_aload_n 0 dX9_count_134 rfl rfl ?_
    refine am_getR 8 dX9_count_135 fl_RX9_10 h_a0 rfl (fun r62 e63 h64 => ?_)
    refine am_getI 6 dX9_count_138 fl_RX9_56 h64 rfl ?_
    exact am_iret dX9_count_141
  refine am_case (fun c65 => ?_) (fun c65 => ?_)
  · have e_c65 : a1.toInt = 8 := by rw [c65]; decide
    refine am_swIn (off := 141) (tgt := 142) dX9_count_1 (by omega) (by omega) (by rw [e_c65]; rfl) (by decide) ?_
    refine am_aload_n 0 dX9_count_142 rfl rfl ?_
    refine am_getR 8 dX9_count_143 fl_RX9_10 h_a0 rfl (fun r66 e67 h68 => ?_)
    refine am_getI 6 dX9_count_146 fl_RX9_68 h68 rfl ?_
    exact am_iret dX9_count_149
  have e_c1 : a1.toInt ≠ 0 := am_ine c1
  have e_c5 : a1.toInt ≠ 1 := am_ine c5
  have e_c9 : a1.toInt ≠ 2 := am_ine c9
  have e_c13 : a1.toInt ≠ 3 := am_ine c13
  have e_c17 : a1.toInt ≠ 4 := am_ine c17
  have e_c21 : a1.toInt ≠ 5 := am_ine c21
  have e_c28 : a1.toInt ≠ 6 := am_ine c28
  have e_c61 : a1.toInt ≠ 7 := am_ine c61
  have e_c65 : a1.toInt ≠ 8 := am_ine c65
  refine am_swOut (tgt := 150) dX9_count_1 (by omega) (by decide) ?_
  refine am_iconst dX9_count_150 am_kc_m1 ?_
  exact am_iret dX9_count_151
theorem CX9_count (G : am_G) (a0 : Nat) (a1 : Int32) (M : am_M) (h_a0 : am_sh M a0 13) : am_C am_ei G 4 yX9_count cX9_count 2 (some FieldType.int) [.ref a0, .int a1] M (fX9_count a0 a1 M) :=
  am_meth (by decide) rfl (Nat.le_of_ble_eq_true rfl) (sX9_count_0 G a0 a1 M h_a0)
def fX10_init_758 (s0 : Nat) (s1 : Nat) (M : am_M) : Option am_M := some (am_pR M s1 28 (some s0))
def fX10_init_749 (x0 : Nat) (s0 : Nat) (s1 : Nat) (M : am_M) : Option am_M := fX10_init_758 (am_n (am_pR M s1 27 (some s0))) x0 (am_new (am_pR M s1 27 (some s0)) 0 4096)
def fX10_init_741 (x0 : Nat) (s0 : Nat) (s1 : Nat) (M : am_M) : Option am_M := fX10_init_749 x0 (am_n (am_pR M s1 26 (some s0))) x0 (am_new (am_pR M s1 26 (some s0)) 0 13)
def fX10_init_733 (x0 : Nat) (s0 : Nat) (s1 : Nat) (M : am_M) : Option am_M := fX10_init_741 x0 (am_n (am_pR M s1 25 (some s0))) x0 (am_new (am_pR M s1 25 (some s0)) 0 13)
def fX10_init_725 (x0 : Nat) (s0 : Nat) (s1 : Nat) (M : am_M) : Option am_M := fX10_init_733 x0 (am_n (am_pR M s1 22 (some s0))) x0 (am_new (am_pR M s1 22 (some s0)) 0 91)
def fX10_init_716 (x0 : Nat) (s0 : Nat) (s1 : Nat) (M : am_M) : Option am_M := fX10_init_725 x0 (am_n (am_pR M s1 21 (some s0))) x0 (am_new (am_pR M s1 21 (some s0)) 0 4096)
def fX10_init_707 (x0 : Nat) (s0 : Nat) (s1 : Nat) (M : am_M) : Option am_M := fX10_init_716 x0 (am_n (am_pR M s1 18 (some s0))) x0 (am_new (am_pR M s1 18 (some s0)) 0 4096)
def fX10_init_700 (x0 : Nat) (s0 : Nat) (s1 : Nat) (M : am_M) : Option am_M := fX10_init_707 x0 (am_n (am_pR M s1 12 (some s0))) x0 (am_new (am_pR M s1 12 (some s0)) 0 4)
def fX10_init_693 (x0 : Nat) (s0 : Nat) (s1 : Nat) (M : am_M) : Option am_M := fX10_init_700 x0 (am_n (am_pR M s1 9 (some s0))) x0 (am_new (am_pR M s1 9 (some s0)) 0 3)
def fX10_init_684 (x0 : Nat) (s0 : Nat) (s1 : Nat) (M : am_M) : Option am_M := fX10_init_693 x0 (am_n (am_pR M s1 8 (some s0))) x0 (am_new (am_pR M s1 8 (some s0)) 0 200)
def fX10_init_644 (x0 : Nat) (s0 : Nat) (s1 : Nat) (M : am_M) : Option am_M := if (32 : Int32) < 0 ∨ am_len M s0 ≤ (32 : Int32).toNatClampNeg then none else if (33 : Int32) < 0 ∨ am_len (am_pI M s0 ((32 : Int32).toNatClampNeg) 0) s0 ≤ (33 : Int32).toNatClampNeg then none else if (34 : Int32) < 0 ∨ am_len (am_pI (am_pI M s0 ((32 : Int32).toNatClampNeg) 0) s0 ((33 : Int32).toNatClampNeg) 0) s0 ≤ (34 : Int32).toNatClampNeg then none else if (35 : Int32) < 0 ∨ am_len (am_pI (am_pI (am_pI M s0 ((32 : Int32).toNatClampNeg) 0) s0 ((33 : Int32).toNatClampNeg) 0) s0 ((34 : Int32).toNatClampNeg) 0) s0 ≤ (35 : Int32).toNatClampNeg then none else if (36 : Int32) < 0 ∨ am_len (am_pI (am_pI (am_pI (am_pI M s0 ((32 : Int32).toNatClampNeg) 0) s0 ((33 : Int32).toNatClampNeg) 0) s0 ((34 : Int32).toNatClampNeg) 0) s0 ((35 : Int32).toNatClampNeg) 0) s0 ≤ (36 : Int32).toNatClampNeg then none else if (37 : Int32) < 0 ∨ am_len (am_pI (am_pI (am_pI (am_pI (am_pI M s0 ((32 : Int32).toNatClampNeg) 0) s0 ((33 : Int32).toNatClampNeg) 0) s0 ((34 : Int32).toNatClampNeg) 0) s0 ((35 : Int32).toNatClampNeg) 0) s0 ((36 : Int32).toNatClampNeg) 0) s0 ≤ (37 : Int32).toNatClampNeg then none else if (38 : Int32) < 0 ∨ am_len (am_pI (am_pI (am_pI (am_pI (am_pI (am_pI M s0 ((32 : Int32).toNatClampNeg) 0) s0 ((33 : Int32).toNatClampNeg) 0) s0 ((34 : Int32).toNatClampNeg) 0) s0 ((35 : Int32).toNatClampNeg) 0) s0 ((36 : Int32).toNatClampNeg) 0) s0 ((37 : Int32).toNatClampNeg) 0) s0 ≤ (38 : Int32).toNatClampNeg then none else if (39 : Int32) < 0 ∨ am_len (am_pI (am_pI (am_pI (am_pI (am_pI (am_pI (am_pI M s0 ((32 : Int32).toNatClampNeg) 0) s0 ((33 : Int32).toNatClampNeg) 0) s0 ((34 : Int32).toNatClampNeg) 0) s0 ((35 : Int32).toNatClampNeg) 0) s0 ((36 : Int32).toNatClampNeg) 0) s0 ((37 : Int32).toNatClampNeg) 0) s0 ((38 : Int32).toNatClampNeg) 0) s0 ≤ (39 : Int32).toNatClampNeg then none else fX10_init_684 x0 s0 s1 (am_pI (am_pI (am_pI (am_pI (am_pI (am_pI (am_pI (am_pI M s0 ((32 : Int32).toNatClampNeg) 0) s0 ((33 : Int32).toNatClampNeg) 0) s0 ((34 : Int32).toNatClampNeg) 0) s0 ((35 : Int32).toNatClampNeg) 0) s0 ((36 : Int32).toNatClampNeg) 0) s0 ((37 : Int32).toNatClampNeg) 0) s0 ((38 : Int32).toNatClampNeg) 0) s0 ((39 : Int32).toNatClampNeg) 0)
def fX10_init_604 (x0 : Nat) (s0 : Nat) (s1 : Nat) (M : am_M) : Option am_M := if (24 : Int32) < 0 ∨ am_len M s0 ≤ (24 : Int32).toNatClampNeg then none else if (25 : Int32) < 0 ∨ am_len (am_pI M s0 ((24 : Int32).toNatClampNeg) 0) s0 ≤ (25 : Int32).toNatClampNeg then none else if (26 : Int32) < 0 ∨ am_len (am_pI (am_pI M s0 ((24 : Int32).toNatClampNeg) 0) s0 ((25 : Int32).toNatClampNeg) 0) s0 ≤ (26 : Int32).toNatClampNeg then none else if (27 : Int32) < 0 ∨ am_len (am_pI (am_pI (am_pI M s0 ((24 : Int32).toNatClampNeg) 0) s0 ((25 : Int32).toNatClampNeg) 0) s0 ((26 : Int32).toNatClampNeg) 0) s0 ≤ (27 : Int32).toNatClampNeg then none else if (28 : Int32) < 0 ∨ am_len (am_pI (am_pI (am_pI (am_pI M s0 ((24 : Int32).toNatClampNeg) 0) s0 ((25 : Int32).toNatClampNeg) 0) s0 ((26 : Int32).toNatClampNeg) 0) s0 ((27 : Int32).toNatClampNeg) 0) s0 ≤ (28 : Int32).toNatClampNeg then none else if (29 : Int32) < 0 ∨ am_len (am_pI (am_pI (am_pI (am_pI (am_pI M s0 ((24 : Int32).toNatClampNeg) 0) s0 ((25 : Int32).toNatClampNeg) 0) s0 ((26 : Int32).toNatClampNeg) 0) s0 ((27 : Int32).toNatClampNeg) 0) s0 ((28 : Int32).toNatClampNeg) 0) s0 ≤ (29 : Int32).toNatClampNeg then none else if (30 : Int32) < 0 ∨ am_len (am_pI (am_pI (am_pI (am_pI (am_pI (am_pI M s0 ((24 : Int32).toNatClampNeg) 0) s0 ((25 : Int32).toNatClampNeg) 0) s0 ((26 : Int32).toNatClampNeg) 0) s0 ((27 : Int32).toNatClampNeg) 0) s0 ((28 : Int32).toNatClampNeg) 0) s0 ((29 : Int32).toNatClampNeg) 0) s0 ≤ (30 : Int32).toNatClampNeg then none else if (31 : Int32) < 0 ∨ am_len (am_pI (am_pI (am_pI (am_pI (am_pI (am_pI (am_pI M s0 ((24 : Int32).toNatClampNeg) 0) s0 ((25 : Int32).toNatClampNeg) 0) s0 ((26 : Int32).toNatClampNeg) 0) s0 ((27 : Int32).toNatClampNeg) 0) s0 ((28 : Int32).toNatClampNeg) 0) s0 ((29 : Int32).toNatClampNeg) 0) s0 ((30 : Int32).toNatClampNeg) 0) s0 ≤ (31 : Int32).toNatClampNeg then none else fX10_init_644 x0 s0 s1 (am_pI (am_pI (am_pI (am_pI (am_pI (am_pI (am_pI (am_pI M s0 ((24 : Int32).toNatClampNeg) 0) s0 ((25 : Int32).toNatClampNeg) 0) s0 ((26 : Int32).toNatClampNeg) 0) s0 ((27 : Int32).toNatClampNeg) 0) s0 ((28 : Int32).toNatClampNeg) 0) s0 ((29 : Int32).toNatClampNeg) 0) s0 ((30 : Int32).toNatClampNeg) 0) s0 ((31 : Int32).toNatClampNeg) 0)
def fX10_init_564 (x0 : Nat) (s0 : Nat) (s1 : Nat) (M : am_M) : Option am_M := if (16 : Int32) < 0 ∨ am_len M s0 ≤ (16 : Int32).toNatClampNeg then none else if (17 : Int32) < 0 ∨ am_len (am_pI M s0 ((16 : Int32).toNatClampNeg) 0) s0 ≤ (17 : Int32).toNatClampNeg then none else if (18 : Int32) < 0 ∨ am_len (am_pI (am_pI M s0 ((16 : Int32).toNatClampNeg) 0) s0 ((17 : Int32).toNatClampNeg) 0) s0 ≤ (18 : Int32).toNatClampNeg then none else if (19 : Int32) < 0 ∨ am_len (am_pI (am_pI (am_pI M s0 ((16 : Int32).toNatClampNeg) 0) s0 ((17 : Int32).toNatClampNeg) 0) s0 ((18 : Int32).toNatClampNeg) 0) s0 ≤ (19 : Int32).toNatClampNeg then none else if (20 : Int32) < 0 ∨ am_len (am_pI (am_pI (am_pI (am_pI M s0 ((16 : Int32).toNatClampNeg) 0) s0 ((17 : Int32).toNatClampNeg) 0) s0 ((18 : Int32).toNatClampNeg) 0) s0 ((19 : Int32).toNatClampNeg) 0) s0 ≤ (20 : Int32).toNatClampNeg then none else if (21 : Int32) < 0 ∨ am_len (am_pI (am_pI (am_pI (am_pI (am_pI M s0 ((16 : Int32).toNatClampNeg) 0) s0 ((17 : Int32).toNatClampNeg) 0) s0 ((18 : Int32).toNatClampNeg) 0) s0 ((19 : Int32).toNatClampNeg) 0) s0 ((20 : Int32).toNatClampNeg) 0) s0 ≤ (21 : Int32).toNatClampNeg then none else if (22 : Int32) < 0 ∨ am_len (am_pI (am_pI (am_pI (am_pI (am_pI (am_pI M s0 ((16 : Int32).toNatClampNeg) 0) s0 ((17 : Int32).toNatClampNeg) 0) s0 ((18 : Int32).toNatClampNeg) 0) s0 ((19 : Int32).toNatClampNeg) 0) s0 ((20 : Int32).toNatClampNeg) 0) s0 ((21 : Int32).toNatClampNeg) 0) s0 ≤ (22 : Int32).toNatClampNeg then none else if (23 : Int32) < 0 ∨ am_len (am_pI (am_pI (am_pI (am_pI (am_pI (am_pI (am_pI M s0 ((16 : Int32).toNatClampNeg) 0) s0 ((17 : Int32).toNatClampNeg) 0) s0 ((18 : Int32).toNatClampNeg) 0) s0 ((19 : Int32).toNatClampNeg) 0) s0 ((20 : Int32).toNatClampNeg) 0) s0 ((21 : Int32).toNatClampNeg) 0) s0 ((22 : Int32).toNatClampNeg) 0) s0 ≤ (23 : Int32).toNatClampNeg then none else fX10_init_604 x0 s0 s1 (am_pI (am_pI (am_pI (am_pI (am_pI (am_pI (am_pI (am_pI M s0 ((16 : Int32).toNatClampNeg) 0) s0 ((17 : Int32).toNatClampNeg) 0) s0 ((18 : Int32).toNatClampNeg) 0) s0 ((19 : Int32).toNatClampNeg) 0) s0 ((20 : Int32).toNatClampNeg) 0) s0 ((21 : Int32).toNatClampNeg) 0) s0 ((22 : Int32).toNatClampNeg) 0) s0 ((23 : Int32).toNatClampNeg) 0)
def fX10_init_524 (x0 : Nat) (s0 : Nat) (s1 : Nat) (M : am_M) : Option am_M := if (8 : Int32) < 0 ∨ am_len M s0 ≤ (8 : Int32).toNatClampNeg then none else if (9 : Int32) < 0 ∨ am_len (am_pI M s0 ((8 : Int32).toNatClampNeg) 0) s0 ≤ (9 : Int32).toNatClampNeg then none else if (10 : Int32) < 0 ∨ am_len (am_pI (am_pI M s0 ((8 : Int32).toNatClampNeg) 0) s0 ((9 : Int32).toNatClampNeg) 0) s0 ≤ (10 : Int32).toNatClampNeg then none else if (11 : Int32) < 0 ∨ am_len (am_pI (am_pI (am_pI M s0 ((8 : Int32).toNatClampNeg) 0) s0 ((9 : Int32).toNatClampNeg) 0) s0 ((10 : Int32).toNatClampNeg) 0) s0 ≤ (11 : Int32).toNatClampNeg then none else if (12 : Int32) < 0 ∨ am_len (am_pI (am_pI (am_pI (am_pI M s0 ((8 : Int32).toNatClampNeg) 0) s0 ((9 : Int32).toNatClampNeg) 0) s0 ((10 : Int32).toNatClampNeg) 0) s0 ((11 : Int32).toNatClampNeg) 0) s0 ≤ (12 : Int32).toNatClampNeg then none else if (13 : Int32) < 0 ∨ am_len (am_pI (am_pI (am_pI (am_pI (am_pI M s0 ((8 : Int32).toNatClampNeg) 0) s0 ((9 : Int32).toNatClampNeg) 0) s0 ((10 : Int32).toNatClampNeg) 0) s0 ((11 : Int32).toNatClampNeg) 0) s0 ((12 : Int32).toNatClampNeg) 0) s0 ≤ (13 : Int32).toNatClampNeg then none else if (14 : Int32) < 0 ∨ am_len (am_pI (am_pI (am_pI (am_pI (am_pI (am_pI M s0 ((8 : Int32).toNatClampNeg) 0) s0 ((9 : Int32).toNatClampNeg) 0) s0 ((10 : Int32).toNatClampNeg) 0) s0 ((11 : Int32).toNatClampNeg) 0) s0 ((12 : Int32).toNatClampNeg) 0) s0 ((13 : Int32).toNatClampNeg) 0) s0 ≤ (14 : Int32).toNatClampNeg then none else if (15 : Int32) < 0 ∨ am_len (am_pI (am_pI (am_pI (am_pI (am_pI (am_pI (am_pI M s0 ((8 : Int32).toNatClampNeg) 0) s0 ((9 : Int32).toNatClampNeg) 0) s0 ((10 : Int32).toNatClampNeg) 0) s0 ((11 : Int32).toNatClampNeg) 0) s0 ((12 : Int32).toNatClampNeg) 0) s0 ((13 : Int32).toNatClampNeg) 0) s0 ((14 : Int32).toNatClampNeg) 0) s0 ≤ (15 : Int32).toNatClampNeg then none else fX10_init_564 x0 s0 s1 (am_pI (am_pI (am_pI (am_pI (am_pI (am_pI (am_pI (am_pI M s0 ((8 : Int32).toNatClampNeg) 0) s0 ((9 : Int32).toNatClampNeg) 0) s0 ((10 : Int32).toNatClampNeg) 0) s0 ((11 : Int32).toNatClampNeg) 0) s0 ((12 : Int32).toNatClampNeg) 0) s0 ((13 : Int32).toNatClampNeg) 0) s0 ((14 : Int32).toNatClampNeg) 0) s0 ((15 : Int32).toNatClampNeg) 0)
def fX10_init_487 (x0 : Nat) (s0 : Nat) (s1 : Nat) (M : am_M) : Option am_M := if (0 : Int32) < 0 ∨ am_len M s0 ≤ (0 : Int32).toNatClampNeg then none else if (1 : Int32) < 0 ∨ am_len (am_pI M s0 ((0 : Int32).toNatClampNeg) 3) s0 ≤ (1 : Int32).toNatClampNeg then none else if (2 : Int32) < 0 ∨ am_len (am_pI (am_pI M s0 ((0 : Int32).toNatClampNeg) 3) s0 ((1 : Int32).toNatClampNeg) 10) s0 ≤ (2 : Int32).toNatClampNeg then none else if (3 : Int32) < 0 ∨ am_len (am_pI (am_pI (am_pI M s0 ((0 : Int32).toNatClampNeg) 3) s0 ((1 : Int32).toNatClampNeg) 10) s0 ((2 : Int32).toNatClampNeg) 6) s0 ≤ (3 : Int32).toNatClampNeg then none else if (4 : Int32) < 0 ∨ am_len (am_pI (am_pI (am_pI (am_pI M s0 ((0 : Int32).toNatClampNeg) 3) s0 ((1 : Int32).toNatClampNeg) 10) s0 ((2 : Int32).toNatClampNeg) 6) s0 ((3 : Int32).toNatClampNeg) 15) s0 ≤ (4 : Int32).toNatClampNeg then none else if (5 : Int32) < 0 ∨ am_len (am_pI (am_pI (am_pI (am_pI (am_pI M s0 ((0 : Int32).toNatClampNeg) 3) s0 ((1 : Int32).toNatClampNeg) 10) s0 ((2 : Int32).toNatClampNeg) 6) s0 ((3 : Int32).toNatClampNeg) 15) s0 ((4 : Int32).toNatClampNeg) 4) s0 ≤ (5 : Int32).toNatClampNeg then none else if (6 : Int32) < 0 ∨ am_len (am_pI (am_pI (am_pI (am_pI (am_pI (am_pI M s0 ((0 : Int32).toNatClampNeg) 3) s0 ((1 : Int32).toNatClampNeg) 10) s0 ((2 : Int32).toNatClampNeg) 6) s0 ((3 : Int32).toNatClampNeg) 15) s0 ((4 : Int32).toNatClampNeg) 4) s0 ((5 : Int32).toNatClampNeg) 3) s0 ≤ (6 : Int32).toNatClampNeg then none else if (7 : Int32) < 0 ∨ am_len (am_pI (am_pI (am_pI (am_pI (am_pI (am_pI (am_pI M s0 ((0 : Int32).toNatClampNeg) 3) s0 ((1 : Int32).toNatClampNeg) 10) s0 ((2 : Int32).toNatClampNeg) 6) s0 ((3 : Int32).toNatClampNeg) 15) s0 ((4 : Int32).toNatClampNeg) 4) s0 ((5 : Int32).toNatClampNeg) 3) s0 ((6 : Int32).toNatClampNeg) 0) s0 ≤ (7 : Int32).toNatClampNeg then none else fX10_init_524 x0 s0 s1 (am_pI (am_pI (am_pI (am_pI (am_pI (am_pI (am_pI (am_pI M s0 ((0 : Int32).toNatClampNeg) 3) s0 ((1 : Int32).toNatClampNeg) 10) s0 ((2 : Int32).toNatClampNeg) 6) s0 ((3 : Int32).toNatClampNeg) 15) s0 ((4 : Int32).toNatClampNeg) 4) s0 ((5 : Int32).toNatClampNeg) 3) s0 ((6 : Int32).toNatClampNeg) 0) s0 ((7 : Int32).toNatClampNeg) 0)
def fX10_init_479 (x0 : Nat) (s0 : Nat) (s1 : Nat) (M : am_M) : Option am_M := fX10_init_487 x0 (am_n (am_pR M s1 7 (some s0))) x0 (am_new (am_pR M s1 7 (some s0)) 0 40)
def fX10_init_439 (x0 : Nat) (s0 : Nat) (s1 : Nat) (M : am_M) : Option am_M := if (32 : Int32) < 0 ∨ am_len M s0 ≤ (32 : Int32).toNatClampNeg then none else if (33 : Int32) < 0 ∨ am_len (am_pI M s0 ((32 : Int32).toNatClampNeg) 0) s0 ≤ (33 : Int32).toNatClampNeg then none else if (34 : Int32) < 0 ∨ am_len (am_pI (am_pI M s0 ((32 : Int32).toNatClampNeg) 0) s0 ((33 : Int32).toNatClampNeg) 0) s0 ≤ (34 : Int32).toNatClampNeg then none else if (35 : Int32) < 0 ∨ am_len (am_pI (am_pI (am_pI M s0 ((32 : Int32).toNatClampNeg) 0) s0 ((33 : Int32).toNatClampNeg) 0) s0 ((34 : Int32).toNatClampNeg) 0) s0 ≤ (35 : Int32).toNatClampNeg then none else if (36 : Int32) < 0 ∨ am_len (am_pI (am_pI (am_pI (am_pI M s0 ((32 : Int32).toNatClampNeg) 0) s0 ((33 : Int32).toNatClampNeg) 0) s0 ((34 : Int32).toNatClampNeg) 0) s0 ((35 : Int32).toNatClampNeg) 0) s0 ≤ (36 : Int32).toNatClampNeg then none else if (37 : Int32) < 0 ∨ am_len (am_pI (am_pI (am_pI (am_pI (am_pI M s0 ((32 : Int32).toNatClampNeg) 0) s0 ((33 : Int32).toNatClampNeg) 0) s0 ((34 : Int32).toNatClampNeg) 0) s0 ((35 : Int32).toNatClampNeg) 0) s0 ((36 : Int32).toNatClampNeg) 0) s0 ≤ (37 : Int32).toNatClampNeg then none else if (38 : Int32) < 0 ∨ am_len (am_pI (am_pI (am_pI (am_pI (am_pI (am_pI M s0 ((32 : Int32).toNatClampNeg) 0) s0 ((33 : Int32).toNatClampNeg) 0) s0 ((34 : Int32).toNatClampNeg) 0) s0 ((35 : Int32).toNatClampNeg) 0) s0 ((36 : Int32).toNatClampNeg) 0) s0 ((37 : Int32).toNatClampNeg) 0) s0 ≤ (38 : Int32).toNatClampNeg then none else if (39 : Int32) < 0 ∨ am_len (am_pI (am_pI (am_pI (am_pI (am_pI (am_pI (am_pI M s0 ((32 : Int32).toNatClampNeg) 0) s0 ((33 : Int32).toNatClampNeg) 0) s0 ((34 : Int32).toNatClampNeg) 0) s0 ((35 : Int32).toNatClampNeg) 0) s0 ((36 : Int32).toNatClampNeg) 0) s0 ((37 : Int32).toNatClampNeg) 0) s0 ((38 : Int32).toNatClampNeg) 0) s0 ≤ (39 : Int32).toNatClampNeg then none else fX10_init_479 x0 s0 s1 (am_pI (am_pI (am_pI (am_pI (am_pI (am_pI (am_pI (am_pI M s0 ((32 : Int32).toNatClampNeg) 0) s0 ((33 : Int32).toNatClampNeg) 0) s0 ((34 : Int32).toNatClampNeg) 0) s0 ((35 : Int32).toNatClampNeg) 0) s0 ((36 : Int32).toNatClampNeg) 0) s0 ((37 : Int32).toNatClampNeg) 0) s0 ((38 : Int32).toNatClampNeg) 0) s0 ((39 : Int32).toNatClampNeg) 0)
def fX10_init_399 (x0 : Nat) (s0 : Nat) (s1 : Nat) (M : am_M) : Option am_M := if (24 : Int32) < 0 ∨ am_len M s0 ≤ (24 : Int32).toNatClampNeg then none else if (25 : Int32) < 0 ∨ am_len (am_pI M s0 ((24 : Int32).toNatClampNeg) 0) s0 ≤ (25 : Int32).toNatClampNeg then none else if (26 : Int32) < 0 ∨ am_len (am_pI (am_pI M s0 ((24 : Int32).toNatClampNeg) 0) s0 ((25 : Int32).toNatClampNeg) 0) s0 ≤ (26 : Int32).toNatClampNeg then none else if (27 : Int32) < 0 ∨ am_len (am_pI (am_pI (am_pI M s0 ((24 : Int32).toNatClampNeg) 0) s0 ((25 : Int32).toNatClampNeg) 0) s0 ((26 : Int32).toNatClampNeg) 0) s0 ≤ (27 : Int32).toNatClampNeg then none else if (28 : Int32) < 0 ∨ am_len (am_pI (am_pI (am_pI (am_pI M s0 ((24 : Int32).toNatClampNeg) 0) s0 ((25 : Int32).toNatClampNeg) 0) s0 ((26 : Int32).toNatClampNeg) 0) s0 ((27 : Int32).toNatClampNeg) 0) s0 ≤ (28 : Int32).toNatClampNeg then none else if (29 : Int32) < 0 ∨ am_len (am_pI (am_pI (am_pI (am_pI (am_pI M s0 ((24 : Int32).toNatClampNeg) 0) s0 ((25 : Int32).toNatClampNeg) 0) s0 ((26 : Int32).toNatClampNeg) 0) s0 ((27 : Int32).toNatClampNeg) 0) s0 ((28 : Int32).toNatClampNeg) 0) s0 ≤ (29 : Int32).toNatClampNeg then none else if (30 : Int32) < 0 ∨ am_len (am_pI (am_pI (am_pI (am_pI (am_pI (am_pI M s0 ((24 : Int32).toNatClampNeg) 0) s0 ((25 : Int32).toNatClampNeg) 0) s0 ((26 : Int32).toNatClampNeg) 0) s0 ((27 : Int32).toNatClampNeg) 0) s0 ((28 : Int32).toNatClampNeg) 0) s0 ((29 : Int32).toNatClampNeg) 0) s0 ≤ (30 : Int32).toNatClampNeg then none else if (31 : Int32) < 0 ∨ am_len (am_pI (am_pI (am_pI (am_pI (am_pI (am_pI (am_pI M s0 ((24 : Int32).toNatClampNeg) 0) s0 ((25 : Int32).toNatClampNeg) 0) s0 ((26 : Int32).toNatClampNeg) 0) s0 ((27 : Int32).toNatClampNeg) 0) s0 ((28 : Int32).toNatClampNeg) 0) s0 ((29 : Int32).toNatClampNeg) 0) s0 ((30 : Int32).toNatClampNeg) 0) s0 ≤ (31 : Int32).toNatClampNeg then none else fX10_init_439 x0 s0 s1 (am_pI (am_pI (am_pI (am_pI (am_pI (am_pI (am_pI (am_pI M s0 ((24 : Int32).toNatClampNeg) 0) s0 ((25 : Int32).toNatClampNeg) 0) s0 ((26 : Int32).toNatClampNeg) 0) s0 ((27 : Int32).toNatClampNeg) 0) s0 ((28 : Int32).toNatClampNeg) 0) s0 ((29 : Int32).toNatClampNeg) 0) s0 ((30 : Int32).toNatClampNeg) 0) s0 ((31 : Int32).toNatClampNeg) 0)
def fX10_init_359 (x0 : Nat) (s0 : Nat) (s1 : Nat) (M : am_M) : Option am_M := if (16 : Int32) < 0 ∨ am_len M s0 ≤ (16 : Int32).toNatClampNeg then none else if (17 : Int32) < 0 ∨ am_len (am_pI M s0 ((16 : Int32).toNatClampNeg) 0) s0 ≤ (17 : Int32).toNatClampNeg then none else if (18 : Int32) < 0 ∨ am_len (am_pI (am_pI M s0 ((16 : Int32).toNatClampNeg) 0) s0 ((17 : Int32).toNatClampNeg) 0) s0 ≤ (18 : Int32).toNatClampNeg then none else if (19 : Int32) < 0 ∨ am_len (am_pI (am_pI (am_pI M s0 ((16 : Int32).toNatClampNeg) 0) s0 ((17 : Int32).toNatClampNeg) 0) s0 ((18 : Int32).toNatClampNeg) 0) s0 ≤ (19 : Int32).toNatClampNeg then none else if (20 : Int32) < 0 ∨ am_len (am_pI (am_pI (am_pI (am_pI M s0 ((16 : Int32).toNatClampNeg) 0) s0 ((17 : Int32).toNatClampNeg) 0) s0 ((18 : Int32).toNatClampNeg) 0) s0 ((19 : Int32).toNatClampNeg) 0) s0 ≤ (20 : Int32).toNatClampNeg then none else if (21 : Int32) < 0 ∨ am_len (am_pI (am_pI (am_pI (am_pI (am_pI M s0 ((16 : Int32).toNatClampNeg) 0) s0 ((17 : Int32).toNatClampNeg) 0) s0 ((18 : Int32).toNatClampNeg) 0) s0 ((19 : Int32).toNatClampNeg) 0) s0 ((20 : Int32).toNatClampNeg) 0) s0 ≤ (21 : Int32).toNatClampNeg then none else if (22 : Int32) < 0 ∨ am_len (am_pI (am_pI (am_pI (am_pI (am_pI (am_pI M s0 ((16 : Int32).toNatClampNeg) 0) s0 ((17 : Int32).toNatClampNeg) 0) s0 ((18 : Int32).toNatClampNeg) 0) s0 ((19 : Int32).toNatClampNeg) 0) s0 ((20 : Int32).toNatClampNeg) 0) s0 ((21 : Int32).toNatClampNeg) 0) s0 ≤ (22 : Int32).toNatClampNeg then none else if (23 : Int32) < 0 ∨ am_len (am_pI (am_pI (am_pI (am_pI (am_pI (am_pI (am_pI M s0 ((16 : Int32).toNatClampNeg) 0) s0 ((17 : Int32).toNatClampNeg) 0) s0 ((18 : Int32).toNatClampNeg) 0) s0 ((19 : Int32).toNatClampNeg) 0) s0 ((20 : Int32).toNatClampNeg) 0) s0 ((21 : Int32).toNatClampNeg) 0) s0 ((22 : Int32).toNatClampNeg) 0) s0 ≤ (23 : Int32).toNatClampNeg then none else fX10_init_399 x0 s0 s1 (am_pI (am_pI (am_pI (am_pI (am_pI (am_pI (am_pI (am_pI M s0 ((16 : Int32).toNatClampNeg) 0) s0 ((17 : Int32).toNatClampNeg) 0) s0 ((18 : Int32).toNatClampNeg) 0) s0 ((19 : Int32).toNatClampNeg) 0) s0 ((20 : Int32).toNatClampNeg) 0) s0 ((21 : Int32).toNatClampNeg) 0) s0 ((22 : Int32).toNatClampNeg) 0) s0 ((23 : Int32).toNatClampNeg) 0)
def fX10_init_319 (x0 : Nat) (s0 : Nat) (s1 : Nat) (M : am_M) : Option am_M := if (8 : Int32) < 0 ∨ am_len M s0 ≤ (8 : Int32).toNatClampNeg then none else if (9 : Int32) < 0 ∨ am_len (am_pI M s0 ((8 : Int32).toNatClampNeg) 0) s0 ≤ (9 : Int32).toNatClampNeg then none else if (10 : Int32) < 0 ∨ am_len (am_pI (am_pI M s0 ((8 : Int32).toNatClampNeg) 0) s0 ((9 : Int32).toNatClampNeg) 0) s0 ≤ (10 : Int32).toNatClampNeg then none else if (11 : Int32) < 0 ∨ am_len (am_pI (am_pI (am_pI M s0 ((8 : Int32).toNatClampNeg) 0) s0 ((9 : Int32).toNatClampNeg) 0) s0 ((10 : Int32).toNatClampNeg) 0) s0 ≤ (11 : Int32).toNatClampNeg then none else if (12 : Int32) < 0 ∨ am_len (am_pI (am_pI (am_pI (am_pI M s0 ((8 : Int32).toNatClampNeg) 0) s0 ((9 : Int32).toNatClampNeg) 0) s0 ((10 : Int32).toNatClampNeg) 0) s0 ((11 : Int32).toNatClampNeg) 0) s0 ≤ (12 : Int32).toNatClampNeg then none else if (13 : Int32) < 0 ∨ am_len (am_pI (am_pI (am_pI (am_pI (am_pI M s0 ((8 : Int32).toNatClampNeg) 0) s0 ((9 : Int32).toNatClampNeg) 0) s0 ((10 : Int32).toNatClampNeg) 0) s0 ((11 : Int32).toNatClampNeg) 0) s0 ((12 : Int32).toNatClampNeg) 0) s0 ≤ (13 : Int32).toNatClampNeg then none else if (14 : Int32) < 0 ∨ am_len (am_pI (am_pI (am_pI (am_pI (am_pI (am_pI M s0 ((8 : Int32).toNatClampNeg) 0) s0 ((9 : Int32).toNatClampNeg) 0) s0 ((10 : Int32).toNatClampNeg) 0) s0 ((11 : Int32).toNatClampNeg) 0) s0 ((12 : Int32).toNatClampNeg) 0) s0 ((13 : Int32).toNatClampNeg) 0) s0 ≤ (14 : Int32).toNatClampNeg then none else if (15 : Int32) < 0 ∨ am_len (am_pI (am_pI (am_pI (am_pI (am_pI (am_pI (am_pI M s0 ((8 : Int32).toNatClampNeg) 0) s0 ((9 : Int32).toNatClampNeg) 0) s0 ((10 : Int32).toNatClampNeg) 0) s0 ((11 : Int32).toNatClampNeg) 0) s0 ((12 : Int32).toNatClampNeg) 0) s0 ((13 : Int32).toNatClampNeg) 0) s0 ((14 : Int32).toNatClampNeg) 0) s0 ≤ (15 : Int32).toNatClampNeg then none else fX10_init_359 x0 s0 s1 (am_pI (am_pI (am_pI (am_pI (am_pI (am_pI (am_pI (am_pI M s0 ((8 : Int32).toNatClampNeg) 0) s0 ((9 : Int32).toNatClampNeg) 0) s0 ((10 : Int32).toNatClampNeg) 0) s0 ((11 : Int32).toNatClampNeg) 0) s0 ((12 : Int32).toNatClampNeg) 0) s0 ((13 : Int32).toNatClampNeg) 0) s0 ((14 : Int32).toNatClampNeg) 0) s0 ((15 : Int32).toNatClampNeg) 0)
def fX10_init_283 (x0 : Nat) (s0 : Nat) (s1 : Nat) (M : am_M) : Option am_M := if (0 : Int32) < 0 ∨ am_len M s0 ≤ (0 : Int32).toNatClampNeg then none else if (1 : Int32) < 0 ∨ am_len (am_pI M s0 ((0 : Int32).toNatClampNeg) 3) s0 ≤ (1 : Int32).toNatClampNeg then none else if (2 : Int32) < 0 ∨ am_len (am_pI (am_pI M s0 ((0 : Int32).toNatClampNeg) 3) s0 ((1 : Int32).toNatClampNeg) 10) s0 ≤ (2 : Int32).toNatClampNeg then none else if (3 : Int32) < 0 ∨ am_len (am_pI (am_pI (am_pI M s0 ((0 : Int32).toNatClampNeg) 3) s0 ((1 : Int32).toNatClampNeg) 10) s0 ((2 : Int32).toNatClampNeg) 5) s0 ≤ (3 : Int32).toNatClampNeg then none else if (4 : Int32) < 0 ∨ am_len (am_pI (am_pI (am_pI (am_pI M s0 ((0 : Int32).toNatClampNeg) 3) s0 ((1 : Int32).toNatClampNeg) 10) s0 ((2 : Int32).toNatClampNeg) 5) s0 ((3 : Int32).toNatClampNeg) 0) s0 ≤ (4 : Int32).toNatClampNeg then none else if (5 : Int32) < 0 ∨ am_len (am_pI (am_pI (am_pI (am_pI (am_pI M s0 ((0 : Int32).toNatClampNeg) 3) s0 ((1 : Int32).toNatClampNeg) 10) s0 ((2 : Int32).toNatClampNeg) 5) s0 ((3 : Int32).toNatClampNeg) 0) s0 ((4 : Int32).toNatClampNeg) 9) s0 ≤ (5 : Int32).toNatClampNeg then none else if (6 : Int32) < 0 ∨ am_len (am_pI (am_pI (am_pI (am_pI (am_pI (am_pI M s0 ((0 : Int32).toNatClampNeg) 3) s0 ((1 : Int32).toNatClampNeg) 10) s0 ((2 : Int32).toNatClampNeg) 5) s0 ((3 : Int32).toNatClampNeg) 0) s0 ((4 : Int32).toNatClampNeg) 9) s0 ((5 : Int32).toNatClampNeg) 3) s0 ≤ (6 : Int32).toNatClampNeg then none else if (7 : Int32) < 0 ∨ am_len (am_pI (am_pI (am_pI (am_pI (am_pI (am_pI (am_pI M s0 ((0 : Int32).toNatClampNeg) 3) s0 ((1 : Int32).toNatClampNeg) 10) s0 ((2 : Int32).toNatClampNeg) 5) s0 ((3 : Int32).toNatClampNeg) 0) s0 ((4 : Int32).toNatClampNeg) 9) s0 ((5 : Int32).toNatClampNeg) 3) s0 ((6 : Int32).toNatClampNeg) 0) s0 ≤ (7 : Int32).toNatClampNeg then none else fX10_init_319 x0 s0 s1 (am_pI (am_pI (am_pI (am_pI (am_pI (am_pI (am_pI (am_pI M s0 ((0 : Int32).toNatClampNeg) 3) s0 ((1 : Int32).toNatClampNeg) 10) s0 ((2 : Int32).toNatClampNeg) 5) s0 ((3 : Int32).toNatClampNeg) 0) s0 ((4 : Int32).toNatClampNeg) 9) s0 ((5 : Int32).toNatClampNeg) 3) s0 ((6 : Int32).toNatClampNeg) 0) s0 ((7 : Int32).toNatClampNeg) 0)
def fX10_init_269 (x0 : Nat) (s0 : Nat) (s1 : Nat) (M : am_M) : Option am_M := fX10_init_283 x0 (am_n (am_pI (am_pR M s1 5 (some s0)) x0 6 6)) x0 (am_new (am_pI (am_pR M s1 5 (some s0)) x0 6 6) 0 40)
def fX10_init_229 (x0 : Nat) (s0 : Nat) (s1 : Nat) (M : am_M) : Option am_M := if (40 : Int32) < 0 ∨ am_len M s0 ≤ (40 : Int32).toNatClampNeg then none else if (41 : Int32) < 0 ∨ am_len (am_pI M s0 ((40 : Int32).toNatClampNeg) 0) s0 ≤ (41 : Int32).toNatClampNeg then none else if (42 : Int32) < 0 ∨ am_len (am_pI (am_pI M s0 ((40 : Int32).toNatClampNeg) 0) s0 ((41 : Int32).toNatClampNeg) 0) s0 ≤ (42 : Int32).toNatClampNeg then none else if (43 : Int32) < 0 ∨ am_len (am_pI (am_pI (am_pI M s0 ((40 : Int32).toNatClampNeg) 0) s0 ((41 : Int32).toNatClampNeg) 0) s0 ((42 : Int32).toNatClampNeg) 0) s0 ≤ (43 : Int32).toNatClampNeg then none else if (44 : Int32) < 0 ∨ am_len (am_pI (am_pI (am_pI (am_pI M s0 ((40 : Int32).toNatClampNeg) 0) s0 ((41 : Int32).toNatClampNeg) 0) s0 ((42 : Int32).toNatClampNeg) 0) s0 ((43 : Int32).toNatClampNeg) 0) s0 ≤ (44 : Int32).toNatClampNeg then none else if (45 : Int32) < 0 ∨ am_len (am_pI (am_pI (am_pI (am_pI (am_pI M s0 ((40 : Int32).toNatClampNeg) 0) s0 ((41 : Int32).toNatClampNeg) 0) s0 ((42 : Int32).toNatClampNeg) 0) s0 ((43 : Int32).toNatClampNeg) 0) s0 ((44 : Int32).toNatClampNeg) 0) s0 ≤ (45 : Int32).toNatClampNeg then none else if (46 : Int32) < 0 ∨ am_len (am_pI (am_pI (am_pI (am_pI (am_pI (am_pI M s0 ((40 : Int32).toNatClampNeg) 0) s0 ((41 : Int32).toNatClampNeg) 0) s0 ((42 : Int32).toNatClampNeg) 0) s0 ((43 : Int32).toNatClampNeg) 0) s0 ((44 : Int32).toNatClampNeg) 0) s0 ((45 : Int32).toNatClampNeg) 0) s0 ≤ (46 : Int32).toNatClampNeg then none else if (47 : Int32) < 0 ∨ am_len (am_pI (am_pI (am_pI (am_pI (am_pI (am_pI (am_pI M s0 ((40 : Int32).toNatClampNeg) 0) s0 ((41 : Int32).toNatClampNeg) 0) s0 ((42 : Int32).toNatClampNeg) 0) s0 ((43 : Int32).toNatClampNeg) 0) s0 ((44 : Int32).toNatClampNeg) 0) s0 ((45 : Int32).toNatClampNeg) 0) s0 ((46 : Int32).toNatClampNeg) 0) s0 ≤ (47 : Int32).toNatClampNeg then none else fX10_init_269 x0 s0 s1 (am_pI (am_pI (am_pI (am_pI (am_pI (am_pI (am_pI (am_pI M s0 ((40 : Int32).toNatClampNeg) 0) s0 ((41 : Int32).toNatClampNeg) 0) s0 ((42 : Int32).toNatClampNeg) 0) s0 ((43 : Int32).toNatClampNeg) 0) s0 ((44 : Int32).toNatClampNeg) 0) s0 ((45 : Int32).toNatClampNeg) 0) s0 ((46 : Int32).toNatClampNeg) 0) s0 ((47 : Int32).toNatClampNeg) 0)
def fX10_init_189 (x0 : Nat) (s0 : Nat) (s1 : Nat) (M : am_M) : Option am_M := if (32 : Int32) < 0 ∨ am_len M s0 ≤ (32 : Int32).toNatClampNeg then none else if (33 : Int32) < 0 ∨ am_len (am_pI M s0 ((32 : Int32).toNatClampNeg) 0) s0 ≤ (33 : Int32).toNatClampNeg then none else if (34 : Int32) < 0 ∨ am_len (am_pI (am_pI M s0 ((32 : Int32).toNatClampNeg) 0) s0 ((33 : Int32).toNatClampNeg) 0) s0 ≤ (34 : Int32).toNatClampNeg then none else if (35 : Int32) < 0 ∨ am_len (am_pI (am_pI (am_pI M s0 ((32 : Int32).toNatClampNeg) 0) s0 ((33 : Int32).toNatClampNeg) 0) s0 ((34 : Int32).toNatClampNeg) 0) s0 ≤ (35 : Int32).toNatClampNeg then none else if (36 : Int32) < 0 ∨ am_len (am_pI (am_pI (am_pI (am_pI M s0 ((32 : Int32).toNatClampNeg) 0) s0 ((33 : Int32).toNatClampNeg) 0) s0 ((34 : Int32).toNatClampNeg) 0) s0 ((35 : Int32).toNatClampNeg) 0) s0 ≤ (36 : Int32).toNatClampNeg then none else if (37 : Int32) < 0 ∨ am_len (am_pI (am_pI (am_pI (am_pI (am_pI M s0 ((32 : Int32).toNatClampNeg) 0) s0 ((33 : Int32).toNatClampNeg) 0) s0 ((34 : Int32).toNatClampNeg) 0) s0 ((35 : Int32).toNatClampNeg) 0) s0 ((36 : Int32).toNatClampNeg) 0) s0 ≤ (37 : Int32).toNatClampNeg then none else if (38 : Int32) < 0 ∨ am_len (am_pI (am_pI (am_pI (am_pI (am_pI (am_pI M s0 ((32 : Int32).toNatClampNeg) 0) s0 ((33 : Int32).toNatClampNeg) 0) s0 ((34 : Int32).toNatClampNeg) 0) s0 ((35 : Int32).toNatClampNeg) 0) s0 ((36 : Int32).toNatClampNeg) 0) s0 ((37 : Int32).toNatClampNeg) 0) s0 ≤ (38 : Int32).toNatClampNeg then none else if (39 : Int32) < 0 ∨ am_len (am_pI (am_pI (am_pI (am_pI (am_pI (am_pI (am_pI M s0 ((32 : Int32).toNatClampNeg) 0) s0 ((33 : Int32).toNatClampNeg) 0) s0 ((34 : Int32).toNatClampNeg) 0) s0 ((35 : Int32).toNatClampNeg) 0) s0 ((36 : Int32).toNatClampNeg) 0) s0 ((37 : Int32).toNatClampNeg) 0) s0 ((38 : Int32).toNatClampNeg) 0) s0 ≤ (39 : Int32).toNatClampNeg then none else fX10_init_229 x0 s0 s1 (am_pI (am_pI (am_pI (am_pI (am_pI (am_pI (am_pI (am_pI M s0 ((32 : Int32).toNatClampNeg) 0) s0 ((33 : Int32).toNatClampNeg) 0) s0 ((34 : Int32).toNatClampNeg) 0) s0 ((35 : Int32).toNatClampNeg) 0) s0 ((36 : Int32).toNatClampNeg) 0) s0 ((37 : Int32).toNatClampNeg) 0) s0 ((38 : Int32).toNatClampNeg) 0) s0 ((39 : Int32).toNatClampNeg) 0)
def fX10_init_149 (x0 : Nat) (s0 : Nat) (s1 : Nat) (M : am_M) : Option am_M := if (24 : Int32) < 0 ∨ am_len M s0 ≤ (24 : Int32).toNatClampNeg then none else if (25 : Int32) < 0 ∨ am_len (am_pI M s0 ((24 : Int32).toNatClampNeg) 0) s0 ≤ (25 : Int32).toNatClampNeg then none else if (26 : Int32) < 0 ∨ am_len (am_pI (am_pI M s0 ((24 : Int32).toNatClampNeg) 0) s0 ((25 : Int32).toNatClampNeg) 0) s0 ≤ (26 : Int32).toNatClampNeg then none else if (27 : Int32) < 0 ∨ am_len (am_pI (am_pI (am_pI M s0 ((24 : Int32).toNatClampNeg) 0) s0 ((25 : Int32).toNatClampNeg) 0) s0 ((26 : Int32).toNatClampNeg) 0) s0 ≤ (27 : Int32).toNatClampNeg then none else if (28 : Int32) < 0 ∨ am_len (am_pI (am_pI (am_pI (am_pI M s0 ((24 : Int32).toNatClampNeg) 0) s0 ((25 : Int32).toNatClampNeg) 0) s0 ((26 : Int32).toNatClampNeg) 0) s0 ((27 : Int32).toNatClampNeg) 0) s0 ≤ (28 : Int32).toNatClampNeg then none else if (29 : Int32) < 0 ∨ am_len (am_pI (am_pI (am_pI (am_pI (am_pI M s0 ((24 : Int32).toNatClampNeg) 0) s0 ((25 : Int32).toNatClampNeg) 0) s0 ((26 : Int32).toNatClampNeg) 0) s0 ((27 : Int32).toNatClampNeg) 0) s0 ((28 : Int32).toNatClampNeg) 0) s0 ≤ (29 : Int32).toNatClampNeg then none else if (30 : Int32) < 0 ∨ am_len (am_pI (am_pI (am_pI (am_pI (am_pI (am_pI M s0 ((24 : Int32).toNatClampNeg) 0) s0 ((25 : Int32).toNatClampNeg) 0) s0 ((26 : Int32).toNatClampNeg) 0) s0 ((27 : Int32).toNatClampNeg) 0) s0 ((28 : Int32).toNatClampNeg) 0) s0 ((29 : Int32).toNatClampNeg) 0) s0 ≤ (30 : Int32).toNatClampNeg then none else if (31 : Int32) < 0 ∨ am_len (am_pI (am_pI (am_pI (am_pI (am_pI (am_pI (am_pI M s0 ((24 : Int32).toNatClampNeg) 0) s0 ((25 : Int32).toNatClampNeg) 0) s0 ((26 : Int32).toNatClampNeg) 0) s0 ((27 : Int32).toNatClampNeg) 0) s0 ((28 : Int32).toNatClampNeg) 0) s0 ((29 : Int32).toNatClampNeg) 0) s0 ((30 : Int32).toNatClampNeg) 0) s0 ≤ (31 : Int32).toNatClampNeg then none else fX10_init_189 x0 s0 s1 (am_pI (am_pI (am_pI (am_pI (am_pI (am_pI (am_pI (am_pI M s0 ((24 : Int32).toNatClampNeg) 0) s0 ((25 : Int32).toNatClampNeg) 0) s0 ((26 : Int32).toNatClampNeg) 0) s0 ((27 : Int32).toNatClampNeg) 0) s0 ((28 : Int32).toNatClampNeg) 0) s0 ((29 : Int32).toNatClampNeg) 0) s0 ((30 : Int32).toNatClampNeg) 0) s0 ((31 : Int32).toNatClampNeg) 0)
def fX10_init_107 (x0 : Nat) (s0 : Nat) (s1 : Nat) (M : am_M) : Option am_M := if (16 : Int32) < 0 ∨ am_len M s0 ≤ (16 : Int32).toNatClampNeg then none else if (17 : Int32) < 0 ∨ am_len (am_pI M s0 ((16 : Int32).toNatClampNeg) 6) s0 ≤ (17 : Int32).toNatClampNeg then none else if (18 : Int32) < 0 ∨ am_len (am_pI (am_pI M s0 ((16 : Int32).toNatClampNeg) 6) s0 ((17 : Int32).toNatClampNeg) 12) s0 ≤ (18 : Int32).toNatClampNeg then none else if (19 : Int32) < 0 ∨ am_len (am_pI (am_pI (am_pI M s0 ((16 : Int32).toNatClampNeg) 6) s0 ((17 : Int32).toNatClampNeg) 12) s0 ((18 : Int32).toNatClampNeg) 0) s0 ≤ (19 : Int32).toNatClampNeg then none else if (20 : Int32) < 0 ∨ am_len (am_pI (am_pI (am_pI (am_pI M s0 ((16 : Int32).toNatClampNeg) 6) s0 ((17 : Int32).toNatClampNeg) 12) s0 ((18 : Int32).toNatClampNeg) 0) s0 ((19 : Int32).toNatClampNeg) 0) s0 ≤ (20 : Int32).toNatClampNeg then none else if (21 : Int32) < 0 ∨ am_len (am_pI (am_pI (am_pI (am_pI (am_pI M s0 ((16 : Int32).toNatClampNeg) 6) s0 ((17 : Int32).toNatClampNeg) 12) s0 ((18 : Int32).toNatClampNeg) 0) s0 ((19 : Int32).toNatClampNeg) 0) s0 ((20 : Int32).toNatClampNeg) 0) s0 ≤ (21 : Int32).toNatClampNeg then none else if (22 : Int32) < 0 ∨ am_len (am_pI (am_pI (am_pI (am_pI (am_pI (am_pI M s0 ((16 : Int32).toNatClampNeg) 6) s0 ((17 : Int32).toNatClampNeg) 12) s0 ((18 : Int32).toNatClampNeg) 0) s0 ((19 : Int32).toNatClampNeg) 0) s0 ((20 : Int32).toNatClampNeg) 0) s0 ((21 : Int32).toNatClampNeg) 0) s0 ≤ (22 : Int32).toNatClampNeg then none else if (23 : Int32) < 0 ∨ am_len (am_pI (am_pI (am_pI (am_pI (am_pI (am_pI (am_pI M s0 ((16 : Int32).toNatClampNeg) 6) s0 ((17 : Int32).toNatClampNeg) 12) s0 ((18 : Int32).toNatClampNeg) 0) s0 ((19 : Int32).toNatClampNeg) 0) s0 ((20 : Int32).toNatClampNeg) 0) s0 ((21 : Int32).toNatClampNeg) 0) s0 ((22 : Int32).toNatClampNeg) 0) s0 ≤ (23 : Int32).toNatClampNeg then none else fX10_init_149 x0 s0 s1 (am_pI (am_pI (am_pI (am_pI (am_pI (am_pI (am_pI (am_pI M s0 ((16 : Int32).toNatClampNeg) 6) s0 ((17 : Int32).toNatClampNeg) 12) s0 ((18 : Int32).toNatClampNeg) 0) s0 ((19 : Int32).toNatClampNeg) 0) s0 ((20 : Int32).toNatClampNeg) 0) s0 ((21 : Int32).toNatClampNeg) 0) s0 ((22 : Int32).toNatClampNeg) 0) s0 ((23 : Int32).toNatClampNeg) 0)
def fX10_init_65 (x0 : Nat) (s0 : Nat) (s1 : Nat) (M : am_M) : Option am_M := if (8 : Int32) < 0 ∨ am_len M s0 ≤ (8 : Int32).toNatClampNeg then none else if (9 : Int32) < 0 ∨ am_len (am_pI M s0 ((8 : Int32).toNatClampNeg) 10) s0 ≤ (9 : Int32).toNatClampNeg then none else if (10 : Int32) < 0 ∨ am_len (am_pI (am_pI M s0 ((8 : Int32).toNatClampNeg) 10) s0 ((9 : Int32).toNatClampNeg) 9) s0 ≤ (10 : Int32).toNatClampNeg then none else if (11 : Int32) < 0 ∨ am_len (am_pI (am_pI (am_pI M s0 ((8 : Int32).toNatClampNeg) 10) s0 ((9 : Int32).toNatClampNeg) 9) s0 ((10 : Int32).toNatClampNeg) 4) s0 ≤ (11 : Int32).toNatClampNeg then none else if (12 : Int32) < 0 ∨ am_len (am_pI (am_pI (am_pI (am_pI M s0 ((8 : Int32).toNatClampNeg) 10) s0 ((9 : Int32).toNatClampNeg) 9) s0 ((10 : Int32).toNatClampNeg) 4) s0 ((11 : Int32).toNatClampNeg) 0) s0 ≤ (12 : Int32).toNatClampNeg then none else if (13 : Int32) < 0 ∨ am_len (am_pI (am_pI (am_pI (am_pI (am_pI M s0 ((8 : Int32).toNatClampNeg) 10) s0 ((9 : Int32).toNatClampNeg) 9) s0 ((10 : Int32).toNatClampNeg) 4) s0 ((11 : Int32).toNatClampNeg) 0) s0 ((12 : Int32).toNatClampNeg) 0) s0 ≤ (13 : Int32).toNatClampNeg then none else if (14 : Int32) < 0 ∨ am_len (am_pI (am_pI (am_pI (am_pI (am_pI (am_pI M s0 ((8 : Int32).toNatClampNeg) 10) s0 ((9 : Int32).toNatClampNeg) 9) s0 ((10 : Int32).toNatClampNeg) 4) s0 ((11 : Int32).toNatClampNeg) 0) s0 ((12 : Int32).toNatClampNeg) 0) s0 ((13 : Int32).toNatClampNeg) 0) s0 ≤ (14 : Int32).toNatClampNeg then none else if (15 : Int32) < 0 ∨ am_len (am_pI (am_pI (am_pI (am_pI (am_pI (am_pI (am_pI M s0 ((8 : Int32).toNatClampNeg) 10) s0 ((9 : Int32).toNatClampNeg) 9) s0 ((10 : Int32).toNatClampNeg) 4) s0 ((11 : Int32).toNatClampNeg) 0) s0 ((12 : Int32).toNatClampNeg) 0) s0 ((13 : Int32).toNatClampNeg) 0) s0 ((14 : Int32).toNatClampNeg) 5) s0 ≤ (15 : Int32).toNatClampNeg then none else fX10_init_107 x0 s0 s1 (am_pI (am_pI (am_pI (am_pI (am_pI (am_pI (am_pI (am_pI M s0 ((8 : Int32).toNatClampNeg) 10) s0 ((9 : Int32).toNatClampNeg) 9) s0 ((10 : Int32).toNatClampNeg) 4) s0 ((11 : Int32).toNatClampNeg) 0) s0 ((12 : Int32).toNatClampNeg) 0) s0 ((13 : Int32).toNatClampNeg) 0) s0 ((14 : Int32).toNatClampNeg) 5) s0 ((15 : Int32).toNatClampNeg) 5)
def fX10_init_29 (x0 : Nat) (s0 : Nat) (s1 : Nat) (M : am_M) : Option am_M := if (0 : Int32) < 0 ∨ am_len M s0 ≤ (0 : Int32).toNatClampNeg then none else if (1 : Int32) < 0 ∨ am_len (am_pI M s0 ((0 : Int32).toNatClampNeg) 1) s0 ≤ (1 : Int32).toNatClampNeg then none else if (2 : Int32) < 0 ∨ am_len (am_pI (am_pI M s0 ((0 : Int32).toNatClampNeg) 1) s0 ((1 : Int32).toNatClampNeg) 0) s0 ≤ (2 : Int32).toNatClampNeg then none else if (3 : Int32) < 0 ∨ am_len (am_pI (am_pI (am_pI M s0 ((0 : Int32).toNatClampNeg) 1) s0 ((1 : Int32).toNatClampNeg) 0) s0 ((2 : Int32).toNatClampNeg) 2) s0 ≤ (3 : Int32).toNatClampNeg then none else if (4 : Int32) < 0 ∨ am_len (am_pI (am_pI (am_pI (am_pI M s0 ((0 : Int32).toNatClampNeg) 1) s0 ((1 : Int32).toNatClampNeg) 0) s0 ((2 : Int32).toNatClampNeg) 2) s0 ((3 : Int32).toNatClampNeg) 3) s0 ≤ (4 : Int32).toNatClampNeg then none else if (5 : Int32) < 0 ∨ am_len (am_pI (am_pI (am_pI (am_pI (am_pI M s0 ((0 : Int32).toNatClampNeg) 1) s0 ((1 : Int32).toNatClampNeg) 0) s0 ((2 : Int32).toNatClampNeg) 2) s0 ((3 : Int32).toNatClampNeg) 3) s0 ((4 : Int32).toNatClampNeg) 9) s0 ≤ (5 : Int32).toNatClampNeg then none else if (6 : Int32) < 0 ∨ am_len (am_pI (am_pI (am_pI (am_pI (am_pI (am_pI M s0 ((0 : Int32).toNatClampNeg) 1) s0 ((1 : Int32).toNatClampNeg) 0) s0 ((2 : Int32).toNatClampNeg) 2) s0 ((3 : Int32).toNatClampNeg) 3) s0 ((4 : Int32).toNatClampNeg) 9) s0 ((5 : Int32).toNatClampNeg) 8) s0 ≤ (6 : Int32).toNatClampNeg then none else if (7 : Int32) < 0 ∨ am_len (am_pI (am_pI (am_pI (am_pI (am_pI (am_pI (am_pI M s0 ((0 : Int32).toNatClampNeg) 1) s0 ((1 : Int32).toNatClampNeg) 0) s0 ((2 : Int32).toNatClampNeg) 2) s0 ((3 : Int32).toNatClampNeg) 3) s0 ((4 : Int32).toNatClampNeg) 9) s0 ((5 : Int32).toNatClampNeg) 8) s0 ((6 : Int32).toNatClampNeg) 1) s0 ≤ (7 : Int32).toNatClampNeg then none else fX10_init_65 x0 s0 s1 (am_pI (am_pI (am_pI (am_pI (am_pI (am_pI (am_pI (am_pI M s0 ((0 : Int32).toNatClampNeg) 1) s0 ((1 : Int32).toNatClampNeg) 0) s0 ((2 : Int32).toNatClampNeg) 2) s0 ((3 : Int32).toNatClampNeg) 3) s0 ((4 : Int32).toNatClampNeg) 9) s0 ((5 : Int32).toNatClampNeg) 8) s0 ((6 : Int32).toNatClampNeg) 1) s0 ((7 : Int32).toNatClampNeg) 1)
def fX10_init (a0 : Nat) (M : am_M) : Option am_M := fX10_init_29 a0 (am_n (am_pI (am_pI (am_pI (am_pI M a0 0 4) a0 1 1) a0 3 4) a0 4 3)) a0 (am_new (am_pI (am_pI (am_pI (am_pI M a0 0 4) a0 1 1) a0 3 4) a0 4 3) 0 48)
set_option maxRecDepth 100000 in
set_option maxHeartbeats 4000000 in
theorem sX10_init_758 (G : am_G) (s0 : Nat) (s1 : Nat) (M : am_M) (h_s0 : am_sh M s0 0) (h_s1 : am_sh M s1 14) : am_S am_ev G 1 yX10_init.cls yX10_init.name cX10_init 1 none 758 [] [.ref s0, .ref s1] M (fX10_init_758 s0 s1 M) := by
  show am_S am_ev G 1 yX10_init.cls yX10_init.name cX10_init 1 none 758 [] [.ref s0, .ref s1] M (some (am_pR M s1 28 (some s0)))
  refine am_putFR 9 dX10_init_758 fl_RX10_59 h_s1 rfl h_s0 rfl rfl rfl ?_
  exact am_vret dX10_init_761
set_option maxRecDepth 100000 in
set_option maxHeartbeats 4000000 in
theorem sX10_init_749 (G : am_G) (x0 : Nat) (s0 : Nat) (s1 : Nat) (M : am_M) (h_x0 : am_sh M x0 14) (h_s0 : am_sh M s0 0) (h_s1 : am_sh M s1 14) : am_S am_ev G 1 yX10_init.cls yX10_init.name cX10_init 1 none 749 [(0, .ref x0)] [.ref s0, .ref s1] M (fX10_init_749 x0 s0 s1 M) := by
  show am_S am_ev G 1 yX10_init.cls yX10_init.name cX10_init 1 none 749 [(0, .ref x0)] [.ref s0, .ref s1] M (fX10_init_758 (am_n (am_pR M s1 27 (some s0))) x0 (am_new (am_pR M s1 27 (some s0)) 0 4096))
  refine am_putFR 9 dX10_init_749 fl_RX10_56 h_s1 rfl h_s0 rfl rfl rfl ?_
  refine am_aload_n 0 dX10_init_752 rfl rfl ?_
  refine am_sipush (x := 4096) dX10_init_753 (by decide) ?_
  refine am_newaI 4096 dX10_init_756 ac_int (by decide) (by decide) (by decide) ?_
  refine am_sub [] rfl ?_
  exact sX10_init_758 G (am_n (am_pR M s1 27 (some s0))) x0 (am_new (am_pR M s1 27 (some s0)) 0 4096) (am_sh_new _ _ _) (am_sh.mono (am_le_new _ _ _) (am_sh.of h_x0 rfl))
set_option maxRecDepth 100000 in
set_option maxHeartbeats 4000000 in
theorem sX10_init_741 (G : am_G) (x0 : Nat) (s0 : Nat) (s1 : Nat) (M : am_M) (h_x0 : am_sh M x0 14) (h_s0 : am_sh M s0 0) (h_s1 : am_sh M s1 14) : am_S am_ev G 1 yX10_init.cls yX10_init.name cX10_init 1 none 741 [(0, .ref x0)] [.ref s0, .ref s1] M (fX10_init_741 x0 s0 s1 M) := by
  show am_S am_ev G 1 yX10_init.cls yX10_init.name cX10_init 1 none 741 [(0, .ref x0)] [.ref s0, .ref s1] M (fX10_init_749 x0 (am_n (am_pR M s1 26 (some s0))) x0 (am_new (am_pR M s1 26 (some s0)) 0 13))
  refine am_putFR 9 dX10_init_741 fl_RX10_53 h_s1 rfl h_s0 rfl rfl rfl ?_
  refine am_aload_n 0 dX10_init_744 rfl rfl ?_
  refine am_bipush (x := 13) dX10_init_745 (by decide) ?_
  refine am_newaI 13 dX10_init_747 ac_int (by decide) (by decide) (by decide) ?_
  exact sX10_init_749 G x0 (am_n (am_pR M s1 26 (some s0))) x0 (am_new (am_pR M s1 26 (some s0)) 0 13) (am_sh.mono (am_le_new _ _ _) (am_sh.of h_x0 rfl)) (am_sh_new _ _ _) (am_sh.mono (am_le_new _ _ _) (am_sh.of h_x0 rfl))
set_option maxRecDepth 100000 in
set_option maxHeartbeats 4000000 in
theorem sX10_init_733 (G : am_G) (x0 : Nat) (s0 : Nat) (s1 : Nat) (M : am_M) (h_x0 : am_sh M x0 14) (h_s0 : am_sh M s0 0) (h_s1 : am_sh M s1 14) : am_S am_ev G 1 yX10_init.cls yX10_init.name cX10_init 1 none 733 [(0, .ref x0)] [.ref s0, .ref s1] M (fX10_init_733 x0 s0 s1 M) := by
  show am_S am_ev G 1 yX10_init.cls yX10_init.name cX10_init 1 none 733 [(0, .ref x0)] [.ref s0, .ref s1] M (fX10_init_741 x0 (am_n (am_pR M s1 25 (some s0))) x0 (am_new (am_pR M s1 25 (some s0)) 0 13))
  refine am_putFR 9 dX10_init_733 fl_RX10_50 h_s1 rfl h_s0 rfl rfl rfl ?_
  refine am_aload_n 0 dX10_init_736 rfl rfl ?_
  refine am_bipush (x := 13) dX10_init_737 (by decide) ?_
  refine am_newaI 13 dX10_init_739 ac_int (by decide) (by decide) (by decide) ?_
  exact sX10_init_741 G x0 (am_n (am_pR M s1 25 (some s0))) x0 (am_new (am_pR M s1 25 (some s0)) 0 13) (am_sh.mono (am_le_new _ _ _) (am_sh.of h_x0 rfl)) (am_sh_new _ _ _) (am_sh.mono (am_le_new _ _ _) (am_sh.of h_x0 rfl))
set_option maxRecDepth 100000 in
set_option maxHeartbeats 4000000 in
theorem sX10_init_725 (G : am_G) (x0 : Nat) (s0 : Nat) (s1 : Nat) (M : am_M) (h_x0 : am_sh M x0 14) (h_s0 : am_sh M s0 0) (h_s1 : am_sh M s1 14) : am_S am_ev G 1 yX10_init.cls yX10_init.name cX10_init 1 none 725 [(0, .ref x0)] [.ref s0, .ref s1] M (fX10_init_725 x0 s0 s1 M) := by
  show am_S am_ev G 1 yX10_init.cls yX10_init.name cX10_init 1 none 725 [(0, .ref x0)] [.ref s0, .ref s1] M (fX10_init_733 x0 (am_n (am_pR M s1 22 (some s0))) x0 (am_new (am_pR M s1 22 (some s0)) 0 91))
  refine am_putFR 9 dX10_init_725 fl_RX10_47 h_s1 rfl h_s0 rfl rfl rfl ?_
  refine am_aload_n 0 dX10_init_728 rfl rfl ?_
  refine am_bipush (x := 91) dX10_init_729 (by decide) ?_
  refine am_newaI 91 dX10_init_731 ac_int (by decide) (by decide) (by decide) ?_
  exact sX10_init_733 G x0 (am_n (am_pR M s1 22 (some s0))) x0 (am_new (am_pR M s1 22 (some s0)) 0 91) (am_sh.mono (am_le_new _ _ _) (am_sh.of h_x0 rfl)) (am_sh_new _ _ _) (am_sh.mono (am_le_new _ _ _) (am_sh.of h_x0 rfl))
set_option maxRecDepth 100000 in
set_option maxHeartbeats 4000000 in
theorem sX10_init_716 (G : am_G) (x0 : Nat) (s0 : Nat) (s1 : Nat) (M : am_M) (h_x0 : am_sh M x0 14) (h_s0 : am_sh M s0 0) (h_s1 : am_sh M s1 14) : am_S am_ev G 1 yX10_init.cls yX10_init.name cX10_init 1 none 716 [(0, .ref x0)] [.ref s0, .ref s1] M (fX10_init_716 x0 s0 s1 M) := by
  show am_S am_ev G 1 yX10_init.cls yX10_init.name cX10_init 1 none 716 [(0, .ref x0)] [.ref s0, .ref s1] M (fX10_init_725 x0 (am_n (am_pR M s1 21 (some s0))) x0 (am_new (am_pR M s1 21 (some s0)) 0 4096))
  refine am_putFR 9 dX10_init_716 fl_RX10_44 h_s1 rfl h_s0 rfl rfl rfl ?_
  refine am_aload_n 0 dX10_init_719 rfl rfl ?_
  refine am_sipush (x := 4096) dX10_init_720 (by decide) ?_
  refine am_newaI 4096 dX10_init_723 ac_int (by decide) (by decide) (by decide) ?_
  exact sX10_init_725 G x0 (am_n (am_pR M s1 21 (some s0))) x0 (am_new (am_pR M s1 21 (some s0)) 0 4096) (am_sh.mono (am_le_new _ _ _) (am_sh.of h_x0 rfl)) (am_sh_new _ _ _) (am_sh.mono (am_le_new _ _ _) (am_sh.of h_x0 rfl))
set_option maxRecDepth 100000 in
set_option maxHeartbeats 4000000 in
theorem sX10_init_707 (G : am_G) (x0 : Nat) (s0 : Nat) (s1 : Nat) (M : am_M) (h_x0 : am_sh M x0 14) (h_s0 : am_sh M s0 0) (h_s1 : am_sh M s1 14) : am_S am_ev G 1 yX10_init.cls yX10_init.name cX10_init 1 none 707 [(0, .ref x0)] [.ref s0, .ref s1] M (fX10_init_707 x0 s0 s1 M) := by
  show am_S am_ev G 1 yX10_init.cls yX10_init.name cX10_init 1 none 707 [(0, .ref x0)] [.ref s0, .ref s1] M (fX10_init_716 x0 (am_n (am_pR M s1 18 (some s0))) x0 (am_new (am_pR M s1 18 (some s0)) 0 4096))
  refine am_putFR 9 dX10_init_707 fl_RX10_41 h_s1 rfl h_s0 rfl rfl rfl ?_
  refine am_aload_n 0 dX10_init_710 rfl rfl ?_
  refine am_sipush (x := 4096) dX10_init_711 (by decide) ?_
  refine am_newaI 4096 dX10_init_714 ac_int (by decide) (by decide) (by decide) ?_
  exact sX10_init_716 G x0 (am_n (am_pR M s1 18 (some s0))) x0 (am_new (am_pR M s1 18 (some s0)) 0 4096) (am_sh.mono (am_le_new _ _ _) (am_sh.of h_x0 rfl)) (am_sh_new _ _ _) (am_sh.mono (am_le_new _ _ _) (am_sh.of h_x0 rfl))
set_option maxRecDepth 100000 in
set_option maxHeartbeats 4000000 in
theorem sX10_init_700 (G : am_G) (x0 : Nat) (s0 : Nat) (s1 : Nat) (M : am_M) (h_x0 : am_sh M x0 14) (h_s0 : am_sh M s0 0) (h_s1 : am_sh M s1 14) : am_S am_ev G 1 yX10_init.cls yX10_init.name cX10_init 1 none 700 [(0, .ref x0)] [.ref s0, .ref s1] M (fX10_init_700 x0 s0 s1 M) := by
  show am_S am_ev G 1 yX10_init.cls yX10_init.name cX10_init 1 none 700 [(0, .ref x0)] [.ref s0, .ref s1] M (fX10_init_707 x0 (am_n (am_pR M s1 12 (some s0))) x0 (am_new (am_pR M s1 12 (some s0)) 0 4))
  refine am_putFR 9 dX10_init_700 fl_RX10_38 h_s1 rfl h_s0 rfl rfl rfl ?_
  refine am_aload_n 0 dX10_init_703 rfl rfl ?_
  refine am_iconst dX10_init_704 am_kc_4 ?_
  refine am_newaI 4 dX10_init_705 ac_int (by decide) (by decide) (by decide) ?_
  exact sX10_init_707 G x0 (am_n (am_pR M s1 12 (some s0))) x0 (am_new (am_pR M s1 12 (some s0)) 0 4) (am_sh.mono (am_le_new _ _ _) (am_sh.of h_x0 rfl)) (am_sh_new _ _ _) (am_sh.mono (am_le_new _ _ _) (am_sh.of h_x0 rfl))
set_option maxRecDepth 100000 in
set_option maxHeartbeats 4000000 in
theorem sX10_init_693 (G : am_G) (x0 : Nat) (s0 : Nat) (s1 : Nat) (M : am_M) (h_x0 : am_sh M x0 14) (h_s0 : am_sh M s0 0) (h_s1 : am_sh M s1 14) : am_S am_ev G 1 yX10_init.cls yX10_init.name cX10_init 1 none 693 [(0, .ref x0)] [.ref s0, .ref s1] M (fX10_init_693 x0 s0 s1 M) := by
  show am_S am_ev G 1 yX10_init.cls yX10_init.name cX10_init 1 none 693 [(0, .ref x0)] [.ref s0, .ref s1] M (fX10_init_700 x0 (am_n (am_pR M s1 9 (some s0))) x0 (am_new (am_pR M s1 9 (some s0)) 0 3))
  refine am_putFR 9 dX10_init_693 fl_RX10_35 h_s1 rfl h_s0 rfl rfl rfl ?_
  refine am_aload_n 0 dX10_init_696 rfl rfl ?_
  refine am_iconst dX10_init_697 am_kc_3 ?_
  refine am_newaI 3 dX10_init_698 ac_int (by decide) (by decide) (by decide) ?_
  exact sX10_init_700 G x0 (am_n (am_pR M s1 9 (some s0))) x0 (am_new (am_pR M s1 9 (some s0)) 0 3) (am_sh.mono (am_le_new _ _ _) (am_sh.of h_x0 rfl)) (am_sh_new _ _ _) (am_sh.mono (am_le_new _ _ _) (am_sh.of h_x0 rfl))
set_option maxRecDepth 100000 in
set_option maxHeartbeats 4000000 in
theorem sX10_init_684 (G : am_G) (x0 : Nat) (s0 : Nat) (s1 : Nat) (M : am_M) (h_x0 : am_sh M x0 14) (h_s0 : am_sh M s0 0) (h_s1 : am_sh M s1 14) : am_S am_ev G 1 yX10_init.cls yX10_init.name cX10_init 1 none 684 [(0, .ref x0)] [.ref s0, .ref s1] M (fX10_init_684 x0 s0 s1 M) := by
  show am_S am_ev G 1 yX10_init.cls yX10_init.name cX10_init 1 none 684 [(0, .ref x0)] [.ref s0, .ref s1] M (fX10_init_693 x0 (am_n (am_pR M s1 8 (some s0))) x0 (am_new (am_pR M s1 8 (some s0)) 0 200))
  refine am_putFR 9 dX10_init_684 fl_RX10_32 h_s1 rfl h_s0 rfl rfl rfl ?_
  refine am_aload_n 0 dX10_init_687 rfl rfl ?_
  refine am_sipush (x := 200) dX10_init_688 (by decide) ?_
  refine am_newaI 200 dX10_init_691 ac_int (by decide) (by decide) (by decide) ?_
  exact sX10_init_693 G x0 (am_n (am_pR M s1 8 (some s0))) x0 (am_new (am_pR M s1 8 (some s0)) 0 200) (am_sh.mono (am_le_new _ _ _) (am_sh.of h_x0 rfl)) (am_sh_new _ _ _) (am_sh.mono (am_le_new _ _ _) (am_sh.of h_x0 rfl))
set_option maxRecDepth 100000 in
set_option maxHeartbeats 4000000 in
theorem sX10_init_644 (G : am_G) (x0 : Nat) (s0 : Nat) (s1 : Nat) (M : am_M) (h_x0 : am_sh M x0 14) (h_s0 : am_sh M s0 0) (h_s1 : am_sh M s1 14) : am_S am_ev G 1 yX10_init.cls yX10_init.name cX10_init 1 none 644 [(0, .ref x0)] [.ref s0, .ref s1] M (fX10_init_644 x0 s0 s1 M) := by
  show am_S am_ev G 1 yX10_init.cls yX10_init.name cX10_init 1 none 644 [(0, .ref x0)] [.ref s0, .ref s1] M (if (32 : Int32) < 0 ∨ am_len M s0 ≤ (32 : Int32).toNatClampNeg then none else if (33 : Int32) < 0 ∨ am_len (am_pI M s0 ((32 : Int32).toNatClampNeg) 0) s0 ≤ (33 : Int32).toNatClampNeg then none else if (34 : Int32) < 0 ∨ am_len (am_pI (am_pI M s0 ((32 : Int32).toNatClampNeg) 0) s0 ((33 : Int32).toNatClampNeg) 0) s0 ≤ (34 : Int32).toNatClampNeg then none else if (35 : Int32) < 0 ∨ am_len (am_pI (am_pI (am_pI M s0 ((32 : Int32).toNatClampNeg) 0) s0 ((33 : Int32).toNatClampNeg) 0) s0 ((34 : Int32).toNatClampNeg) 0) s0 ≤ (35 : Int32).toNatClampNeg then none else if (36 : Int32) < 0 ∨ am_len (am_pI (am_pI (am_pI (am_pI M s0 ((32 : Int32).toNatClampNeg) 0) s0 ((33 : Int32).toNatClampNeg) 0) s0 ((34 : Int32).toNatClampNeg) 0) s0 ((35 : Int32).toNatClampNeg) 0) s0 ≤ (36 : Int32).toNatClampNeg then none else if (37 : Int32) < 0 ∨ am_len (am_pI (am_pI (am_pI (am_pI (am_pI M s0 ((32 : Int32).toNatClampNeg) 0) s0 ((33 : Int32).toNatClampNeg) 0) s0 ((34 : Int32).toNatClampNeg) 0) s0 ((35 : Int32).toNatClampNeg) 0) s0 ((36 : Int32).toNatClampNeg) 0) s0 ≤ (37 : Int32).toNatClampNeg then none else if (38 : Int32) < 0 ∨ am_len (am_pI (am_pI (am_pI (am_pI (am_pI (am_pI M s0 ((32 : Int32).toNatClampNeg) 0) s0 ((33 : Int32).toNatClampNeg) 0) s0 ((34 : Int32).toNatClampNeg) 0) s0 ((35 : Int32).toNatClampNeg) 0) s0 ((36 : Int32).toNatClampNeg) 0) s0 ((37 : Int32).toNatClampNeg) 0) s0 ≤ (38 : Int32).toNatClampNeg then none else if (39 : Int32) < 0 ∨ am_len (am_pI (am_pI (am_pI (am_pI (am_pI (am_pI (am_pI M s0 ((32 : Int32).toNatClampNeg) 0) s0 ((33 : Int32).toNatClampNeg) 0) s0 ((34 : Int32).toNatClampNeg) 0) s0 ((35 : Int32).toNatClampNeg) 0) s0 ((36 : Int32).toNatClampNeg) 0) s0 ((37 : Int32).toNatClampNeg) 0) s0 ((38 : Int32).toNatClampNeg) 0) s0 ≤ (39 : Int32).toNatClampNeg then none else fX10_init_684 x0 s0 s1 (am_pI (am_pI (am_pI (am_pI (am_pI (am_pI (am_pI (am_pI M s0 ((32 : Int32).toNatClampNeg) 0) s0 ((33 : Int32).toNatClampNeg) 0) s0 ((34 : Int32).toNatClampNeg) 0) s0 ((35 : Int32).toNatClampNeg) 0) s0 ((36 : Int32).toNatClampNeg) 0) s0 ((37 : Int32).toNatClampNeg) 0) s0 ((38 : Int32).toNatClampNeg) 0) s0 ((39 : Int32).toNatClampNeg) 0))
  refine am_dup dX10_init_644 rfl ?_
  refine am_bipush (x := 32) dX10_init_645 (by decide) ?_
  refine am_iconst dX10_init_647 am_kc_0 ?_
  refine am_iast dX10_init_648 h_s0 (fun b121 => ?_)
  refine am_dup dX10_init_649 rfl ?_
  refine am_bipush (x := 33) dX10_init_650 (by decide) ?_
  refine am_iconst dX10_init_652 am_kc_0 ?_
  refine am_iast dX10_init_653 (am_sh.of h_s0 rfl) (fun b122 => ?_)
  refine am_dup dX10_init_654 rfl ?_
  refine am_bipush (x := 34) dX10_init_655 (by decide) ?_
  refine am_iconst dX10_init_657 am_kc_0 ?_
  refine am_iast dX10_init_658 (am_sh.of h_s0 rfl) (fun b123 => ?_)
  refine am_dup dX10_init_659 rfl ?_
  refine am_bipush (x := 35) dX10_init_660 (by decide) ?_
  refine am_iconst dX10_init_662 am_kc_0 ?_
  refine am_iast dX10_init_663 (am_sh.of h_s0 rfl) (fun b124 => ?_)
  refine am_dup dX10_init_664 rfl ?_
  refine am_bipush (x := 36) dX10_init_665 (by decide) ?_
  refine am_iconst dX10_init_667 am_kc_0 ?_
  refine am_iast dX10_init_668 (am_sh.of h_s0 rfl) (fun b125 => ?_)
  refine am_dup dX10_init_669 rfl ?_
  refine am_bipush (x := 37) dX10_init_670 (by decide) ?_
  refine am_iconst dX10_init_672 am_kc_0 ?_
  refine am_iast dX10_init_673 (am_sh.of h_s0 rfl) (fun b126 => ?_)
  refine am_dup dX10_init_674 rfl ?_
  refine am_bipush (x := 38) dX10_init_675 (by decide) ?_
  refine am_iconst dX10_init_677 am_kc_0 ?_
  refine am_iast dX10_init_678 (am_sh.of h_s0 rfl) (fun b127 => ?_)
  refine am_dup dX10_init_679 rfl ?_
  refine am_bipush (x := 39) dX10_init_680 (by decide) ?_
  refine am_iconst dX10_init_682 am_kc_0 ?_
  refine am_iast dX10_init_683 (am_sh.of h_s0 rfl) (fun b128 => ?_)
  exact sX10_init_684 G x0 s0 s1 (am_pI (am_pI (am_pI (am_pI (am_pI (am_pI (am_pI (am_pI M s0 ((32 : Int32).toNatClampNeg) 0) s0 ((33 : Int32).toNatClampNeg) 0) s0 ((34 : Int32).toNatClampNeg) 0) s0 ((35 : Int32).toNatClampNeg) 0) s0 ((36 : Int32).toNatClampNeg) 0) s0 ((37 : Int32).toNatClampNeg) 0) s0 ((38 : Int32).toNatClampNeg) 0) s0 ((39 : Int32).toNatClampNeg) 0) (am_sh.of h_x0 rfl) (am_sh.of h_s0 rfl) (am_sh.of h_s1 rfl)
set_option maxRecDepth 100000 in
set_option maxHeartbeats 4000000 in
theorem sX10_init_604 (G : am_G) (x0 : Nat) (s0 : Nat) (s1 : Nat) (M : am_M) (h_x0 : am_sh M x0 14) (h_s0 : am_sh M s0 0) (h_s1 : am_sh M s1 14) : am_S am_ev G 1 yX10_init.cls yX10_init.name cX10_init 1 none 604 [(0, .ref x0)] [.ref s0, .ref s1] M (fX10_init_604 x0 s0 s1 M) := by
  show am_S am_ev G 1 yX10_init.cls yX10_init.name cX10_init 1 none 604 [(0, .ref x0)] [.ref s0, .ref s1] M (if (24 : Int32) < 0 ∨ am_len M s0 ≤ (24 : Int32).toNatClampNeg then none else if (25 : Int32) < 0 ∨ am_len (am_pI M s0 ((24 : Int32).toNatClampNeg) 0) s0 ≤ (25 : Int32).toNatClampNeg then none else if (26 : Int32) < 0 ∨ am_len (am_pI (am_pI M s0 ((24 : Int32).toNatClampNeg) 0) s0 ((25 : Int32).toNatClampNeg) 0) s0 ≤ (26 : Int32).toNatClampNeg then none else if (27 : Int32) < 0 ∨ am_len (am_pI (am_pI (am_pI M s0 ((24 : Int32).toNatClampNeg) 0) s0 ((25 : Int32).toNatClampNeg) 0) s0 ((26 : Int32).toNatClampNeg) 0) s0 ≤ (27 : Int32).toNatClampNeg then none else if (28 : Int32) < 0 ∨ am_len (am_pI (am_pI (am_pI (am_pI M s0 ((24 : Int32).toNatClampNeg) 0) s0 ((25 : Int32).toNatClampNeg) 0) s0 ((26 : Int32).toNatClampNeg) 0) s0 ((27 : Int32).toNatClampNeg) 0) s0 ≤ (28 : Int32).toNatClampNeg then none else if (29 : Int32) < 0 ∨ am_len (am_pI (am_pI (am_pI (am_pI (am_pI M s0 ((24 : Int32).toNatClampNeg) 0) s0 ((25 : Int32).toNatClampNeg) 0) s0 ((26 : Int32).toNatClampNeg) 0) s0 ((27 : Int32).toNatClampNeg) 0) s0 ((28 : Int32).toNatClampNeg) 0) s0 ≤ (29 : Int32).toNatClampNeg then none else if (30 : Int32) < 0 ∨ am_len (am_pI (am_pI (am_pI (am_pI (am_pI (am_pI M s0 ((24 : Int32).toNatClampNeg) 0) s0 ((25 : Int32).toNatClampNeg) 0) s0 ((26 : Int32).toNatClampNeg) 0) s0 ((27 : Int32).toNatClampNeg) 0) s0 ((28 : Int32).toNatClampNeg) 0) s0 ((29 : Int32).toNatClampNeg) 0) s0 ≤ (30 : Int32).toNatClampNeg then none else if (31 : Int32) < 0 ∨ am_len (am_pI (am_pI (am_pI (am_pI (am_pI (am_pI (am_pI M s0 ((24 : Int32).toNatClampNeg) 0) s0 ((25 : Int32).toNatClampNeg) 0) s0 ((26 : Int32).toNatClampNeg) 0) s0 ((27 : Int32).toNatClampNeg) 0) s0 ((28 : Int32).toNatClampNeg) 0) s0 ((29 : Int32).toNatClampNeg) 0) s0 ((30 : Int32).toNatClampNeg) 0) s0 ≤ (31 : Int32).toNatClampNeg then none else fX10_init_644 x0 s0 s1 (am_pI (am_pI (am_pI (am_pI (am_pI (am_pI (am_pI (am_pI M s0 ((24 : Int32).toNatClampNeg) 0) s0 ((25 : Int32).toNatClampNeg) 0) s0 ((26 : Int32).toNatClampNeg) 0) s0 ((27 : Int32).toNatClampNeg) 0) s0 ((28 : Int32).toNatClampNeg) 0) s0 ((29 : Int32).toNatClampNeg) 0) s0 ((30 : Int32).toNatClampNeg) 0) s0 ((31 : Int32).toNatClampNeg) 0))
  refine am_dup dX10_init_604 rfl ?_
  refine am_bipush (x := 24) dX10_init_605 (by decide) ?_
  refine am_iconst dX10_init_607 am_kc_0 ?_
  refine am_iast dX10_init_608 h_s0 (fun b113 => ?_)
  refine am_dup dX10_init_609 rfl ?_
  refine am_bipush (x := 25) dX10_init_610 (by decide) ?_
  refine am_iconst dX10_init_612 am_kc_0 ?_
  refine am_iast dX10_init_613 (am_sh.of h_s0 rfl) (fun b114 => ?_)
  refine am_dup dX10_init_614 rfl ?_
  refine am_bipush (x := 26) dX10_init_615 (by decide) ?_
  refine am_iconst dX10_init_617 am_kc_0 ?_
  refine am_iast dX10_init_618 (am_sh.of h_s0 rfl) (fun b115 => ?_)
  refine am_dup dX10_init_619 rfl ?_
  refine am_bipush (x := 27) dX10_init_620 (by decide) ?_
  refine am_iconst dX10_init_622 am_kc_0 ?_
  refine am_iast dX10_init_623 (am_sh.of h_s0 rfl) (fun b116 => ?_)
  refine am_dup dX10_init_624 rfl ?_
  refine am_bipush (x := 28) dX10_init_625 (by decide) ?_
  refine am_iconst dX10_init_627 am_kc_0 ?_
  refine am_iast dX10_init_628 (am_sh.of h_s0 rfl) (fun b117 => ?_)
  refine am_dup dX10_init_629 rfl ?_
  refine am_bipush (x := 29) dX10_init_630 (by decide) ?_
  refine am_iconst dX10_init_632 am_kc_0 ?_
  refine am_iast dX10_init_633 (am_sh.of h_s0 rfl) (fun b118 => ?_)
  refine am_dup dX10_init_634 rfl ?_
  refine am_bipush (x := 30) dX10_init_635 (by decide) ?_
  refine am_iconst dX10_init_637 am_kc_0 ?_
  refine am_iast dX10_init_638 (am_sh.of h_s0 rfl) (fun b119 => ?_)
  refine am_dup dX10_init_639 rfl ?_
  refine am_bipush (x := 31) dX10_init_640 (by decide) ?_
  refine am_iconst dX10_init_642 am_kc_0 ?_
  refine am_iast dX10_init_643 (am_sh.of h_s0 rfl) (fun b120 => ?_)
  exact sX10_init_644 G x0 s0 s1 (am_pI (am_pI (am_pI (am_pI (am_pI (am_pI (am_pI (am_pI M s0 ((24 : Int32).toNatClampNeg) 0) s0 ((25 : Int32).toNatClampNeg) 0) s0 ((26 : Int32).toNatClampNeg) 0) s0 ((27 : Int32).toNatClampNeg) 0) s0 ((28 : Int32).toNatClampNeg) 0) s0 ((29 : Int32).toNatClampNeg) 0) s0 ((30 : Int32).toNatClampNeg) 0) s0 ((31 : Int32).toNatClampNeg) 0) (am_sh.of h_x0 rfl) (am_sh.of h_s0 rfl) (am_sh.of h_s1 rfl)
set_option maxRecDepth 100000 in
set_option maxHeartbeats 4000000 in
theorem sX10_init_564 (G : am_G) (x0 : Nat) (s0 : Nat) (s1 : Nat) (M : am_M) (h_x0 : am_sh M x0 14) (h_s0 : am_sh M s0 0) (h_s1 : am_sh M s1 14) : am_S am_ev G 1 yX10_init.cls yX10_init.name cX10_init 1 none 564 [(0, .ref x0)] [.ref s0, .ref s1] M (fX10_init_564 x0 s0 s1 M) := by
  show am_S am_ev G 1 yX10_init.cls yX10_init.name cX10_init 1 none 564 [(0, .ref x0)] [.ref s0, .ref s1] M (if (16 : Int32) < 0 ∨ am_len M s0 ≤ (16 : Int32).toNatClampNeg then none else if (17 : Int32) < 0 ∨ am_len (am_pI M s0 ((16 : Int32).toNatClampNeg) 0) s0 ≤ (17 : Int32).toNatClampNeg then none else if (18 : Int32) < 0 ∨ am_len (am_pI (am_pI M s0 ((16 : Int32).toNatClampNeg) 0) s0 ((17 : Int32).toNatClampNeg) 0) s0 ≤ (18 : Int32).toNatClampNeg then none else if (19 : Int32) < 0 ∨ am_len (am_pI (am_pI (am_pI M s0 ((16 : Int32).toNatClampNeg) 0) s0 ((17 : Int32).toNatClampNeg) 0) s0 ((18 : Int32).toNatClampNeg) 0) s0 ≤ (19 : Int32).toNatClampNeg then none else if (20 : Int32) < 0 ∨ am_len (am_pI (am_pI (am_pI (am_pI M s0 ((16 : Int32).toNatClampNeg) 0) s0 ((17 : Int32).toNatClampNeg) 0) s0 ((18 : Int32).toNatClampNeg) 0) s0 ((19 : Int32).toNatClampNeg) 0) s0 ≤ (20 : Int32).toNatClampNeg then none else if (21 : Int32) < 0 ∨ am_len (am_pI (am_pI (am_pI (am_pI (am_pI M s0 ((16 : Int32).toNatClampNeg) 0) s0 ((17 : Int32).toNatClampNeg) 0) s0 ((18 : Int32).toNatClampNeg) 0) s0 ((19 : Int32).toNatClampNeg) 0) s0 ((20 : Int32).toNatClampNeg) 0) s0 ≤ (21 : Int32).toNatClampNeg then none else if (22 : Int32) < 0 ∨ am_len (am_pI (am_pI (am_pI (am_pI (am_pI (am_pI M s0 ((16 : Int32).toNatClampNeg) 0) s0 ((17 : Int32).toNatClampNeg) 0) s0 ((18 : Int32).toNatClampNeg) 0) s0 ((19 : Int32).toNatClampNeg) 0) s0 ((20 : Int32).toNatClampNeg) 0) s0 ((21 : Int32).toNatClampNeg) 0) s0 ≤ (22 : Int32).toNatClampNeg then none else if (23 : Int32) < 0 ∨ am_len (am_pI (am_pI (am_pI (am_pI (am_pI (am_pI (am_pI M s0 ((16 : Int32).toNatClampNeg) 0) s0 ((17 : Int32).toNatClampNeg) 0) s0 ((18 : Int32).toNatClampNeg) 0) s0 ((19 : Int32).toNatClampNeg) 0) s0 ((20 : Int32).toNatClampNeg) 0) s0 ((21 : Int32).toNatClampNeg) 0) s0 ((22 : Int32).toNatClampNeg) 0) s0 ≤ (23 : Int32).toNatClampNeg then none else fX10_init_604 x0 s0 s1 (am_pI (am_pI (am_pI (am_pI (am_pI (am_pI (am_pI (am_pI M s0 ((16 : Int32).toNatClampNeg) 0) s0 ((17 : Int32).toNatClampNeg) 0) s0 ((18 : Int32).toNatClampNeg) 0) s0 ((19 : Int32).toNatClampNeg) 0) s0 ((20 : Int32).toNatClampNeg) 0) s0 ((21 : Int32).toNatClampNeg) 0) s0 ((22 : Int32).toNatClampNeg) 0) s0 ((23 : Int32).toNatClampNeg) 0))
  refine am_dup dX10_init_564 rfl ?_
  refine am_bipush (x := 16) dX10_init_565 (by decide) ?_
  refine am_iconst dX10_init_567 am_kc_0 ?_
  refine am_iast dX10_init_568 h_s0 (fun b105 => ?_)
  refine am_dup dX10_init_569 rfl ?_
  refine am_bipush (x := 17) dX10_init_570 (by decide) ?_
  refine am_iconst dX10_init_572 am_kc_0 ?_
  refine am_iast dX10_init_573 (am_sh.of h_s0 rfl) (fun b106 => ?_)
  refine am_dup dX10_init_574 rfl ?_
  refine am_bipush (x := 18) dX10_init_575 (by decide) ?_
  refine am_iconst dX10_init_577 am_kc_0 ?_
  refine am_iast dX10_init_578 (am_sh.of h_s0 rfl) (fun b107 => ?_)
  refine am_dup dX10_init_579 rfl ?_
  refine am_bipush (x := 19) dX10_init_580 (by decide) ?_
  refine am_iconst dX10_init_582 am_kc_0 ?_
  refine am_iast dX10_init_583 (am_sh.of h_s0 rfl) (fun b108 => ?_)
  refine am_dup dX10_init_584 rfl ?_
  refine am_bipush (x := 20) dX10_init_585 (by decide) ?_
  refine am_iconst dX10_init_587 am_kc_0 ?_
  refine am_iast dX10_init_588 (am_sh.of h_s0 rfl) (fun b109 => ?_)
  refine am_dup dX10_init_589 rfl ?_
  refine am_bipush (x := 21) dX10_init_590 (by decide) ?_
  refine am_iconst dX10_init_592 am_kc_0 ?_
  refine am_iast dX10_init_593 (am_sh.of h_s0 rfl) (fun b110 => ?_)
  refine am_dup dX10_init_594 rfl ?_
  refine am_bipush (x := 22) dX10_init_595 (by decide) ?_
  refine am_iconst dX10_init_597 am_kc_0 ?_
  refine am_iast dX10_init_598 (am_sh.of h_s0 rfl) (fun b111 => ?_)
  refine am_dup dX10_init_599 rfl ?_
  refine am_bipush (x := 23) dX10_init_600 (by decide) ?_
  refine am_iconst dX10_init_602 am_kc_0 ?_
  refine am_iast dX10_init_603 (am_sh.of h_s0 rfl) (fun b112 => ?_)
  exact sX10_init_604 G x0 s0 s1 (am_pI (am_pI (am_pI (am_pI (am_pI (am_pI (am_pI (am_pI M s0 ((16 : Int32).toNatClampNeg) 0) s0 ((17 : Int32).toNatClampNeg) 0) s0 ((18 : Int32).toNatClampNeg) 0) s0 ((19 : Int32).toNatClampNeg) 0) s0 ((20 : Int32).toNatClampNeg) 0) s0 ((21 : Int32).toNatClampNeg) 0) s0 ((22 : Int32).toNatClampNeg) 0) s0 ((23 : Int32).toNatClampNeg) 0) (am_sh.of h_x0 rfl) (am_sh.of h_s0 rfl) (am_sh.of h_s1 rfl)
set_option maxRecDepth 100000 in
set_option maxHeartbeats 4000000 in
theorem sX10_init_524 (G : am_G) (x0 : Nat) (s0 : Nat) (s1 : Nat) (M : am_M) (h_x0 : am_sh M x0 14) (h_s0 : am_sh M s0 0) (h_s1 : am_sh M s1 14) : am_S am_ev G 1 yX10_init.cls yX10_init.name cX10_init 1 none 524 [(0, .ref x0)] [.ref s0, .ref s1] M (fX10_init_524 x0 s0 s1 M) := by
  show am_S am_ev G 1 yX10_init.cls yX10_init.name cX10_init 1 none 524 [(0, .ref x0)] [.ref s0, .ref s1] M (if (8 : Int32) < 0 ∨ am_len M s0 ≤ (8 : Int32).toNatClampNeg then none else if (9 : Int32) < 0 ∨ am_len (am_pI M s0 ((8 : Int32).toNatClampNeg) 0) s0 ≤ (9 : Int32).toNatClampNeg then none else if (10 : Int32) < 0 ∨ am_len (am_pI (am_pI M s0 ((8 : Int32).toNatClampNeg) 0) s0 ((9 : Int32).toNatClampNeg) 0) s0 ≤ (10 : Int32).toNatClampNeg then none else if (11 : Int32) < 0 ∨ am_len (am_pI (am_pI (am_pI M s0 ((8 : Int32).toNatClampNeg) 0) s0 ((9 : Int32).toNatClampNeg) 0) s0 ((10 : Int32).toNatClampNeg) 0) s0 ≤ (11 : Int32).toNatClampNeg then none else if (12 : Int32) < 0 ∨ am_len (am_pI (am_pI (am_pI (am_pI M s0 ((8 : Int32).toNatClampNeg) 0) s0 ((9 : Int32).toNatClampNeg) 0) s0 ((10 : Int32).toNatClampNeg) 0) s0 ((11 : Int32).toNatClampNeg) 0) s0 ≤ (12 : Int32).toNatClampNeg then none else if (13 : Int32) < 0 ∨ am_len (am_pI (am_pI (am_pI (am_pI (am_pI M s0 ((8 : Int32).toNatClampNeg) 0) s0 ((9 : Int32).toNatClampNeg) 0) s0 ((10 : Int32).toNatClampNeg) 0) s0 ((11 : Int32).toNatClampNeg) 0) s0 ((12 : Int32).toNatClampNeg) 0) s0 ≤ (13 : Int32).toNatClampNeg then none else if (14 : Int32) < 0 ∨ am_len (am_pI (am_pI (am_pI (am_pI (am_pI (am_pI M s0 ((8 : Int32).toNatClampNeg) 0) s0 ((9 : Int32).toNatClampNeg) 0) s0 ((10 : Int32).toNatClampNeg) 0) s0 ((11 : Int32).toNatClampNeg) 0) s0 ((12 : Int32).toNatClampNeg) 0) s0 ((13 : Int32).toNatClampNeg) 0) s0 ≤ (14 : Int32).toNatClampNeg then none else if (15 : Int32) < 0 ∨ am_len (am_pI (am_pI (am_pI (am_pI (am_pI (am_pI (am_pI M s0 ((8 : Int32).toNatClampNeg) 0) s0 ((9 : Int32).toNatClampNeg) 0) s0 ((10 : Int32).toNatClampNeg) 0) s0 ((11 : Int32).toNatClampNeg) 0) s0 ((12 : Int32).toNatClampNeg) 0) s0 ((13 : Int32).toNatClampNeg) 0) s0 ((14 : Int32).toNatClampNeg) 0) s0 ≤ (15 : Int32).toNatClampNeg then none else fX10_init_564 x0 s0 s1 (am_pI (am_pI (am_pI (am_pI (am_pI (am_pI (am_pI (am_pI M s0 ((8 : Int32).toNatClampNeg) 0) s0 ((9 : Int32).toNatClampNeg) 0) s0 ((10 : Int32).toNatClampNeg) 0) s0 ((11 : Int32).toNatClampNeg) 0) s0 ((12 : Int32).toNatClampNeg) 0) s0 ((13 : Int32).toNatClampNeg) 0) s0 ((14 : Int32).toNatClampNeg) 0) s0 ((15 : Int32).toNatClampNeg) 0))
  refine am_dup dX10_init_524 rfl ?_
  refine am_bipush (x := 8) dX10_init_525 (by decide) ?_
  refine am_iconst dX10_init_527 am_kc_0 ?_
  refine am_iast dX10_init_528 h_s0 (fun b97 => ?_)
  refine am_dup dX10_init_529 rfl ?_
  refine am_bipush (x := 9) dX10_init_530 (by decide) ?_
  refine am_iconst dX10_init_532 am_kc_0 ?_
  refine am_iast dX10_init_533 (am_sh.of h_s0 rfl) (fun b98 => ?_)
  refine am_dup dX10_init_534 rfl ?_
  refine am_bipush (x := 10) dX10_init_535 (by decide) ?_
  refine am_iconst dX10_init_537 am_kc_0 ?_
  refine am_iast dX10_init_538 (am_sh.of h_s0 rfl) (fun b99 => ?_)
  refine am_dup dX10_init_539 rfl ?_
  refine am_bipush (x := 11) dX10_init_540 (by decide) ?_
  refine am_iconst dX10_init_542 am_kc_0 ?_
  refine am_iast dX10_init_543 (am_sh.of h_s0 rfl) (fun b100 => ?_)
  refine am_dup dX10_init_544 rfl ?_
  refine am_bipush (x := 12) dX10_init_545 (by decide) ?_
  refine am_iconst dX10_init_547 am_kc_0 ?_
  refine am_iast dX10_init_548 (am_sh.of h_s0 rfl) (fun b101 => ?_)
  refine am_dup dX10_init_549 rfl ?_
  refine am_bipush (x := 13) dX10_init_550 (by decide) ?_
  refine am_iconst dX10_init_552 am_kc_0 ?_
  refine am_iast dX10_init_553 (am_sh.of h_s0 rfl) (fun b102 => ?_)
  refine am_dup dX10_init_554 rfl ?_
  refine am_bipush (x := 14) dX10_init_555 (by decide) ?_
  refine am_iconst dX10_init_557 am_kc_0 ?_
  refine am_iast dX10_init_558 (am_sh.of h_s0 rfl) (fun b103 => ?_)
  refine am_dup dX10_init_559 rfl ?_
  refine am_bipush (x := 15) dX10_init_560 (by decide) ?_
  refine am_iconst dX10_init_562 am_kc_0 ?_
  refine am_iast dX10_init_563 (am_sh.of h_s0 rfl) (fun b104 => ?_)
  exact sX10_init_564 G x0 s0 s1 (am_pI (am_pI (am_pI (am_pI (am_pI (am_pI (am_pI (am_pI M s0 ((8 : Int32).toNatClampNeg) 0) s0 ((9 : Int32).toNatClampNeg) 0) s0 ((10 : Int32).toNatClampNeg) 0) s0 ((11 : Int32).toNatClampNeg) 0) s0 ((12 : Int32).toNatClampNeg) 0) s0 ((13 : Int32).toNatClampNeg) 0) s0 ((14 : Int32).toNatClampNeg) 0) s0 ((15 : Int32).toNatClampNeg) 0) (am_sh.of h_x0 rfl) (am_sh.of h_s0 rfl) (am_sh.of h_s1 rfl)
set_option maxRecDepth 100000 in
set_option maxHeartbeats 4000000 in
theorem sX10_init_487 (G : am_G) (x0 : Nat) (s0 : Nat) (s1 : Nat) (M : am_M) (h_x0 : am_sh M x0 14) (h_s0 : am_sh M s0 0) (h_s1 : am_sh M s1 14) : am_S am_ev G 1 yX10_init.cls yX10_init.name cX10_init 1 none 487 [(0, .ref x0)] [.ref s0, .ref s1] M (fX10_init_487 x0 s0 s1 M) := by
  show am_S am_ev G 1 yX10_init.cls yX10_init.name cX10_init 1 none 487 [(0, .ref x0)] [.ref s0, .ref s1] M (if (0 : Int32) < 0 ∨ am_len M s0 ≤ (0 : Int32).toNatClampNeg then none else if (1 : Int32) < 0 ∨ am_len (am_pI M s0 ((0 : Int32).toNatClampNeg) 3) s0 ≤ (1 : Int32).toNatClampNeg then none else if (2 : Int32) < 0 ∨ am_len (am_pI (am_pI M s0 ((0 : Int32).toNatClampNeg) 3) s0 ((1 : Int32).toNatClampNeg) 10) s0 ≤ (2 : Int32).toNatClampNeg then none else if (3 : Int32) < 0 ∨ am_len (am_pI (am_pI (am_pI M s0 ((0 : Int32).toNatClampNeg) 3) s0 ((1 : Int32).toNatClampNeg) 10) s0 ((2 : Int32).toNatClampNeg) 6) s0 ≤ (3 : Int32).toNatClampNeg then none else if (4 : Int32) < 0 ∨ am_len (am_pI (am_pI (am_pI (am_pI M s0 ((0 : Int32).toNatClampNeg) 3) s0 ((1 : Int32).toNatClampNeg) 10) s0 ((2 : Int32).toNatClampNeg) 6) s0 ((3 : Int32).toNatClampNeg) 15) s0 ≤ (4 : Int32).toNatClampNeg then none else if (5 : Int32) < 0 ∨ am_len (am_pI (am_pI (am_pI (am_pI (am_pI M s0 ((0 : Int32).toNatClampNeg) 3) s0 ((1 : Int32).toNatClampNeg) 10) s0 ((2 : Int32).toNatClampNeg) 6) s0 ((3 : Int32).toNatClampNeg) 15) s0 ((4 : Int32).toNatClampNeg) 4) s0 ≤ (5 : Int32).toNatClampNeg then none else if (6 : Int32) < 0 ∨ am_len (am_pI (am_pI (am_pI (am_pI (am_pI (am_pI M s0 ((0 : Int32).toNatClampNeg) 3) s0 ((1 : Int32).toNatClampNeg) 10) s0 ((2 : Int32).toNatClampNeg) 6) s0 ((3 : Int32).toNatClampNeg) 15) s0 ((4 : Int32).toNatClampNeg) 4) s0 ((5 : Int32).toNatClampNeg) 3) s0 ≤ (6 : Int32).toNatClampNeg then none else if (7 : Int32) < 0 ∨ am_len (am_pI (am_pI (am_pI (am_pI (am_pI (am_pI (am_pI M s0 ((0 : Int32).toNatClampNeg) 3) s0 ((1 : Int32).toNatClampNeg) 10) s0 ((2 : Int32).toNatClampNeg) 6) s0 ((3 : Int32).toNatClampNeg) 15) s0 ((4 : Int32).toNatClampNeg) 4) s0 ((5 : Int32).toNatClampNeg) 3) s0 ((6 : Int32).toNatClampNeg) 0) s0 ≤ (7 : Int32).toNatClampNeg then none else fX10_init_524 x0 s0 s1 (am_pI (am_pI (am_pI (am_pI (am_pI (am_pI (am_pI (am_pI M s0 ((0 : Int32).toNatClampNeg) 3) s0 ((1 : Int32).toNatClampNeg) 10) s0 ((2 : Int32).toNatClampNeg) 6) s0 ((3 : Int32).toNatClampNeg) 15) s0 ((4 : Int32).toNatClampNeg) 4) s0 ((5 : Int32).toNatClampNeg) 3) s0 ((6 : Int32).toNatClampNeg) 0) s0 ((7 : Int32).toNatClampNeg) 0))
  refine am_dup dX10_init_487 rfl ?_
  refine am_iconst dX10_init_488 am_kc_0 ?_
  refine am_iconst dX10_init_489 am_kc_3 ?_
  refine am_iast dX10_init_490 h_s0 (fun b89 => ?_)
  refine am_dup dX10_init_491 rfl ?_
  refine am_iconst dX10_init_492 am_kc_1 ?_
  refine am_bipush (x := 10) dX10_init_493 (by decide) ?_
  refine am_iast dX10_init_495 (am_sh.of h_s0 rfl) (fun b90 => ?_)
  refine am_dup dX10_init_496 rfl ?_
  refine am_iconst dX10_init_497 am_kc_2 ?_
  refine am_bipush (x := 6) dX10_init_498 (by decide) ?_
  refine am_iast dX10_init_500 (am_sh.of h_s0 rfl) (fun b91 => ?_)
  refine am_dup dX10_init_501 rfl ?_
  refine am_iconst dX10_init_502 am_kc_3 ?_
  refine am_bipush (x := 15) dX10_init_503 (by decide) ?_
  refine am_iast dX10_init_505 (am_sh.of h_s0 rfl) (fun b92 => ?_)
  refine am_dup dX10_init_506 rfl ?_
  refine am_iconst dX10_init_507 am_kc_4 ?_
  refine am_iconst dX10_init_508 am_kc_4 ?_
  refine am_iast dX10_init_509 (am_sh.of h_s0 rfl) (fun b93 => ?_)
  refine am_dup dX10_init_510 rfl ?_
  refine am_iconst dX10_init_511 am_kc_5 ?_
  refine am_iconst dX10_init_512 am_kc_3 ?_
  refine am_iast dX10_init_513 (am_sh.of h_s0 rfl) (fun b94 => ?_)
  refine am_dup dX10_init_514 rfl ?_
  refine am_bipush (x := 6) dX10_init_515 (by decide) ?_
  refine am_iconst dX10_init_517 am_kc_0 ?_
  refine am_iast dX10_init_518 (am_sh.of h_s0 rfl) (fun b95 => ?_)
  refine am_dup dX10_init_519 rfl ?_
  refine am_bipush (x := 7) dX10_init_520 (by decide) ?_
  refine am_iconst dX10_init_522 am_kc_0 ?_
  refine am_iast dX10_init_523 (am_sh.of h_s0 rfl) (fun b96 => ?_)
  exact sX10_init_524 G x0 s0 s1 (am_pI (am_pI (am_pI (am_pI (am_pI (am_pI (am_pI (am_pI M s0 ((0 : Int32).toNatClampNeg) 3) s0 ((1 : Int32).toNatClampNeg) 10) s0 ((2 : Int32).toNatClampNeg) 6) s0 ((3 : Int32).toNatClampNeg) 15) s0 ((4 : Int32).toNatClampNeg) 4) s0 ((5 : Int32).toNatClampNeg) 3) s0 ((6 : Int32).toNatClampNeg) 0) s0 ((7 : Int32).toNatClampNeg) 0) (am_sh.of h_x0 rfl) (am_sh.of h_s0 rfl) (am_sh.of h_s1 rfl)
set_option maxRecDepth 100000 in
set_option maxHeartbeats 4000000 in
theorem sX10_init_479 (G : am_G) (x0 : Nat) (s0 : Nat) (s1 : Nat) (M : am_M) (h_x0 : am_sh M x0 14) (h_s0 : am_sh M s0 0) (h_s1 : am_sh M s1 14) : am_S am_ev G 1 yX10_init.cls yX10_init.name cX10_init 1 none 479 [(0, .ref x0)] [.ref s0, .ref s1] M (fX10_init_479 x0 s0 s1 M) := by
  show am_S am_ev G 1 yX10_init.cls yX10_init.name cX10_init 1 none 479 [(0, .ref x0)] [.ref s0, .ref s1] M (fX10_init_487 x0 (am_n (am_pR M s1 7 (some s0))) x0 (am_new (am_pR M s1 7 (some s0)) 0 40))
  refine am_putFR 9 dX10_init_479 fl_RX10_29 h_s1 rfl h_s0 rfl rfl rfl ?_
  refine am_aload_n 0 dX10_init_482 rfl rfl ?_
  refine am_bipush (x := 40) dX10_init_483 (by decide) ?_
  refine am_newaI 40 dX10_init_485 ac_int (by decide) (by decide) (by decide) ?_
  exact sX10_init_487 G x0 (am_n (am_pR M s1 7 (some s0))) x0 (am_new (am_pR M s1 7 (some s0)) 0 40) (am_sh.mono (am_le_new _ _ _) (am_sh.of h_x0 rfl)) (am_sh_new _ _ _) (am_sh.mono (am_le_new _ _ _) (am_sh.of h_x0 rfl))
set_option maxRecDepth 100000 in
set_option maxHeartbeats 4000000 in
theorem sX10_init_439 (G : am_G) (x0 : Nat) (s0 : Nat) (s1 : Nat) (M : am_M) (h_x0 : am_sh M x0 14) (h_s0 : am_sh M s0 0) (h_s1 : am_sh M s1 14) : am_S am_ev G 1 yX10_init.cls yX10_init.name cX10_init 1 none 439 [(0, .ref x0)] [.ref s0, .ref s1] M (fX10_init_439 x0 s0 s1 M) := by
  show am_S am_ev G 1 yX10_init.cls yX10_init.name cX10_init 1 none 439 [(0, .ref x0)] [.ref s0, .ref s1] M (if (32 : Int32) < 0 ∨ am_len M s0 ≤ (32 : Int32).toNatClampNeg then none else if (33 : Int32) < 0 ∨ am_len (am_pI M s0 ((32 : Int32).toNatClampNeg) 0) s0 ≤ (33 : Int32).toNatClampNeg then none else if (34 : Int32) < 0 ∨ am_len (am_pI (am_pI M s0 ((32 : Int32).toNatClampNeg) 0) s0 ((33 : Int32).toNatClampNeg) 0) s0 ≤ (34 : Int32).toNatClampNeg then none else if (35 : Int32) < 0 ∨ am_len (am_pI (am_pI (am_pI M s0 ((32 : Int32).toNatClampNeg) 0) s0 ((33 : Int32).toNatClampNeg) 0) s0 ((34 : Int32).toNatClampNeg) 0) s0 ≤ (35 : Int32).toNatClampNeg then none else if (36 : Int32) < 0 ∨ am_len (am_pI (am_pI (am_pI (am_pI M s0 ((32 : Int32).toNatClampNeg) 0) s0 ((33 : Int32).toNatClampNeg) 0) s0 ((34 : Int32).toNatClampNeg) 0) s0 ((35 : Int32).toNatClampNeg) 0) s0 ≤ (36 : Int32).toNatClampNeg then none else if (37 : Int32) < 0 ∨ am_len (am_pI (am_pI (am_pI (am_pI (am_pI M s0 ((32 : Int32).toNatClampNeg) 0) s0 ((33 : Int32).toNatClampNeg) 0) s0 ((34 : Int32).toNatClampNeg) 0) s0 ((35 : Int32).toNatClampNeg) 0) s0 ((36 : Int32).toNatClampNeg) 0) s0 ≤ (37 : Int32).toNatClampNeg then none else if (38 : Int32) < 0 ∨ am_len (am_pI (am_pI (am_pI (am_pI (am_pI (am_pI M s0 ((32 : Int32).toNatClampNeg) 0) s0 ((33 : Int32).toNatClampNeg) 0) s0 ((34 : Int32).toNatClampNeg) 0) s0 ((35 : Int32).toNatClampNeg) 0) s0 ((36 : Int32).toNatClampNeg) 0) s0 ((37 : Int32).toNatClampNeg) 0) s0 ≤ (38 : Int32).toNatClampNeg then none else if (39 : Int32) < 0 ∨ am_len (am_pI (am_pI (am_pI (am_pI (am_pI (am_pI (am_pI M s0 ((32 : Int32).toNatClampNeg) 0) s0 ((33 : Int32).toNatClampNeg) 0) s0 ((34 : Int32).toNatClampNeg) 0) s0 ((35 : Int32).toNatClampNeg) 0) s0 ((36 : Int32).toNatClampNeg) 0) s0 ((37 : Int32).toNatClampNeg) 0) s0 ((38 : Int32).toNatClampNeg) 0) s0 ≤ (39 : Int32).toNatClampNeg then none else fX10_init_479 x0 s0 s1 (am_pI (am_pI (am_pI (am_pI (am_pI (am_pI (am_pI (am_pI M s0 ((32 : Int32).toNatClampNeg) 0) s0 ((33 : Int32).toNatClampNeg) 0) s0 ((34 : Int32).toNatClampNeg) 0) s0 ((35 : Int32).toNatClampNeg) 0) s0 ((36 : Int32).toNatClampNeg) 0) s0 ((37 : Int32).toNatClampNeg) 0) s0 ((38 : Int32).toNatClampNeg) 0) s0 ((39 : Int32).toNatClampNeg) 0))
  refine am_dup dX10_init_439 rfl ?_
  refine am_bipush (x := 32) dX10_init_440 (by decide) ?_
  refine am_iconst dX10_init_442 am_kc_0 ?_
  refine am_iast dX10_init_443 h_s0 (fun b81 => ?_)
  refine am_dup dX10_init_444 rfl ?_
  refine am_bipush (x := 33) dX10_init_445 (by decide) ?_
  refine am_iconst dX10_init_447 am_kc_0 ?_
  refine am_iast dX10_init_448 (am_sh.of h_s0 rfl) (fun b82 => ?_)
  refine am_dup dX10_init_449 rfl ?_
  refine am_bipush (x := 34) dX10_init_450 (by decide) ?_
  refine am_iconst dX10_init_452 am_kc_0 ?_
  refine am_iast dX10_init_453 (am_sh.of h_s0 rfl) (fun b83 => ?_)
  refine am_dup dX10_init_454 rfl ?_
  refine am_bipush (x := 35) dX10_init_455 (by decide) ?_
  refine am_iconst dX10_init_457 am_kc_0 ?_
  refine am_iast dX10_init_458 (am_sh.of h_s0 rfl) (fun b84 => ?_)
  refine am_dup dX10_init_459 rfl ?_
  refine am_bipush (x := 36) dX10_init_460 (by decide) ?_
  refine am_iconst dX10_init_462 am_kc_0 ?_
  refine am_iast dX10_init_463 (am_sh.of h_s0 rfl) (fun b85 => ?_)
  refine am_dup dX10_init_464 rfl ?_
  refine am_bipush (x := 37) dX10_init_465 (by decide) ?_
  refine am_iconst dX10_init_467 am_kc_0 ?_
  refine am_iast dX10_init_468 (am_sh.of h_s0 rfl) (fun b86 => ?_)
  refine am_dup dX10_init_469 rfl ?_
  refine am_bipush (x := 38) dX10_init_470 (by decide) ?_
  refine am_iconst dX10_init_472 am_kc_0 ?_
  refine am_iast dX10_init_473 (am_sh.of h_s0 rfl) (fun b87 => ?_)
  refine am_dup dX10_init_474 rfl ?_
  refine am_bipush (x := 39) dX10_init_475 (by decide) ?_
  refine am_iconst dX10_init_477 am_kc_0 ?_
  refine am_iast dX10_init_478 (am_sh.of h_s0 rfl) (fun b88 => ?_)
  exact sX10_init_479 G x0 s0 s1 (am_pI (am_pI (am_pI (am_pI (am_pI (am_pI (am_pI (am_pI M s0 ((32 : Int32).toNatClampNeg) 0) s0 ((33 : Int32).toNatClampNeg) 0) s0 ((34 : Int32).toNatClampNeg) 0) s0 ((35 : Int32).toNatClampNeg) 0) s0 ((36 : Int32).toNatClampNeg) 0) s0 ((37 : Int32).toNatClampNeg) 0) s0 ((38 : Int32).toNatClampNeg) 0) s0 ((39 : Int32).toNatClampNeg) 0) (am_sh.of h_x0 rfl) (am_sh.of h_s0 rfl) (am_sh.of h_s1 rfl)
set_option maxRecDepth 100000 in
set_option maxHeartbeats 4000000 in
theorem sX10_init_399 (G : am_G) (x0 : Nat) (s0 : Nat) (s1 : Nat) (M : am_M) (h_x0 : am_sh M x0 14) (h_s0 : am_sh M s0 0) (h_s1 : am_sh M s1 14) : am_S am_ev G 1 yX10_init.cls yX10_init.name cX10_init 1 none 399 [(0, .ref x0)] [.ref s0, .ref s1] M (fX10_init_399 x0 s0 s1 M) := by
  show am_S am_ev G 1 yX10_init.cls yX10_init.name cX10_init 1 none 399 [(0, .ref x0)] [.ref s0, .ref s1] M (if (24 : Int32) < 0 ∨ am_len M s0 ≤ (24 : Int32).toNatClampNeg then none else if (25 : Int32) < 0 ∨ am_len (am_pI M s0 ((24 : Int32).toNatClampNeg) 0) s0 ≤ (25 : Int32).toNatClampNeg then none else if (26 : Int32) < 0 ∨ am_len (am_pI (am_pI M s0 ((24 : Int32).toNatClampNeg) 0) s0 ((25 : Int32).toNatClampNeg) 0) s0 ≤ (26 : Int32).toNatClampNeg then none else if (27 : Int32) < 0 ∨ am_len (am_pI (am_pI (am_pI M s0 ((24 : Int32).toNatClampNeg) 0) s0 ((25 : Int32).toNatClampNeg) 0) s0 ((26 : Int32).toNatClampNeg) 0) s0 ≤ (27 : Int32).toNatClampNeg then none else if (28 : Int32) < 0 ∨ am_len (am_pI (am_pI (am_pI (am_pI M s0 ((24 : Int32).toNatClampNeg) 0) s0 ((25 : Int32).toNatClampNeg) 0) s0 ((26 : Int32).toNatClampNeg) 0) s0 ((27 : Int32).toNatClampNeg) 0) s0 ≤ (28 : Int32).toNatClampNeg then none else if (29 : Int32) < 0 ∨ am_len (am_pI (am_pI (am_pI (am_pI (am_pI M s0 ((24 : Int32).toNatClampNeg) 0) s0 ((25 : Int32).toNatClampNeg) 0) s0 ((26 : Int32).toNatClampNeg) 0) s0 ((27 : Int32).toNatClampNeg) 0) s0 ((28 : Int32).toNatClampNeg) 0) s0 ≤ (29 : Int32).toNatClampNeg then none else if (30 : Int32) < 0 ∨ am_len (am_pI (am_pI (am_pI (am_pI (am_pI (am_pI M s0 ((24 : Int32).toNatClampNeg) 0) s0 ((25 : Int32).toNatClampNeg) 0) s0 ((26 : Int32).toNatClampNeg) 0) s0 ((27 : Int32).toNatClampNeg) 0) s0 ((28 : Int32).toNatClampNeg) 0) s0 ((29 : Int32).toNatClampNeg) 0) s0 ≤ (30 : Int32).toNatClampNeg then none else if (31 : Int32) < 0 ∨ am_len (am_pI (am_pI (am_pI (am_pI (am_pI (am_pI (am_pI M s0 ((24 : Int32).toNatClampNeg) 0) s0 ((25 : Int32).toNatClampNeg) 0) s0 ((26 : Int32).toNatClampNeg) 0) s0 ((27 : Int32).toNatClampNeg) 0) s0 ((28 : Int32).toNatClampNeg) 0) s0 ((29 : Int32).toNatClampNeg) 0) s0 ((30 : Int32).toNatClampNeg) 0) s0 ≤ (31 : Int32).toNatClampNeg then none else fX10_init_439 x0 s0 s1 (am_pI (am_pI (am_pI (am_pI (am_pI (am_pI (am_pI (am_pI M s0 ((24 : Int32).toNatClampNeg) 0) s0 ((25 : Int32).toNatClampNeg) 0) s0 ((26 : Int32).toNatClampNeg) 0) s0 ((27 : Int32).toNatClampNeg) 0) s0 ((28 : Int32).toNatClampNeg) 0) s0 ((29 : Int32).toNatClampNeg) 0) s0 ((30 : Int32).toNatClampNeg) 0) s0 ((31 : Int32).toNatClampNeg) 0))
  refine am_dup dX10_init_399 rfl ?_
  refine am_bipush (x := 24) dX10_init_400 (by decide) ?_
  refine am_iconst dX10_init_402 am_kc_0 ?_
  refine am_iast dX10_init_403 h_s0 (fun b73 => ?_)
  refine am_dup dX10_init_404 rfl ?_
  refine am_bipush (x := 25) dX10_init_405 (by decide) ?_
  refine am_iconst dX10_init_407 am_kc_0 ?_
  refine am_iast dX10_init_408 (am_sh.of h_s0 rfl) (fun b74 => ?_)
  refine am_dup dX10_init_409 rfl ?_
  refine am_bipush (x := 26) dX10_init_410 (by decide) ?_
  refine am_iconst dX10_init_412 am_kc_0 ?_
  refine am_iast dX10_init_413 (am_sh.of h_s0 rfl) (fun b75 => ?_)
  refine am_dup dX10_init_414 rfl ?_
  refine am_bipush (x := 27) dX10_init_415 (by decide) ?_
  refine am_iconst dX10_init_417 am_kc_0 ?_
  refine am_iast dX10_init_418 (am_sh.of h_s0 rfl) (fun b76 => ?_)
  refine am_dup dX10_init_419 rfl ?_
  refine am_bipush (x := 28) dX10_init_420 (by decide) ?_
  refine am_iconst dX10_init_422 am_kc_0 ?_
  refine am_iast dX10_init_423 (am_sh.of h_s0 rfl) (fun b77 => ?_)
  refine am_dup dX10_init_424 rfl ?_
  refine am_bipush (x := 29) dX10_init_425 (by decide) ?_
  refine am_iconst dX10_init_427 am_kc_0 ?_
  refine am_iast dX10_init_428 (am_sh.of h_s0 rfl) (fun b78 => ?_)
  refine am_dup dX10_init_429 rfl ?_
  refine am_bipush (x := 30) dX10_init_430 (by decide) ?_
  refine am_iconst dX10_init_432 am_kc_0 ?_
  refine am_iast dX10_init_433 (am_sh.of h_s0 rfl) (fun b79 => ?_)
  refine am_dup dX10_init_434 rfl ?_
  refine am_bipush (x := 31) dX10_init_435 (by decide) ?_
  refine am_iconst dX10_init_437 am_kc_0 ?_
  refine am_iast dX10_init_438 (am_sh.of h_s0 rfl) (fun b80 => ?_)
  exact sX10_init_439 G x0 s0 s1 (am_pI (am_pI (am_pI (am_pI (am_pI (am_pI (am_pI (am_pI M s0 ((24 : Int32).toNatClampNeg) 0) s0 ((25 : Int32).toNatClampNeg) 0) s0 ((26 : Int32).toNatClampNeg) 0) s0 ((27 : Int32).toNatClampNeg) 0) s0 ((28 : Int32).toNatClampNeg) 0) s0 ((29 : Int32).toNatClampNeg) 0) s0 ((30 : Int32).toNatClampNeg) 0) s0 ((31 : Int32).toNatClampNeg) 0) (am_sh.of h_x0 rfl) (am_sh.of h_s0 rfl) (am_sh.of h_s1 rfl)
set_option maxRecDepth 100000 in
set_option maxHeartbeats 4000000 in
theorem sX10_init_359 (G : am_G) (x0 : Nat) (s0 : Nat) (s1 : Nat) (M : am_M) (h_x0 : am_sh M x0 14) (h_s0 : am_sh M s0 0) (h_s1 : am_sh M s1 14) : am_S am_ev G 1 yX10_init.cls yX10_init.name cX10_init 1 none 359 [(0, .ref x0)] [.ref s0, .ref s1] M (fX10_init_359 x0 s0 s1 M) := by
  show am_S am_ev G 1 yX10_init.cls yX10_init.name cX10_init 1 none 359 [(0, .ref x0)] [.ref s0, .ref s1] M (if (16 : Int32) < 0 ∨ am_len M s0 ≤ (16 : Int32).toNatClampNeg then none else if (17 : Int32) < 0 ∨ am_len (am_pI M s0 ((16 : Int32).toNatClampNeg) 0) s0 ≤ (17 : Int32).toNatClampNeg then none else if (18 : Int32) < 0 ∨ am_len (am_pI (am_pI M s0 ((16 : Int32).toNatClampNeg) 0) s0 ((17 : Int32).toNatClampNeg) 0) s0 ≤ (18 : Int32).toNatClampNeg then none else if (19 : Int32) < 0 ∨ am_len (am_pI (am_pI (am_pI M s0 ((16 : Int32).toNatClampNeg) 0) s0 ((17 : Int32).toNatClampNeg) 0) s0 ((18 : Int32).toNatClampNeg) 0) s0 ≤ (19 : Int32).toNatClampNeg then none else if (20 : Int32) < 0 ∨ am_len (am_pI (am_pI (am_pI (am_pI M s0 ((16 : Int32).toNatClampNeg) 0) s0 ((17 : Int32).toNatClampNeg) 0) s0 ((18 : Int32).toNatClampNeg) 0) s0 ((19 : Int32).toNatClampNeg) 0) s0 ≤ (20 : Int32).toNatClampNeg then none else if (21 : Int32) < 0 ∨ am_len (am_pI (am_pI (am_pI (am_pI (am_pI M s0 ((16 : Int32).toNatClampNeg) 0) s0 ((17 : Int32).toNatClampNeg) 0) s0 ((18 : Int32).toNatClampNeg) 0) s0 ((19 : Int32).toNatClampNeg) 0) s0 ((20 : Int32).toNatClampNeg) 0) s0 ≤ (21 : Int32).toNatClampNeg then none else if (22 : Int32) < 0 ∨ am_len (am_pI (am_pI (am_pI (am_pI (am_pI (am_pI M s0 ((16 : Int32).toNatClampNeg) 0) s0 ((17 : Int32).toNatClampNeg) 0) s0 ((18 : Int32).toNatClampNeg) 0) s0 ((19 : Int32).toNatClampNeg) 0) s0 ((20 : Int32).toNatClampNeg) 0) s0 ((21 : Int32).toNatClampNeg) 0) s0 ≤ (22 : Int32).toNatClampNeg then none else if (23 : Int32) < 0 ∨ am_len (am_pI (am_pI (am_pI (am_pI (am_pI (am_pI (am_pI M s0 ((16 : Int32).toNatClampNeg) 0) s0 ((17 : Int32).toNatClampNeg) 0) s0 ((18 : Int32).toNatClampNeg) 0) s0 ((19 : Int32).toNatClampNeg) 0) s0 ((20 : Int32).toNatClampNeg) 0) s0 ((21 : Int32).toNatClampNeg) 0) s0 ((22 : Int32).toNatClampNeg) 0) s0 ≤ (23 : Int32).toNatClampNeg then none else fX10_init_399 x0 s0 s1 (am_pI (am_pI (am_pI (am_pI (am_pI (am_pI (am_pI (am_pI M s0 ((16 : Int32).toNatClampNeg) 0) s0 ((17 : Int32).toNatClampNeg) 0) s0 ((18 : Int32).toNatClampNeg) 0) s0 ((19 : Int32).toNatClampNeg) 0) s0 ((20 : Int32).toNatClampNeg) 0) s0 ((21 : Int32).toNatClampNeg) 0) s0 ((22 : Int32).toNatClampNeg) 0) s0 ((23 : Int32).toNatClampNeg) 0))
  refine am_dup dX10_init_359 rfl ?_
  refine am_bipush (x := 16) dX10_init_360 (by decide) ?_
  refine am_iconst dX10_init_362 am_kc_0 ?_
  refine am_iast dX10_init_363 h_s0 (fun b65 => ?_)
  refine am_dup dX10_init_364 rfl ?_
  refine am_bipush (x := 17) dX10_init_365 (by decide) ?_
  refine am_iconst dX10_init_367 am_kc_0 ?_
  refine am_iast dX10_init_368 (am_sh.of h_s0 rfl) (fun b66 => ?_)
  refine am_dup dX10_init_369 rfl ?_
  refine am_bipush (x := 18) dX10_init_370 (by decide) ?_
  refine am_iconst dX10_init_372 am_kc_0 ?_
  refine am_iast dX10_init_373 (am_sh.of h_s0 rfl) (fun b67 => ?_)
  refine am_dup dX10_init_374 rfl ?_
  refine am_bipush (x := 19) dX10_init_375 (by decide) ?_
  refine am_iconst dX10_init_377 am_kc_0 ?_
  refine am_iast dX10_init_378 (am_sh.of h_s0 rfl) (fun b68 => ?_)
  refine am_dup dX10_init_379 rfl ?_
  refine am_bipush (x := 20) dX10_init_380 (by decide) ?_
  refine am_iconst dX10_init_382 am_kc_0 ?_
  refine am_iast dX10_init_383 (am_sh.of h_s0 rfl) (fun b69 => ?_)
  refine am_dup dX10_init_384 rfl ?_
  refine am_bipush (x := 21) dX10_init_385 (by decide) ?_
  refine am_iconst dX10_init_387 am_kc_0 ?_
  refine am_iast dX10_init_388 (am_sh.of h_s0 rfl) (fun b70 => ?_)
  refine am_dup dX10_init_389 rfl ?_
  refine am_bipush (x := 22) dX10_init_390 (by decide) ?_
  refine am_iconst dX10_init_392 am_kc_0 ?_
  refine am_iast dX10_init_393 (am_sh.of h_s0 rfl) (fun b71 => ?_)
  refine am_dup dX10_init_394 rfl ?_
  refine am_bipush (x := 23) dX10_init_395 (by decide) ?_
  refine am_iconst dX10_init_397 am_kc_0 ?_
  refine am_iast dX10_init_398 (am_sh.of h_s0 rfl) (fun b72 => ?_)
  exact sX10_init_399 G x0 s0 s1 (am_pI (am_pI (am_pI (am_pI (am_pI (am_pI (am_pI (am_pI M s0 ((16 : Int32).toNatClampNeg) 0) s0 ((17 : Int32).toNatClampNeg) 0) s0 ((18 : Int32).toNatClampNeg) 0) s0 ((19 : Int32).toNatClampNeg) 0) s0 ((20 : Int32).toNatClampNeg) 0) s0 ((21 : Int32).toNatClampNeg) 0) s0 ((22 : Int32).toNatClampNeg) 0) s0 ((23 : Int32).toNatClampNeg) 0) (am_sh.of h_x0 rfl) (am_sh.of h_s0 rfl) (am_sh.of h_s1 rfl)
set_option maxRecDepth 100000 in
set_option maxHeartbeats 4000000 in
theorem sX10_init_319 (G : am_G) (x0 : Nat) (s0 : Nat) (s1 : Nat) (M : am_M) (h_x0 : am_sh M x0 14) (h_s0 : am_sh M s0 0) (h_s1 : am_sh M s1 14) : am_S am_ev G 1 yX10_init.cls yX10_init.name cX10_init 1 none 319 [(0, .ref x0)] [.ref s0, .ref s1] M (fX10_init_319 x0 s0 s1 M) := by
  show am_S am_ev G 1 yX10_init.cls yX10_init.name cX10_init 1 none 319 [(0, .ref x0)] [.ref s0, .ref s1] M (if (8 : Int32) < 0 ∨ am_len M s0 ≤ (8 : Int32).toNatClampNeg then none else if (9 : Int32) < 0 ∨ am_len (am_pI M s0 ((8 : Int32).toNatClampNeg) 0) s0 ≤ (9 : Int32).toNatClampNeg then none else if (10 : Int32) < 0 ∨ am_len (am_pI (am_pI M s0 ((8 : Int32).toNatClampNeg) 0) s0 ((9 : Int32).toNatClampNeg) 0) s0 ≤ (10 : Int32).toNatClampNeg then none else if (11 : Int32) < 0 ∨ am_len (am_pI (am_pI (am_pI M s0 ((8 : Int32).toNatClampNeg) 0) s0 ((9 : Int32).toNatClampNeg) 0) s0 ((10 : Int32).toNatClampNeg) 0) s0 ≤ (11 : Int32).toNatClampNeg then none else if (12 : Int32) < 0 ∨ am_len (am_pI (am_pI (am_pI (am_pI M s0 ((8 : Int32).toNatClampNeg) 0) s0 ((9 : Int32).toNatClampNeg) 0) s0 ((10 : Int32).toNatClampNeg) 0) s0 ((11 : Int32).toNatClampNeg) 0) s0 ≤ (12 : Int32).toNatClampNeg then none else if (13 : Int32) < 0 ∨ am_len (am_pI (am_pI (am_pI (am_pI (am_pI M s0 ((8 : Int32).toNatClampNeg) 0) s0 ((9 : Int32).toNatClampNeg) 0) s0 ((10 : Int32).toNatClampNeg) 0) s0 ((11 : Int32).toNatClampNeg) 0) s0 ((12 : Int32).toNatClampNeg) 0) s0 ≤ (13 : Int32).toNatClampNeg then none else if (14 : Int32) < 0 ∨ am_len (am_pI (am_pI (am_pI (am_pI (am_pI (am_pI M s0 ((8 : Int32).toNatClampNeg) 0) s0 ((9 : Int32).toNatClampNeg) 0) s0 ((10 : Int32).toNatClampNeg) 0) s0 ((11 : Int32).toNatClampNeg) 0) s0 ((12 : Int32).toNatClampNeg) 0) s0 ((13 : Int32).toNatClampNeg) 0) s0 ≤ (14 : Int32).toNatClampNeg then none else if (15 : Int32) < 0 ∨ am_len (am_pI (am_pI (am_pI (am_pI (am_pI (am_pI (am_pI M s0 ((8 : Int32).toNatClampNeg) 0) s0 ((9 : Int32).toNatClampNeg) 0) s0 ((10 : Int32).toNatClampNeg) 0) s0 ((11 : Int32).toNatClampNeg) 0) s0 ((12 : Int32).toNatClampNeg) 0) s0 ((13 : Int32).toNatClampNeg) 0) s0 ((14 : Int32).toNatClampNeg) 0) s0 ≤ (15 : Int32).toNatClampNeg then none else fX10_init_359 x0 s0 s1 (am_pI (am_pI (am_pI (am_pI (am_pI (am_pI (am_pI (am_pI M s0 ((8 : Int32).toNatClampNeg) 0) s0 ((9 : Int32).toNatClampNeg) 0) s0 ((10 : Int32).toNatClampNeg) 0) s0 ((11 : Int32).toNatClampNeg) 0) s0 ((12 : Int32).toNatClampNeg) 0) s0 ((13 : Int32).toNatClampNeg) 0) s0 ((14 : Int32).toNatClampNeg) 0) s0 ((15 : Int32).toNatClampNeg) 0))
  refine am_dup dX10_init_319 rfl ?_
  refine am_bipush (x := 8) dX10_init_320 (by decide) ?_
  refine am_iconst dX10_init_322 am_kc_0 ?_
  refine am_iast dX10_init_323 h_s0 (fun b57 => ?_)
  refine am_dup dX10_init_324 rfl ?_
  refine am_bipush (x := 9) dX10_init_325 (by decide) ?_
  refine am_iconst dX10_init_327 am_kc_0 ?_
  refine am_iast dX10_init_328 (am_sh.of h_s0 rfl) (fun b58 => ?_)
  refine am_dup dX10_init_329 rfl ?_
  refine am_bipush (x := 10) dX10_init_330 (by decide) ?_
  refine am_iconst dX10_init_332 am_kc_0 ?_
  refine am_iast dX10_init_333 (am_sh.of h_s0 rfl) (fun b59 => ?_)
  refine am_dup dX10_init_334 rfl ?_
  refine am_bipush (x := 11) dX10_init_335 (by decide) ?_
  refine am_iconst dX10_init_337 am_kc_0 ?_
  refine am_iast dX10_init_338 (am_sh.of h_s0 rfl) (fun b60 => ?_)
  refine am_dup dX10_init_339 rfl ?_
  refine am_bipush (x := 12) dX10_init_340 (by decide) ?_
  refine am_iconst dX10_init_342 am_kc_0 ?_
  refine am_iast dX10_init_343 (am_sh.of h_s0 rfl) (fun b61 => ?_)
  refine am_dup dX10_init_344 rfl ?_
  refine am_bipush (x := 13) dX10_init_345 (by decide) ?_
  refine am_iconst dX10_init_347 am_kc_0 ?_
  refine am_iast dX10_init_348 (am_sh.of h_s0 rfl) (fun b62 => ?_)
  refine am_dup dX10_init_349 rfl ?_
  refine am_bipush (x := 14) dX10_init_350 (by decide) ?_
  refine am_iconst dX10_init_352 am_kc_0 ?_
  refine am_iast dX10_init_353 (am_sh.of h_s0 rfl) (fun b63 => ?_)
  refine am_dup dX10_init_354 rfl ?_
  refine am_bipush (x := 15) dX10_init_355 (by decide) ?_
  refine am_iconst dX10_init_357 am_kc_0 ?_
  refine am_iast dX10_init_358 (am_sh.of h_s0 rfl) (fun b64 => ?_)
  exact sX10_init_359 G x0 s0 s1 (am_pI (am_pI (am_pI (am_pI (am_pI (am_pI (am_pI (am_pI M s0 ((8 : Int32).toNatClampNeg) 0) s0 ((9 : Int32).toNatClampNeg) 0) s0 ((10 : Int32).toNatClampNeg) 0) s0 ((11 : Int32).toNatClampNeg) 0) s0 ((12 : Int32).toNatClampNeg) 0) s0 ((13 : Int32).toNatClampNeg) 0) s0 ((14 : Int32).toNatClampNeg) 0) s0 ((15 : Int32).toNatClampNeg) 0) (am_sh.of h_x0 rfl) (am_sh.of h_s0 rfl) (am_sh.of h_s1 rfl)
set_option maxRecDepth 100000 in
set_option maxHeartbeats 4000000 in
theorem sX10_init_283 (G : am_G) (x0 : Nat) (s0 : Nat) (s1 : Nat) (M : am_M) (h_x0 : am_sh M x0 14) (h_s0 : am_sh M s0 0) (h_s1 : am_sh M s1 14) : am_S am_ev G 1 yX10_init.cls yX10_init.name cX10_init 1 none 283 [(0, .ref x0)] [.ref s0, .ref s1] M (fX10_init_283 x0 s0 s1 M) := by
  show am_S am_ev G 1 yX10_init.cls yX10_init.name cX10_init 1 none 283 [(0, .ref x0)] [.ref s0, .ref s1] M (if (0 : Int32) < 0 ∨ am_len M s0 ≤ (0 : Int32).toNatClampNeg then none else if (1 : Int32) < 0 ∨ am_len (am_pI M s0 ((0 : Int32).toNatClampNeg) 3) s0 ≤ (1 : Int32).toNatClampNeg then none else if (2 : Int32) < 0 ∨ am_len (am_pI (am_pI M s0 ((0 : Int32).toNatClampNeg) 3) s0 ((1 : Int32).toNatClampNeg) 10) s0 ≤ (2 : Int32).toNatClampNeg then none else if (3 : Int32) < 0 ∨ am_len (am_pI (am_pI (am_pI M s0 ((0 : Int32).toNatClampNeg) 3) s0 ((1 : Int32).toNatClampNeg) 10) s0 ((2 : Int32).toNatClampNeg) 5) s0 ≤ (3 : Int32).toNatClampNeg then none else if (4 : Int32) < 0 ∨ am_len (am_pI (am_pI (am_pI (am_pI M s0 ((0 : Int32).toNatClampNeg) 3) s0 ((1 : Int32).toNatClampNeg) 10) s0 ((2 : Int32).toNatClampNeg) 5) s0 ((3 : Int32).toNatClampNeg) 0) s0 ≤ (4 : Int32).toNatClampNeg then none else if (5 : Int32) < 0 ∨ am_len (am_pI (am_pI (am_pI (am_pI (am_pI M s0 ((0 : Int32).toNatClampNeg) 3) s0 ((1 : Int32).toNatClampNeg) 10) s0 ((2 : Int32).toNatClampNeg) 5) s0 ((3 : Int32).toNatClampNeg) 0) s0 ((4 : Int32).toNatClampNeg) 9) s0 ≤ (5 : Int32).toNatClampNeg then none else if (6 : Int32) < 0 ∨ am_len (am_pI (am_pI (am_pI (am_pI (am_pI (am_pI M s0 ((0 : Int32).toNatClampNeg) 3) s0 ((1 : Int32).toNatClampNeg) 10) s0 ((2 : Int32).toNatClampNeg) 5) s0 ((3 : Int32).toNatClampNeg) 0) s0 ((4 : Int32).toNatClampNeg) 9) s0 ((5 : Int32).toNatClampNeg) 3) s0 ≤ (6 : Int32).toNatClampNeg then none else if (7 : Int32) < 0 ∨ am_len (am_pI (am_pI (am_pI (am_pI (am_pI (am_pI (am_pI M s0 ((0 : Int32).toNatClampNeg) 3) s0 ((1 : Int32).toNatClampNeg) 10) s0 ((2 : Int32).toNatClampNeg) 5) s0 ((3 : Int32).toNatClampNeg) 0) s0 ((4 : Int32).toNatClampNeg) 9) s0 ((5 : Int32).toNatClampNeg) 3) s0 ((6 : Int32).toNatClampNeg) 0) s0 ≤ (7 : Int32).toNatClampNeg then none else fX10_init_319 x0 s0 s1 (am_pI (am_pI (am_pI (am_pI (am_pI (am_pI (am_pI (am_pI M s0 ((0 : Int32).toNatClampNeg) 3) s0 ((1 : Int32).toNatClampNeg) 10) s0 ((2 : Int32).toNatClampNeg) 5) s0 ((3 : Int32).toNatClampNeg) 0) s0 ((4 : Int32).toNatClampNeg) 9) s0 ((5 : Int32).toNatClampNeg) 3) s0 ((6 : Int32).toNatClampNeg) 0) s0 ((7 : Int32).toNatClampNeg) 0))
  refine am_dup dX10_init_283 rfl ?_
  refine am_iconst dX10_init_284 am_kc_0 ?_
  refine am_iconst dX10_init_285 am_kc_3 ?_
  refine am_iast dX10_init_286 h_s0 (fun b49 => ?_)
  refine am_dup dX10_init_287 rfl ?_
  refine am_iconst dX10_init_288 am_kc_1 ?_
  refine am_bipush (x := 10) dX10_init_289 (by decide) ?_
  refine am_iast dX10_init_291 (am_sh.of h_s0 rfl) (fun b50 => ?_)
  refine am_dup dX10_init_292 rfl ?_
  refine am_iconst dX10_init_293 am_kc_2 ?_
  refine am_iconst dX10_init_294 am_kc_5 ?_
  refine am_iast dX10_init_295 (am_sh.of h_s0 rfl) (fun b51 => ?_)
  refine am_dup dX10_init_296 rfl ?_
  refine am_iconst dX10_init_297 am_kc_3 ?_
  refine am_iconst dX10_init_298 am_kc_0 ?_
  refine am_iast dX10_init_299 (am_sh.of h_s0 rfl) (fun b52 => ?_)
  refine am_dup dX10_init_300 rfl ?_
  refine am_iconst dX10_init_301 am_kc_4 ?_
  refine am_bipush (x := 9) dX10_init_302 (by decide) ?_
  refine am_iast dX10_init_304 (am_sh.of h_s0 rfl) (fun b53 => ?_)
  refine am_dup dX10_init_305 rfl ?_
  refine am_iconst dX10_init_306 am_kc_5 ?_
  refine am_iconst dX10_init_307 am_kc_3 ?_
  refine am_iast dX10_init_308 (am_sh.of h_s0 rfl) (fun b54 => ?_)
  refine am_dup dX10_init_309 rfl ?_
  refine am_bipush (x := 6) dX10_init_310 (by decide) ?_
  refine am_iconst dX10_init_312 am_kc_0 ?_
  refine am_iast dX10_init_313 (am_sh.of h_s0 rfl) (fun b55 => ?_)
  refine am_dup dX10_init_314 rfl ?_
  refine am_bipush (x := 7) dX10_init_315 (by decide) ?_
  refine am_iconst dX10_init_317 am_kc_0 ?_
  refine am_iast dX10_init_318 (am_sh.of h_s0 rfl) (fun b56 => ?_)
  exact sX10_init_319 G x0 s0 s1 (am_pI (am_pI (am_pI (am_pI (am_pI (am_pI (am_pI (am_pI M s0 ((0 : Int32).toNatClampNeg) 3) s0 ((1 : Int32).toNatClampNeg) 10) s0 ((2 : Int32).toNatClampNeg) 5) s0 ((3 : Int32).toNatClampNeg) 0) s0 ((4 : Int32).toNatClampNeg) 9) s0 ((5 : Int32).toNatClampNeg) 3) s0 ((6 : Int32).toNatClampNeg) 0) s0 ((7 : Int32).toNatClampNeg) 0) (am_sh.of h_x0 rfl) (am_sh.of h_s0 rfl) (am_sh.of h_s1 rfl)
set_option maxRecDepth 100000 in
set_option maxHeartbeats 4000000 in
theorem sX10_init_269 (G : am_G) (x0 : Nat) (s0 : Nat) (s1 : Nat) (M : am_M) (h_x0 : am_sh M x0 14) (h_s0 : am_sh M s0 0) (h_s1 : am_sh M s1 14) : am_S am_ev G 1 yX10_init.cls yX10_init.name cX10_init 1 none 269 [(0, .ref x0)] [.ref s0, .ref s1] M (fX10_init_269 x0 s0 s1 M) := by
  show am_S am_ev G 1 yX10_init.cls yX10_init.name cX10_init 1 none 269 [(0, .ref x0)] [.ref s0, .ref s1] M (fX10_init_283 x0 (am_n (am_pI (am_pR M s1 5 (some s0)) x0 6 6)) x0 (am_new (am_pI (am_pR M s1 5 (some s0)) x0 6 6) 0 40))
  refine am_putFR 9 dX10_init_269 fl_RX10_22 h_s1 rfl h_s0 rfl rfl rfl ?_
  refine am_aload_n 0 dX10_init_272 rfl rfl ?_
  refine am_bipush (x := 6) dX10_init_273 (by decide) ?_
  refine am_putI 9 dX10_init_275 fl_RX10_26 (am_sh.of h_x0 rfl) rfl rfl rfl rfl ?_
  refine am_aload_n 0 dX10_init_278 rfl rfl ?_
  refine am_bipush (x := 40) dX10_init_279 (by decide) ?_
  refine am_newaI 40 dX10_init_281 ac_int (by decide) (by decide) (by decide) ?_
  exact sX10_init_283 G x0 (am_n (am_pI (am_pR M s1 5 (some s0)) x0 6 6)) x0 (am_new (am_pI (am_pR M s1 5 (some s0)) x0 6 6) 0 40) (am_sh.mono (am_le_new _ _ _) (am_sh.of h_x0 rfl)) (am_sh_new _ _ _) (am_sh.mono (am_le_new _ _ _) (am_sh.of h_x0 rfl))
set_option maxRecDepth 100000 in
set_option maxHeartbeats 4000000 in
theorem sX10_init_229 (G : am_G) (x0 : Nat) (s0 : Nat) (s1 : Nat) (M : am_M) (h_x0 : am_sh M x0 14) (h_s0 : am_sh M s0 0) (h_s1 : am_sh M s1 14) : am_S am_ev G 1 yX10_init.cls yX10_init.name cX10_init 1 none 229 [(0, .ref x0)] [.ref s0, .ref s1] M (fX10_init_229 x0 s0 s1 M) := by
  show am_S am_ev G 1 yX10_init.cls yX10_init.name cX10_init 1 none 229 [(0, .ref x0)] [.ref s0, .ref s1] M (if (40 : Int32) < 0 ∨ am_len M s0 ≤ (40 : Int32).toNatClampNeg then none else if (41 : Int32) < 0 ∨ am_len (am_pI M s0 ((40 : Int32).toNatClampNeg) 0) s0 ≤ (41 : Int32).toNatClampNeg then none else if (42 : Int32) < 0 ∨ am_len (am_pI (am_pI M s0 ((40 : Int32).toNatClampNeg) 0) s0 ((41 : Int32).toNatClampNeg) 0) s0 ≤ (42 : Int32).toNatClampNeg then none else if (43 : Int32) < 0 ∨ am_len (am_pI (am_pI (am_pI M s0 ((40 : Int32).toNatClampNeg) 0) s0 ((41 : Int32).toNatClampNeg) 0) s0 ((42 : Int32).toNatClampNeg) 0) s0 ≤ (43 : Int32).toNatClampNeg then none else if (44 : Int32) < 0 ∨ am_len (am_pI (am_pI (am_pI (am_pI M s0 ((40 : Int32).toNatClampNeg) 0) s0 ((41 : Int32).toNatClampNeg) 0) s0 ((42 : Int32).toNatClampNeg) 0) s0 ((43 : Int32).toNatClampNeg) 0) s0 ≤ (44 : Int32).toNatClampNeg then none else if (45 : Int32) < 0 ∨ am_len (am_pI (am_pI (am_pI (am_pI (am_pI M s0 ((40 : Int32).toNatClampNeg) 0) s0 ((41 : Int32).toNatClampNeg) 0) s0 ((42 : Int32).toNatClampNeg) 0) s0 ((43 : Int32).toNatClampNeg) 0) s0 ((44 : Int32).toNatClampNeg) 0) s0 ≤ (45 : Int32).toNatClampNeg then none else if (46 : Int32) < 0 ∨ am_len (am_pI (am_pI (am_pI (am_pI (am_pI (am_pI M s0 ((40 : Int32).toNatClampNeg) 0) s0 ((41 : Int32).toNatClampNeg) 0) s0 ((42 : Int32).toNatClampNeg) 0) s0 ((43 : Int32).toNatClampNeg) 0) s0 ((44 : Int32).toNatClampNeg) 0) s0 ((45 : Int32).toNatClampNeg) 0) s0 ≤ (46 : Int32).toNatClampNeg then none else if (47 : Int32) < 0 ∨ am_len (am_pI (am_pI (am_pI (am_pI (am_pI (am_pI (am_pI M s0 ((40 : Int32).toNatClampNeg) 0) s0 ((41 : Int32).toNatClampNeg) 0) s0 ((42 : Int32).toNatClampNeg) 0) s0 ((43 : Int32).toNatClampNeg) 0) s0 ((44 : Int32).toNatClampNeg) 0) s0 ((45 : Int32).toNatClampNeg) 0) s0 ((46 : Int32).toNatClampNeg) 0) s0 ≤ (47 : Int32).toNatClampNeg then none else fX10_init_269 x0 s0 s1 (am_pI (am_pI (am_pI (am_pI (am_pI (am_pI (am_pI (am_pI M s0 ((40 : Int32).toNatClampNeg) 0) s0 ((41 : Int32).toNatClampNeg) 0) s0 ((42 : Int32).toNatClampNeg) 0) s0 ((43 : Int32).toNatClampNeg) 0) s0 ((44 : Int32).toNatClampNeg) 0) s0 ((45 : Int32).toNatClampNeg) 0) s0 ((46 : Int32).toNatClampNeg) 0) s0 ((47 : Int32).toNatClampNeg) 0))
  refine am_dup dX10_init_229 rfl ?_
  refine am_bipush (x := 40) dX10_init_230 (by decide) ?_
  refine am_iconst dX10_init_232 am_kc_0 ?_
  refine am_iast dX10_init_233 h_s0 (fun b41 => ?_)
  refine am_dup dX10_init_234 rfl ?_
  refine am_bipush (x := 41) dX10_init_235 (by decide) ?_
  refine am_iconst dX10_init_237 am_kc_0 ?_
  refine am_iast dX10_init_238 (am_sh.of h_s0 rfl) (fun b42 => ?_)
  refine am_dup dX10_init_239 rfl ?_
  refine am_bipush (x := 42) dX10_init_240 (by decide) ?_
  refine am_iconst dX10_init_242 am_kc_0 ?_
  refine am_iast dX10_init_243 (am_sh.of h_s0 rfl) (fun b43 => ?_)
  refine am_dup dX10_init_244 rfl ?_
  refine am_bipush (x := 43) dX10_init_245 (by decide) ?_
  refine am_iconst dX10_init_247 am_kc_0 ?_
  refine am_iast dX10_init_248 (am_sh.of h_s0 rfl) (fun b44 => ?_)
  refine am_dup dX10_init_249 rfl ?_
  refine am_bipush (x := 44) dX10_init_250 (by decide) ?_
  refine am_iconst dX10_init_252 am_kc_0 ?_
  refine am_iast dX10_init_253 (am_sh.of h_s0 rfl) (fun b45 => ?_)
  refine am_dup dX10_init_254 rfl ?_
  refine am_bipush (x := 45) dX10_init_255 (by decide) ?_
  refine am_iconst dX10_init_257 am_kc_0 ?_
  refine am_iast dX10_init_258 (am_sh.of h_s0 rfl) (fun b46 => ?_)
  refine am_dup dX10_init_259 rfl ?_
  refine am_bipush (x := 46) dX10_init_260 (by decide) ?_
  refine am_iconst dX10_init_262 am_kc_0 ?_
  refine am_iast dX10_init_263 (am_sh.of h_s0 rfl) (fun b47 => ?_)
  refine am_dup dX10_init_264 rfl ?_
  refine am_bipush (x := 47) dX10_init_265 (by decide) ?_
  refine am_iconst dX10_init_267 am_kc_0 ?_
  refine am_iast dX10_init_268 (am_sh.of h_s0 rfl) (fun b48 => ?_)
  exact sX10_init_269 G x0 s0 s1 (am_pI (am_pI (am_pI (am_pI (am_pI (am_pI (am_pI (am_pI M s0 ((40 : Int32).toNatClampNeg) 0) s0 ((41 : Int32).toNatClampNeg) 0) s0 ((42 : Int32).toNatClampNeg) 0) s0 ((43 : Int32).toNatClampNeg) 0) s0 ((44 : Int32).toNatClampNeg) 0) s0 ((45 : Int32).toNatClampNeg) 0) s0 ((46 : Int32).toNatClampNeg) 0) s0 ((47 : Int32).toNatClampNeg) 0) (am_sh.of h_x0 rfl) (am_sh.of h_s0 rfl) (am_sh.of h_s1 rfl)
set_option maxRecDepth 100000 in
set_option maxHeartbeats 4000000 in
theorem sX10_init_189 (G : am_G) (x0 : Nat) (s0 : Nat) (s1 : Nat) (M : am_M) (h_x0 : am_sh M x0 14) (h_s0 : am_sh M s0 0) (h_s1 : am_sh M s1 14) : am_S am_ev G 1 yX10_init.cls yX10_init.name cX10_init 1 none 189 [(0, .ref x0)] [.ref s0, .ref s1] M (fX10_init_189 x0 s0 s1 M) := by
  show am_S am_ev G 1 yX10_init.cls yX10_init.name cX10_init 1 none 189 [(0, .ref x0)] [.ref s0, .ref s1] M (if (32 : Int32) < 0 ∨ am_len M s0 ≤ (32 : Int32).toNatClampNeg then none else if (33 : Int32) < 0 ∨ am_len (am_pI M s0 ((32 : Int32).toNatClampNeg) 0) s0 ≤ (33 : Int32).toNatClampNeg then none else if (34 : Int32) < 0 ∨ am_len (am_pI (am_pI M s0 ((32 : Int32).toNatClampNeg) 0) s0 ((33 : Int32).toNatClampNeg) 0) s0 ≤ (34 : Int32).toNatClampNeg then none else if (35 : Int32) < 0 ∨ am_len (am_pI (am_pI (am_pI M s0 ((32 : Int32).toNatClampNeg) 0) s0 ((33 : Int32).toNatClampNeg) 0) s0 ((34 : Int32).toNatClampNeg) 0) s0 ≤ (35 : Int32).toNatClampNeg then none else if (36 : Int32) < 0 ∨ am_len (am_pI (am_pI (am_pI (am_pI M s0 ((32 : Int32).toNatClampNeg) 0) s0 ((33 : Int32).toNatClampNeg) 0) s0 ((34 : Int32).toNatClampNeg) 0) s0 ((35 : Int32).toNatClampNeg) 0) s0 ≤ (36 : Int32).toNatClampNeg then none else if (37 : Int32) < 0 ∨ am_len (am_pI (am_pI (am_pI (am_pI (am_pI M s0 ((32 : Int32).toNatClampNeg) 0) s0 ((33 : Int32).toNatClampNeg) 0) s0 ((34 : Int32).toNatClampNeg) 0) s0 ((35 : Int32).toNatClampNeg) 0) s0 ((36 : Int32).toNatClampNeg) 0) s0 ≤ (37 : Int32).toNatClampNeg then none else if (38 : Int32) < 0 ∨ am_len (am_pI (am_pI (am_pI (am_pI (am_pI (am_pI M s0 ((32 : Int32).toNatClampNeg) 0) s0 ((33 : Int32).toNatClampNeg) 0) s0 ((34 : Int32).toNatClampNeg) 0) s0 ((35 : Int32).toNatClampNeg) 0) s0 ((36 : Int32).toNatClampNeg) 0) s0 ((37 : Int32).toNatClampNeg) 0) s0 ≤ (38 : Int32).toNatClampNeg then none else if (39 : Int32) < 0 ∨ am_len (am_pI (am_pI (am_pI (am_pI (am_pI (am_pI (am_pI M s0 ((32 : Int32).toNatClampNeg) 0) s0 ((33 : Int32).toNatClampNeg) 0) s0 ((34 : Int32).toNatClampNeg) 0) s0 ((35 : Int32).toNatClampNeg) 0) s0 ((36 : Int32).toNatClampNeg) 0) s0 ((37 : Int32).toNatClampNeg) 0) s0 ((38 : Int32).toNatClampNeg) 0) s0 ≤ (39 : Int32).toNatClampNeg then none else fX10_init_229 x0 s0 s1 (am_pI (am_pI (am_pI (am_pI (am_pI (am_pI (am_pI (am_pI M s0 ((32 : Int32).toNatClampNeg) 0) s0 ((33 : Int32).toNatClampNeg) 0) s0 ((34 : Int32).toNatClampNeg) 0) s0 ((35 : Int32).toNatClampNeg) 0) s0 ((36 : Int32).toNatClampNeg) 0) s0 ((37 : Int32).toNatClampNeg) 0) s0 ((38 : Int32).toNatClampNeg) 0) s0 ((39 : Int32).toNatClampNeg) 0))
  refine am_dup dX10_init_189 rfl ?_
  refine am_bipush (x := 32) dX10_init_190 (by decide) ?_
  refine am_iconst dX10_init_192 am_kc_0 ?_
  refine am_iast dX10_init_193 h_s0 (fun b33 => ?_)
  refine am_dup dX10_init_194 rfl ?_
  refine am_bipush (x := 33) dX10_init_195 (by decide) ?_
  refine am_iconst dX10_init_197 am_kc_0 ?_
  refine am_iast dX10_init_198 (am_sh.of h_s0 rfl) (fun b34 => ?_)
  refine am_dup dX10_init_199 rfl ?_
  refine am_bipush (x := 34) dX10_init_200 (by decide) ?_
  refine am_iconst dX10_init_202 am_kc_0 ?_
  refine am_iast dX10_init_203 (am_sh.of h_s0 rfl) (fun b35 => ?_)
  refine am_dup dX10_init_204 rfl ?_
  refine am_bipush (x := 35) dX10_init_205 (by decide) ?_
  refine am_iconst dX10_init_207 am_kc_0 ?_
  refine am_iast dX10_init_208 (am_sh.of h_s0 rfl) (fun b36 => ?_)
  refine am_dup dX10_init_209 rfl ?_
  refine am_bipush (x := 36) dX10_init_210 (by decide) ?_
  refine am_iconst dX10_init_212 am_kc_0 ?_
  refine am_iast dX10_init_213 (am_sh.of h_s0 rfl) (fun b37 => ?_)
  refine am_dup dX10_init_214 rfl ?_
  refine am_bipush (x := 37) dX10_init_215 (by decide) ?_
  refine am_iconst dX10_init_217 am_kc_0 ?_
  refine am_iast dX10_init_218 (am_sh.of h_s0 rfl) (fun b38 => ?_)
  refine am_dup dX10_init_219 rfl ?_
  refine am_bipush (x := 38) dX10_init_220 (by decide) ?_
  refine am_iconst dX10_init_222 am_kc_0 ?_
  refine am_iast dX10_init_223 (am_sh.of h_s0 rfl) (fun b39 => ?_)
  refine am_dup dX10_init_224 rfl ?_
  refine am_bipush (x := 39) dX10_init_225 (by decide) ?_
  refine am_iconst dX10_init_227 am_kc_0 ?_
  refine am_iast dX10_init_228 (am_sh.of h_s0 rfl) (fun b40 => ?_)
  exact sX10_init_229 G x0 s0 s1 (am_pI (am_pI (am_pI (am_pI (am_pI (am_pI (am_pI (am_pI M s0 ((32 : Int32).toNatClampNeg) 0) s0 ((33 : Int32).toNatClampNeg) 0) s0 ((34 : Int32).toNatClampNeg) 0) s0 ((35 : Int32).toNatClampNeg) 0) s0 ((36 : Int32).toNatClampNeg) 0) s0 ((37 : Int32).toNatClampNeg) 0) s0 ((38 : Int32).toNatClampNeg) 0) s0 ((39 : Int32).toNatClampNeg) 0) (am_sh.of h_x0 rfl) (am_sh.of h_s0 rfl) (am_sh.of h_s1 rfl)
set_option maxRecDepth 100000 in
set_option maxHeartbeats 4000000 in
theorem sX10_init_149 (G : am_G) (x0 : Nat) (s0 : Nat) (s1 : Nat) (M : am_M) (h_x0 : am_sh M x0 14) (h_s0 : am_sh M s0 0) (h_s1 : am_sh M s1 14) : am_S am_ev G 1 yX10_init.cls yX10_init.name cX10_init 1 none 149 [(0, .ref x0)] [.ref s0, .ref s1] M (fX10_init_149 x0 s0 s1 M) := by
  show am_S am_ev G 1 yX10_init.cls yX10_init.name cX10_init 1 none 149 [(0, .ref x0)] [.ref s0, .ref s1] M (if (24 : Int32) < 0 ∨ am_len M s0 ≤ (24 : Int32).toNatClampNeg then none else if (25 : Int32) < 0 ∨ am_len (am_pI M s0 ((24 : Int32).toNatClampNeg) 0) s0 ≤ (25 : Int32).toNatClampNeg then none else if (26 : Int32) < 0 ∨ am_len (am_pI (am_pI M s0 ((24 : Int32).toNatClampNeg) 0) s0 ((25 : Int32).toNatClampNeg) 0) s0 ≤ (26 : Int32).toNatClampNeg then none else if (27 : Int32) < 0 ∨ am_len (am_pI (am_pI (am_pI M s0 ((24 : Int32).toNatClampNeg) 0) s0 ((25 : Int32).toNatClampNeg) 0) s0 ((26 : Int32).toNatClampNeg) 0) s0 ≤ (27 : Int32).toNatClampNeg then none else if (28 : Int32) < 0 ∨ am_len (am_pI (am_pI (am_pI (am_pI M s0 ((24 : Int32).toNatClampNeg) 0) s0 ((25 : Int32).toNatClampNeg) 0) s0 ((26 : Int32).toNatClampNeg) 0) s0 ((27 : Int32).toNatClampNeg) 0) s0 ≤ (28 : Int32).toNatClampNeg then none else if (29 : Int32) < 0 ∨ am_len (am_pI (am_pI (am_pI (am_pI (am_pI M s0 ((24 : Int32).toNatClampNeg) 0) s0 ((25 : Int32).toNatClampNeg) 0) s0 ((26 : Int32).toNatClampNeg) 0) s0 ((27 : Int32).toNatClampNeg) 0) s0 ((28 : Int32).toNatClampNeg) 0) s0 ≤ (29 : Int32).toNatClampNeg then none else if (30 : Int32) < 0 ∨ am_len (am_pI (am_pI (am_pI (am_pI (am_pI (am_pI M s0 ((24 : Int32).toNatClampNeg) 0) s0 ((25 : Int32).toNatClampNeg) 0) s0 ((26 : Int32).toNatClampNeg) 0) s0 ((27 : Int32).toNatClampNeg) 0) s0 ((28 : Int32).toNatClampNeg) 0) s0 ((29 : Int32).toNatClampNeg) 0) s0 ≤ (30 : Int32).toNatClampNeg then none else if (31 : Int32) < 0 ∨ am_len (am_pI (am_pI (am_pI (am_pI (am_pI (am_pI (am_pI M s0 ((24 : Int32).toNatClampNeg) 0) s0 ((25 : Int32).toNatClampNeg) 0) s0 ((26 : Int32).toNatClampNeg) 0) s0 ((27 : Int32).toNatClampNeg) 0) s0 ((28 : Int32).toNatClampNeg) 0) s0 ((29 : Int32).toNatClampNeg) 0) s0 ((30 : Int32).toNatClampNeg) 0) s0 ≤ (31 : Int32).toNatClampNeg then none else fX10_init_189 x0 s0 s1 (am_pI (am_pI (am_pI (am_pI (am_pI (am_pI (am_pI (am_pI M s0 ((24 : Int32).toNatClampNeg) 0) s0 ((25 : Int32).toNatClampNeg) 0) s0 ((26 : Int32).toNatClampNeg) 0) s0 ((27 : Int32).toNatClampNeg) 0) s0 ((28 : Int32).toNatClampNeg) 0) s0 ((29 : Int32).toNatClampNeg) 0) s0 ((30 : Int32).toNatClampNeg) 0) s0 ((31 : Int32).toNatClampNeg) 0))
  refine am_dup dX10_init_149 rfl ?_
  refine am_bipush (x := 24) dX10_init_150 (by decide) ?_
  refine am_iconst dX10_init_152 am_kc_0 ?_
  refine am_iast dX10_init_153 h_s0 (fun b25 => ?_)
  refine am_dup dX10_init_154 rfl ?_
  refine am_bipush (x := 25) dX10_init_155 (by decide) ?_
  refine am_iconst dX10_init_157 am_kc_0 ?_
  refine am_iast dX10_init_158 (am_sh.of h_s0 rfl) (fun b26 => ?_)
  refine am_dup dX10_init_159 rfl ?_
  refine am_bipush (x := 26) dX10_init_160 (by decide) ?_
  refine am_iconst dX10_init_162 am_kc_0 ?_
  refine am_iast dX10_init_163 (am_sh.of h_s0 rfl) (fun b27 => ?_)
  refine am_dup dX10_init_164 rfl ?_
  refine am_bipush (x := 27) dX10_init_165 (by decide) ?_
  refine am_iconst dX10_init_167 am_kc_0 ?_
  refine am_iast dX10_init_168 (am_sh.of h_s0 rfl) (fun b28 => ?_)
  refine am_dup dX10_init_169 rfl ?_
  refine am_bipush (x := 28) dX10_init_170 (by decide) ?_
  refine am_iconst dX10_init_172 am_kc_0 ?_
  refine am_iast dX10_init_173 (am_sh.of h_s0 rfl) (fun b29 => ?_)
  refine am_dup dX10_init_174 rfl ?_
  refine am_bipush (x := 29) dX10_init_175 (by decide) ?_
  refine am_iconst dX10_init_177 am_kc_0 ?_
  refine am_iast dX10_init_178 (am_sh.of h_s0 rfl) (fun b30 => ?_)
  refine am_dup dX10_init_179 rfl ?_
  refine am_bipush (x := 30) dX10_init_180 (by decide) ?_
  refine am_iconst dX10_init_182 am_kc_0 ?_
  refine am_iast dX10_init_183 (am_sh.of h_s0 rfl) (fun b31 => ?_)
  refine am_dup dX10_init_184 rfl ?_
  refine am_bipush (x := 31) dX10_init_185 (by decide) ?_
  refine am_iconst dX10_init_187 am_kc_0 ?_
  refine am_iast dX10_init_188 (am_sh.of h_s0 rfl) (fun b32 => ?_)
  exact sX10_init_189 G x0 s0 s1 (am_pI (am_pI (am_pI (am_pI (am_pI (am_pI (am_pI (am_pI M s0 ((24 : Int32).toNatClampNeg) 0) s0 ((25 : Int32).toNatClampNeg) 0) s0 ((26 : Int32).toNatClampNeg) 0) s0 ((27 : Int32).toNatClampNeg) 0) s0 ((28 : Int32).toNatClampNeg) 0) s0 ((29 : Int32).toNatClampNeg) 0) s0 ((30 : Int32).toNatClampNeg) 0) s0 ((31 : Int32).toNatClampNeg) 0) (am_sh.of h_x0 rfl) (am_sh.of h_s0 rfl) (am_sh.of h_s1 rfl)
set_option maxRecDepth 100000 in
set_option maxHeartbeats 4000000 in
theorem sX10_init_107 (G : am_G) (x0 : Nat) (s0 : Nat) (s1 : Nat) (M : am_M) (h_x0 : am_sh M x0 14) (h_s0 : am_sh M s0 0) (h_s1 : am_sh M s1 14) : am_S am_ev G 1 yX10_init.cls yX10_init.name cX10_init 1 none 107 [(0, .ref x0)] [.ref s0, .ref s1] M (fX10_init_107 x0 s0 s1 M) := by
  show am_S am_ev G 1 yX10_init.cls yX10_init.name cX10_init 1 none 107 [(0, .ref x0)] [.ref s0, .ref s1] M (if (16 : Int32) < 0 ∨ am_len M s0 ≤ (16 : Int32).toNatClampNeg then none else if (17 : Int32) < 0 ∨ am_len (am_pI M s0 ((16 : Int32).toNatClampNeg) 6) s0 ≤ (17 : Int32).toNatClampNeg then none else if (18 : Int32) < 0 ∨ am_len (am_pI (am_pI M s0 ((16 : Int32).toNatClampNeg) 6) s0 ((17 : Int32).toNatClampNeg) 12) s0 ≤ (18 : Int32).toNatClampNeg then none else if (19 : Int32) < 0 ∨ am_len (am_pI (am_pI (am_pI M s0 ((16 : Int32).toNatClampNeg) 6) s0 ((17 : Int32).toNatClampNeg) 12) s0 ((18 : Int32).toNatClampNeg) 0) s0 ≤ (19 : Int32).toNatClampNeg then none else if (20 : Int32) < 0 ∨ am_len (am_pI (am_pI (am_pI (am_pI M s0 ((16 : Int32).toNatClampNeg) 6) s0 ((17 : Int32).toNatClampNeg) 12) s0 ((18 : Int32).toNatClampNeg) 0) s0 ((19 : Int32).toNatClampNeg) 0) s0 ≤ (20 : Int32).toNatClampNeg then none else if (21 : Int32) < 0 ∨ am_len (am_pI (am_pI (am_pI (am_pI (am_pI M s0 ((16 : Int32).toNatClampNeg) 6) s0 ((17 : Int32).toNatClampNeg) 12) s0 ((18 : Int32).toNatClampNeg) 0) s0 ((19 : Int32).toNatClampNeg) 0) s0 ((20 : Int32).toNatClampNeg) 0) s0 ≤ (21 : Int32).toNatClampNeg then none else if (22 : Int32) < 0 ∨ am_len (am_pI (am_pI (am_pI (am_pI (am_pI (am_pI M s0 ((16 : Int32).toNatClampNeg) 6) s0 ((17 : Int32).toNatClampNeg) 12) s0 ((18 : Int32).toNatClampNeg) 0) s0 ((19 : Int32).toNatClampNeg) 0) s0 ((20 : Int32).toNatClampNeg) 0) s0 ((21 : Int32).toNatClampNeg) 0) s0 ≤ (22 : Int32).toNatClampNeg then none else if (23 : Int32) < 0 ∨ am_len (am_pI (am_pI (am_pI (am_pI (am_pI (am_pI (am_pI M s0 ((16 : Int32).toNatClampNeg) 6) s0 ((17 : Int32).toNatClampNeg) 12) s0 ((18 : Int32).toNatClampNeg) 0) s0 ((19 : Int32).toNatClampNeg) 0) s0 ((20 : Int32).toNatClampNeg) 0) s0 ((21 : Int32).toNatClampNeg) 0) s0 ((22 : Int32).toNatClampNeg) 0) s0 ≤ (23 : Int32).toNatClampNeg then none else fX10_init_149 x0 s0 s1 (am_pI (am_pI (am_pI (am_pI (am_pI (am_pI (am_pI (am_pI M s0 ((16 : Int32).toNatClampNeg) 6) s0 ((17 : Int32).toNatClampNeg) 12) s0 ((18 : Int32).toNatClampNeg) 0) s0 ((19 : Int32).toNatClampNeg) 0) s0 ((20 : Int32).toNatClampNeg) 0) s0 ((21 : Int32).toNatClampNeg) 0) s0 ((22 : Int32).toNatClampNeg) 0) s0 ((23 : Int32).toNatClampNeg) 0))
  refine am_dup dX10_init_107 rfl ?_
  refine am_bipush (x := 16) dX10_init_108 (by decide) ?_
  refine am_bipush (x := 6) dX10_init_110 (by decide) ?_
  refine am_iast dX10_init_112 h_s0 (fun b17 => ?_)
  refine am_dup dX10_init_113 rfl ?_
  refine am_bipush (x := 17) dX10_init_114 (by decide) ?_
  refine am_bipush (x := 12) dX10_init_116 (by decide) ?_
  refine am_iast dX10_init_118 (am_sh.of h_s0 rfl) (fun b18 => ?_)
  refine am_dup dX10_init_119 rfl ?_
  refine am_bipush (x := 18) dX10_init_120 (by decide) ?_
  refine am_iconst dX10_init_122 am_kc_0 ?_
  refine am_iast dX10_init_123 (am_sh.of h_s0 rfl) (fun b19 => ?_)
  refine am_dup dX10_init_124 rfl ?_
  refine am_bipush (x := 19) dX10_init_125 (by decide) ?_
  refine am_iconst dX10_init_127 am_kc_0 ?_
  refine am_iast dX10_init_128 (am_sh.of h_s0 rfl) (fun b20 => ?_)
  refine am_dup dX10_init_129 rfl ?_
  refine am_bipush (x := 20) dX10_init_130 (by decide) ?_
  refine am_iconst dX10_init_132 am_kc_0 ?_
  refine am_iast dX10_init_133 (am_sh.of h_s0 rfl) (fun b21 => ?_)
  refine am_dup dX10_init_134 rfl ?_
  refine am_bipush (x := 21) dX10_init_135 (by decide) ?_
  refine am_iconst dX10_init_137 am_kc_0 ?_
  refine am_iast dX10_init_138 (am_sh.of h_s0 rfl) (fun b22 => ?_)
  refine am_dup dX10_init_139 rfl ?_
  refine am_bipush (x := 22) dX10_init_140 (by decide) ?_
  refine am_iconst dX10_init_142 am_kc_0 ?_
  refine am_iast dX10_init_143 (am_sh.of h_s0 rfl) (fun b23 => ?_)
  refine am_dup dX10_init_144 rfl ?_
  refine am_bipush (x := 23) dX10_init_145 (by decide) ?_
  refine am_iconst dX10_init_147 am_kc_0 ?_
  refine am_iast dX10_init_148 (am_sh.of h_s0 rfl) (fun b24 => ?_)
  exact sX10_init_149 G x0 s0 s1 (am_pI (am_pI (am_pI (am_pI (am_pI (am_pI (am_pI (am_pI M s0 ((16 : Int32).toNatClampNeg) 6) s0 ((17 : Int32).toNatClampNeg) 12) s0 ((18 : Int32).toNatClampNeg) 0) s0 ((19 : Int32).toNatClampNeg) 0) s0 ((20 : Int32).toNatClampNeg) 0) s0 ((21 : Int32).toNatClampNeg) 0) s0 ((22 : Int32).toNatClampNeg) 0) s0 ((23 : Int32).toNatClampNeg) 0) (am_sh.of h_x0 rfl) (am_sh.of h_s0 rfl) (am_sh.of h_s1 rfl)
set_option maxRecDepth 100000 in
set_option maxHeartbeats 4000000 in
theorem sX10_init_65 (G : am_G) (x0 : Nat) (s0 : Nat) (s1 : Nat) (M : am_M) (h_x0 : am_sh M x0 14) (h_s0 : am_sh M s0 0) (h_s1 : am_sh M s1 14) : am_S am_ev G 1 yX10_init.cls yX10_init.name cX10_init 1 none 65 [(0, .ref x0)] [.ref s0, .ref s1] M (fX10_init_65 x0 s0 s1 M) := by
  show am_S am_ev G 1 yX10_init.cls yX10_init.name cX10_init 1 none 65 [(0, .ref x0)] [.ref s0, .ref s1] M (if (8 : Int32) < 0 ∨ am_len M s0 ≤ (8 : Int32).toNatClampNeg then none else if (9 : Int32) < 0 ∨ am_len (am_pI M s0 ((8 : Int32).toNatClampNeg) 10) s0 ≤ (9 : Int32).toNatClampNeg then none else if (10 : Int32) < 0 ∨ am_len (am_pI (am_pI M s0 ((8 : Int32).toNatClampNeg) 10) s0 ((9 : Int32).toNatClampNeg) 9) s0 ≤ (10 : Int32).toNatClampNeg then none else if (11 : Int32) < 0 ∨ am_len (am_pI (am_pI (am_pI M s0 ((8 : Int32).toNatClampNeg) 10) s0 ((9 : Int32).toNatClampNeg) 9) s0 ((10 : Int32).toNatClampNeg) 4) s0 ≤ (11 : Int32).toNatClampNeg then none else if (12 : Int32) < 0 ∨ am_len (am_pI (am_pI (am_pI (am_pI M s0 ((8 : Int32).toNatClampNeg) 10) s0 ((9 : Int32).toNatClampNeg) 9) s0 ((10 : Int32).toNatClampNeg) 4) s0 ((11 : Int32).toNatClampNeg) 0) s0 ≤ (12 : Int32).toNatClampNeg then none else if (13 : Int32) < 0 ∨ am_len (am_pI (am_pI (am_pI (am_pI (am_pI M s0 ((8 : Int32).toNatClampNeg) 10) s0 ((9 : Int32).toNatClampNeg) 9) s0 ((10 : Int32).toNatClampNeg) 4) s0 ((11 : Int32).toNatClampNeg) 0) s0 ((12 : Int32).toNatClampNeg) 0) s0 ≤ (13 : Int32).toNatClampNeg then none else if (14 : Int32) < 0 ∨ am_len (am_pI (am_pI (am_pI (am_pI (am_pI (am_pI M s0 ((8 : Int32).toNatClampNeg) 10) s0 ((9 : Int32).toNatClampNeg) 9) s0 ((10 : Int32).toNatClampNeg) 4) s0 ((11 : Int32).toNatClampNeg) 0) s0 ((12 : Int32).toNatClampNeg) 0) s0 ((13 : Int32).toNatClampNeg) 0) s0 ≤ (14 : Int32).toNatClampNeg then none else if (15 : Int32) < 0 ∨ am_len (am_pI (am_pI (am_pI (am_pI (am_pI (am_pI (am_pI M s0 ((8 : Int32).toNatClampNeg) 10) s0 ((9 : Int32).toNatClampNeg) 9) s0 ((10 : Int32).toNatClampNeg) 4) s0 ((11 : Int32).toNatClampNeg) 0) s0 ((12 : Int32).toNatClampNeg) 0) s0 ((13 : Int32).toNatClampNeg) 0) s0 ((14 : Int32).toNatClampNeg) 5) s0 ≤ (15 : Int32).toNatClampNeg then none else fX10_init_107 x0 s0 s1 (am_pI (am_pI (am_pI (am_pI (am_pI (am_pI (am_pI (am_pI M s0 ((8 : Int32).toNatClampNeg) 10) s0 ((9 : Int32).toNatClampNeg) 9) s0 ((10 : Int32).toNatClampNeg) 4) s0 ((11 : Int32).toNatClampNeg) 0) s0 ((12 : Int32).toNatClampNeg) 0) s0 ((13 : Int32).toNatClampNeg) 0) s0 ((14 : Int32).toNatClampNeg) 5) s0 ((15 : Int32).toNatClampNeg) 5))
  refine am_dup dX10_init_65 rfl ?_
  refine am_bipush (x := 8) dX10_init_66 (by decide) ?_
  refine am_bipush (x := 10) dX10_init_68 (by decide) ?_
  refine am_iast dX10_init_70 h_s0 (fun b9 => ?_)
  refine am_dup dX10_init_71 rfl ?_
  refine am_bipush (x := 9) dX10_init_72 (by decide) ?_
  refine am_bipush (x := 9) dX10_init_74 (by decide) ?_
  refine am_iast dX10_init_76 (am_sh.of h_s0 rfl) (fun b10 => ?_)
  refine am_dup dX10_init_77 rfl ?_
  refine am_bipush (x := 10) dX10_init_78 (by decide) ?_
  refine am_iconst dX10_init_80 am_kc_4 ?_
  refine am_iast dX10_init_81 (am_sh.of h_s0 rfl) (fun b11 => ?_)
  refine am_dup dX10_init_82 rfl ?_
  refine am_bipush (x := 11) dX10_init_83 (by decide) ?_
  refine am_iconst dX10_init_85 am_kc_0 ?_
  refine am_iast dX10_init_86 (am_sh.of h_s0 rfl) (fun b12 => ?_)
  refine am_dup dX10_init_87 rfl ?_
  refine am_bipush (x := 12) dX10_init_88 (by decide) ?_
  refine am_iconst dX10_init_90 am_kc_0 ?_
  refine am_iast dX10_init_91 (am_sh.of h_s0 rfl) (fun b13 => ?_)
  refine am_dup dX10_init_92 rfl ?_
  refine am_bipush (x := 13) dX10_init_93 (by decide) ?_
  refine am_iconst dX10_init_95 am_kc_0 ?_
  refine am_iast dX10_init_96 (am_sh.of h_s0 rfl) (fun b14 => ?_)
  refine am_dup dX10_init_97 rfl ?_
  refine am_bipush (x := 14) dX10_init_98 (by decide) ?_
  refine am_iconst dX10_init_100 am_kc_5 ?_
  refine am_iast dX10_init_101 (am_sh.of h_s0 rfl) (fun b15 => ?_)
  refine am_dup dX10_init_102 rfl ?_
  refine am_bipush (x := 15) dX10_init_103 (by decide) ?_
  refine am_iconst dX10_init_105 am_kc_5 ?_
  refine am_iast dX10_init_106 (am_sh.of h_s0 rfl) (fun b16 => ?_)
  exact sX10_init_107 G x0 s0 s1 (am_pI (am_pI (am_pI (am_pI (am_pI (am_pI (am_pI (am_pI M s0 ((8 : Int32).toNatClampNeg) 10) s0 ((9 : Int32).toNatClampNeg) 9) s0 ((10 : Int32).toNatClampNeg) 4) s0 ((11 : Int32).toNatClampNeg) 0) s0 ((12 : Int32).toNatClampNeg) 0) s0 ((13 : Int32).toNatClampNeg) 0) s0 ((14 : Int32).toNatClampNeg) 5) s0 ((15 : Int32).toNatClampNeg) 5) (am_sh.of h_x0 rfl) (am_sh.of h_s0 rfl) (am_sh.of h_s1 rfl)
set_option maxRecDepth 100000 in
set_option maxHeartbeats 4000000 in
theorem sX10_init_29 (G : am_G) (x0 : Nat) (s0 : Nat) (s1 : Nat) (M : am_M) (h_x0 : am_sh M x0 14) (h_s0 : am_sh M s0 0) (h_s1 : am_sh M s1 14) : am_S am_ev G 1 yX10_init.cls yX10_init.name cX10_init 1 none 29 [(0, .ref x0)] [.ref s0, .ref s1] M (fX10_init_29 x0 s0 s1 M) := by
  show am_S am_ev G 1 yX10_init.cls yX10_init.name cX10_init 1 none 29 [(0, .ref x0)] [.ref s0, .ref s1] M (if (0 : Int32) < 0 ∨ am_len M s0 ≤ (0 : Int32).toNatClampNeg then none else if (1 : Int32) < 0 ∨ am_len (am_pI M s0 ((0 : Int32).toNatClampNeg) 1) s0 ≤ (1 : Int32).toNatClampNeg then none else if (2 : Int32) < 0 ∨ am_len (am_pI (am_pI M s0 ((0 : Int32).toNatClampNeg) 1) s0 ((1 : Int32).toNatClampNeg) 0) s0 ≤ (2 : Int32).toNatClampNeg then none else if (3 : Int32) < 0 ∨ am_len (am_pI (am_pI (am_pI M s0 ((0 : Int32).toNatClampNeg) 1) s0 ((1 : Int32).toNatClampNeg) 0) s0 ((2 : Int32).toNatClampNeg) 2) s0 ≤ (3 : Int32).toNatClampNeg then none else if (4 : Int32) < 0 ∨ am_len (am_pI (am_pI (am_pI (am_pI M s0 ((0 : Int32).toNatClampNeg) 1) s0 ((1 : Int32).toNatClampNeg) 0) s0 ((2 : Int32).toNatClampNeg) 2) s0 ((3 : Int32).toNatClampNeg) 3) s0 ≤ (4 : Int32).toNatClampNeg then none else if (5 : Int32) < 0 ∨ am_len (am_pI (am_pI (am_pI (am_pI (am_pI M s0 ((0 : Int32).toNatClampNeg) 1) s0 ((1 : Int32).toNatClampNeg) 0) s0 ((2 : Int32).toNatClampNeg) 2) s0 ((3 : Int32).toNatClampNeg) 3) s0 ((4 : Int32).toNatClampNeg) 9) s0 ≤ (5 : Int32).toNatClampNeg then none else if (6 : Int32) < 0 ∨ am_len (am_pI (am_pI (am_pI (am_pI (am_pI (am_pI M s0 ((0 : Int32).toNatClampNeg) 1) s0 ((1 : Int32).toNatClampNeg) 0) s0 ((2 : Int32).toNatClampNeg) 2) s0 ((3 : Int32).toNatClampNeg) 3) s0 ((4 : Int32).toNatClampNeg) 9) s0 ((5 : Int32).toNatClampNeg) 8) s0 ≤ (6 : Int32).toNatClampNeg then none else if (7 : Int32) < 0 ∨ am_len (am_pI (am_pI (am_pI (am_pI (am_pI (am_pI (am_pI M s0 ((0 : Int32).toNatClampNeg) 1) s0 ((1 : Int32).toNatClampNeg) 0) s0 ((2 : Int32).toNatClampNeg) 2) s0 ((3 : Int32).toNatClampNeg) 3) s0 ((4 : Int32).toNatClampNeg) 9) s0 ((5 : Int32).toNatClampNeg) 8) s0 ((6 : Int32).toNatClampNeg) 1) s0 ≤ (7 : Int32).toNatClampNeg then none else fX10_init_65 x0 s0 s1 (am_pI (am_pI (am_pI (am_pI (am_pI (am_pI (am_pI (am_pI M s0 ((0 : Int32).toNatClampNeg) 1) s0 ((1 : Int32).toNatClampNeg) 0) s0 ((2 : Int32).toNatClampNeg) 2) s0 ((3 : Int32).toNatClampNeg) 3) s0 ((4 : Int32).toNatClampNeg) 9) s0 ((5 : Int32).toNatClampNeg) 8) s0 ((6 : Int32).toNatClampNeg) 1) s0 ((7 : Int32).toNatClampNeg) 1))
  refine am_dup dX10_init_29 rfl ?_
  refine am_iconst dX10_init_30 am_kc_0 ?_
  refine am_iconst dX10_init_31 am_kc_1 ?_
  refine am_iast dX10_init_32 h_s0 (fun b1 => ?_)
  refine am_dup dX10_init_33 rfl ?_
  refine am_iconst dX10_init_34 am_kc_1 ?_
  refine am_iconst dX10_init_35 am_kc_0 ?_
  refine am_iast dX10_init_36 (am_sh.of h_s0 rfl) (fun b2 => ?_)
  refine am_dup dX10_init_37 rfl ?_
  refine am_iconst dX10_init_38 am_kc_2 ?_
  refine am_iconst dX10_init_39 am_kc_2 ?_
  refine am_iast dX10_init_40 (am_sh.of h_s0 rfl) (fun b3 => ?_)
  refine am_dup dX10_init_41 rfl ?_
  refine am_iconst dX10_init_42 am_kc_3 ?_
  refine am_iconst dX10_init_43 am_kc_3 ?_
  refine am_iast dX10_init_44 (am_sh.of h_s0 rfl) (fun b4 => ?_)
  refine am_dup dX10_init_45 rfl ?_
  refine am_iconst dX10_init_46 am_kc_4 ?_
  refine am_bipush (x := 9) dX10_init_47 (by decide) ?_
  refine am_iast dX10_init_49 (am_sh.of h_s0 rfl) (fun b5 => ?_)
  refine am_dup dX10_init_50 rfl ?_
  refine am_iconst dX10_init_51 am_kc_5 ?_
  refine am_bipush (x := 8) dX10_init_52 (by decide) ?_
  refine am_iast dX10_init_54 (am_sh.of h_s0 rfl) (fun b6 => ?_)
  refine am_dup dX10_init_55 rfl ?_
  refine am_bipush (x := 6) dX10_init_56 (by decide) ?_
  refine am_iconst dX10_init_58 am_kc_1 ?_
  refine am_iast dX10_init_59 (am_sh.of h_s0 rfl) (fun b7 => ?_)
  refine am_dup dX10_init_60 rfl ?_
  refine am_bipush (x := 7) dX10_init_61 (by decide) ?_
  refine am_iconst dX10_init_63 am_kc_1 ?_
  refine am_iast dX10_init_64 (am_sh.of h_s0 rfl) (fun b8 => ?_)
  exact sX10_init_65 G x0 s0 s1 (am_pI (am_pI (am_pI (am_pI (am_pI (am_pI (am_pI (am_pI M s0 ((0 : Int32).toNatClampNeg) 1) s0 ((1 : Int32).toNatClampNeg) 0) s0 ((2 : Int32).toNatClampNeg) 2) s0 ((3 : Int32).toNatClampNeg) 3) s0 ((4 : Int32).toNatClampNeg) 9) s0 ((5 : Int32).toNatClampNeg) 8) s0 ((6 : Int32).toNatClampNeg) 1) s0 ((7 : Int32).toNatClampNeg) 1) (am_sh.of h_x0 rfl) (am_sh.of h_s0 rfl) (am_sh.of h_s1 rfl)
set_option maxRecDepth 100000 in
set_option maxHeartbeats 4000000 in
theorem sX10_init_0 (G : am_G) (a0 : Nat) (M : am_M) (h_a0 : am_sh M a0 14) : am_S am_ev G 1 yX10_init.cls yX10_init.name cX10_init 1 none 0 [(0, .ref a0)] [] M (fX10_init a0 M) := by
  show am_S am_ev G 1 yX10_init.cls yX10_init.name cX10_init 1 none 0 [(0, .ref a0)] [] M (fX10_init_29 a0 (am_n (am_pI (am_pI (am_pI (am_pI M a0 0 4) a0 1 1) a0 3 4) a0 4 3)) a0 (am_new (am_pI (am_pI (am_pI (am_pI M a0 0 4) a0 1 1) a0 3 4) a0 4 3) 0 48))
  refine am_aload_n 0 dX10_init_0 rfl rfl ?_
  refine am_obj dX10_init_1 ⟨ml_RX10_1, oc_im, oc_code⟩ (by decide) (Nat.le_of_ble_eq_true rfl) ?_
  refine am_aload_n 0 dX10_init_4 rfl rfl ?_
  refine am_iconst dX10_init_5 am_kc_4 ?_
  refine am_putI 9 dX10_init_6 fl_RX10_7 h_a0 rfl rfl rfl rfl ?_
  refine am_aload_n 0 dX10_init_9 rfl rfl ?_
  refine am_iconst dX10_init_10 am_kc_1 ?_
  refine am_putI 9 dX10_init_11 fl_RX10_13 (am_sh.of h_a0 rfl) rfl rfl rfl rfl ?_
  refine am_aload_n 0 dX10_init_14 rfl rfl ?_
  refine am_iconst dX10_init_15 am_kc_4 ?_
  refine am_putI 9 dX10_init_16 fl_RX10_16 (am_sh.of h_a0 rfl) rfl rfl rfl rfl ?_
  refine am_aload_n 0 dX10_init_19 rfl rfl ?_
  refine am_iconst dX10_init_20 am_kc_3 ?_
  refine am_putI 9 dX10_init_21 fl_RX10_19 (am_sh.of h_a0 rfl) rfl rfl rfl rfl ?_
  refine am_aload_n 0 dX10_init_24 rfl rfl ?_
  refine am_bipush (x := 48) dX10_init_25 (by decide) ?_
  refine am_newaI 48 dX10_init_27 ac_int (by decide) (by decide) (by decide) ?_
  exact sX10_init_29 G a0 (am_n (am_pI (am_pI (am_pI (am_pI M a0 0 4) a0 1 1) a0 3 4) a0 4 3)) a0 (am_new (am_pI (am_pI (am_pI (am_pI M a0 0 4) a0 1 1) a0 3 4) a0 4 3) 0 48) (am_sh.mono (am_le_new _ _ _) (am_sh.of h_a0 rfl)) (am_sh_new _ _ _) (am_sh.mono (am_le_new _ _ _) (am_sh.of h_a0 rfl))
theorem CX10_init (G : am_G) (a0 : Nat) (M : am_M) (h_a0 : am_sh M a0 14) : am_C am_ev G 1 yX10_init cX10_init 1 none [.ref a0] M (fX10_init a0 M) :=
  am_meth (by decide) rfl (Nat.le_of_ble_eq_true rfl) (sX10_init_0 G a0 M h_a0)
def fX10_isIn (a0 : Int32) (a1 : Int32) (a2 : Int32) (M : am_M) : Option (Int32 × am_M) := if a0 < a1 then some (0, M) else if a2 < a0 then some (0, M) else some (1, M)
set_option maxRecDepth 100000 in
set_option maxHeartbeats 4000000 in
theorem sX10_isIn_0 (G : am_G) (a0 : Int32) (a1 : Int32) (a2 : Int32) (M : am_M) : am_S am_ei G 0 yX10_isIn.cls yX10_isIn.name cX10_isIn 3 (some FieldType.boolean) 0 [(0, .int a0), (1, .int a1), (2, .int a2)] [] M (fX10_isIn a0 a1 a2 M) := by
  show am_S am_ei G 0 yX10_isIn.cls yX10_isIn.name cX10_isIn 3 (some FieldType.boolean) 0 [(0, .int a0), (1, .int a1), (2, .int a2)] [] M (if a0 < a1 then some (0, M) else if a2 < a0 then some (0, M) else some (1, M))
  refine am_iload_n 0 dX10_isIn_0 rfl rfl ?_
  refine am_iload_n 1 dX10_isIn_1 rfl rfl ?_
  refine am_icmp_lt (tgt := 14) dX10_isIn_2 (by decide) (fun c1 => ?_) (fun c1 => ?_)
  · refine am_iconst dX10_isIn_14 am_kc_0 ?_
    exact am_zret0 dX10_isIn_15
  · refine am_iload_n 0 dX10_isIn_5 rfl rfl ?_
    refine am_iload_n 2 dX10_isIn_6 rfl rfl ?_
    refine am_icmp_gt (tgt := 14) dX10_isIn_7 (by decide) (fun c2 => ?_) (fun c2 => ?_)
    · refine am_iconst dX10_isIn_14 am_kc_0 ?_
      exact am_zret0 dX10_isIn_15
    · refine am_iconst dX10_isIn_10 am_kc_1 ?_
      refine am_goto (tgt := 15) dX10_isIn_11 (by decide) ?_
      exact am_zret1 dX10_isIn_15
theorem CX10_isIn (G : am_G) (a0 : Int32) (a1 : Int32) (a2 : Int32) (M : am_M) : am_C am_ei G 0 yX10_isIn cX10_isIn 3 (some FieldType.boolean) [.int a0, .int a1, .int a2] M (fX10_isIn a0 a1 a2 M) :=
  am_meth (by decide) rfl (Nat.le_of_ble_eq_true rfl) (sX10_isIn_0 G a0 a1 a2 M)
def fX10_side (a0 : Nat) (M : am_M) : Option (Int32 × am_M) := some (1 <<< ((M.1 a0 0) &&& 31), M)
set_option maxRecDepth 100000 in
set_option maxHeartbeats 4000000 in
theorem sX10_side_0 (G : am_G) (a0 : Nat) (M : am_M) (h_a0 : am_sh M a0 14) : am_S am_ei G 0 yX10_side.cls yX10_side.name cX10_side 1 (some FieldType.int) 0 [(0, .ref a0)] [] M (fX10_side a0 M) := by
  show am_S am_ei G 0 yX10_side.cls yX10_side.name cX10_side 1 (some FieldType.int) 0 [(0, .ref a0)] [] M (some (1 <<< ((M.1 a0 0) &&& 31), M))
  refine am_iconst dX10_side_0 am_kc_1 ?_
  refine am_aload_n 0 dX10_side_1 rfl rfl ?_
  refine am_getI 9 dX10_side_2 fl_RX10_7 h_a0 rfl ?_
  refine am_ishl dX10_side_5 ?_
  exact am_iret dX10_side_6
theorem CX10_side (G : am_G) (a0 : Nat) (M : am_M) (h_a0 : am_sh M a0 14) : am_C am_ei G 0 yX10_side cX10_side 1 (some FieldType.int) [.ref a0] M (fX10_side a0 M) :=
  am_meth (by decide) rfl (Nat.le_of_ble_eq_true rfl) (sX10_side_0 G a0 M h_a0)
def fX10_cells (a0 : Nat) (M : am_M) : Option (Int32 × am_M) := some (1 <<< ((2 * (M.1 a0 0)) &&& 31), M)
set_option maxRecDepth 100000 in
set_option maxHeartbeats 4000000 in
theorem sX10_cells_0 (G : am_G) (a0 : Nat) (M : am_M) (h_a0 : am_sh M a0 14) : am_S am_ei G 0 yX10_cells.cls yX10_cells.name cX10_cells 1 (some FieldType.int) 0 [(0, .ref a0)] [] M (fX10_cells a0 M) := by
  show am_S am_ei G 0 yX10_cells.cls yX10_cells.name cX10_cells 1 (some FieldType.int) 0 [(0, .ref a0)] [] M (some (1 <<< ((2 * (M.1 a0 0)) &&& 31), M))
  refine am_iconst dX10_cells_0 am_kc_1 ?_
  refine am_iconst dX10_cells_1 am_kc_2 ?_
  refine am_aload_n 0 dX10_cells_2 rfl rfl ?_
  refine am_getI 9 dX10_cells_3 fl_RX10_7 h_a0 rfl ?_
  refine am_imul dX10_cells_6 ?_
  refine am_ishl dX10_cells_7 ?_
  exact am_iret dX10_cells_8
theorem CX10_cells (G : am_G) (a0 : Nat) (M : am_M) (h_a0 : am_sh M a0 14) : am_C am_ei G 0 yX10_cells cX10_cells 1 (some FieldType.int) [.ref a0] M (fX10_cells a0 M) :=
  am_meth (by decide) rfl (Nat.le_of_ble_eq_true rfl) (sX10_cells_0 G a0 M h_a0)
def fX10_isCell (a0 : Nat) (a1 : Int32) (a2 : Int32) (M : am_M) : Option (Int32 × am_M) := (fX10_side a0 M).bind fun p6 => (fX10_isIn a1 0 (p6.1 - 1) p6.2).bind fun p12 => if p12.1 = 0 then some (0, p12.2) else (fX10_side a0 p12.2).bind fun p19 => (fX10_isIn a2 0 (p19.1 - 1) p19.2).bind fun p25 => if p25.1 = 0 then some (0, p25.2) else some (1, p25.2)
set_option maxRecDepth 100000 in
set_option maxHeartbeats 4000000 in
theorem sX10_isCell_0 (G : am_G) (a0 : Nat) (a1 : Int32) (a2 : Int32) (M : am_M) (h_a0 : am_sh M a0 14) : am_S am_ei G 1 yX10_isCell.cls yX10_isCell.name cX10_isCell 3 (some FieldType.boolean) 0 [(0, .ref a0), (1, .int a1), (2, .int a2)] [] M (fX10_isCell a0 a1 a2 M) := by
  show am_S am_ei G 1 yX10_isCell.cls yX10_isCell.name cX10_isCell 3 (some FieldType.boolean) 0 [(0, .ref a0), (1, .int a1), (2, .int a2)] [] M ((fX10_side a0 M).bind fun p6 => (fX10_isIn a1 0 (p6.1 - 1) p6.2).bind fun p12 => if p12.1 = 0 then some (0, p12.2) else (fX10_side a0 p12.2).bind fun p19 => (fX10_isIn a2 0 (p19.1 - 1) p19.2).bind fun p25 => if p25.1 = 0 then some (0, p25.2) else some (1, p25.2))
  refine am_iload_n 1 dX10_isCell_0 rfl rfl ?_
  refine am_iconst dX10_isCell_1 am_kc_0 ?_
  refine am_aload_n 0 dX10_isCell_2 rfl rfl ?_
  refine am_callVi 9 [] (CX10_side G a0 M h_a0) dX10_isCell_3 mb_yX10_side ⟨ml_RX10_62, im_yX10_side, se_yX10_side⟩ rfl h_a0 (by decide) rfl rfl (Nat.le_of_ble_eq_true rfl) (fun v5 M2 q1 w4 l3 => ?_)
  refine am_iconst dX10_isCell_6 am_kc_1 ?_
  refine am_isub dX10_isCell_7 ?_
  refine am_callSi [.int a1, .int 0, .int (v5 - 1)] (CX10_isIn G a1 0 (v5 - 1) M2) dX10_isCell_8 mb_yX10_isIn ⟨ml_RX10_66, sm_yX10_isIn⟩ (by decide) rfl rfl (Nat.le_of_ble_eq_true rfl) (fun v11 M8 q7 w10 l9 => ?_)
  refine am_if_eq (tgt := 32) dX10_isCell_11 (by decide) (fun c13 => ?_) (fun c13 => ?_)
  · refine am_iconst dX10_isCell_32 am_kc_0 ?_
    exact am_zret0 dX10_isCell_33
  · refine am_iload_n 2 dX10_isCell_14 rfl rfl ?_
    refine am_iconst dX10_isCell_15 am_kc_0 ?_
    refine am_aload_n 0 dX10_isCell_16 rfl rfl ?_
    refine am_callVi 9 [] (CX10_side G a0 M8 (am_sh.mono l9 (am_sh.mono l3 h_a0))) dX10_isCell_17 mb_yX10_side ⟨ml_RX10_62, im_yX10_side, se_yX10_side⟩ rfl (am_sh.mono l9 (am_sh.mono l3 h_a0)) (by decide) rfl rfl (Nat.le_of_ble_eq_true rfl) (fun v18 M15 q14 w17 l16 => ?_)
    refine am_iconst dX10_isCell_20 am_kc_1 ?_
    refine am_isub dX10_isCell_21 ?_
    refine am_callSi [.int a2, .int 0, .int (v18 - 1)] (CX10_isIn G a2 0 (v18 - 1) M15) dX10_isCell_22 mb_yX10_isIn ⟨ml_RX10_66, sm_yX10_isIn⟩ (by decide) rfl rfl (Nat.le_of_ble_eq_true rfl) (fun v24 M21 q20 w23 l22 => ?_)
    refine am_if_eq (tgt := 32) dX10_isCell_25 (by decide) (fun c26 => ?_) (fun c26 => ?_)
    · refine am_iconst dX10_isCell_32 am_kc_0 ?_
      exact am_zret0 dX10_isCell_33
    · refine am_iconst dX10_isCell_28 am_kc_1 ?_
      refine am_goto (tgt := 33) dX10_isCell_29 (by decide) ?_
      exact am_zret1 dX10_isCell_33
theorem CX10_isCell (G : am_G) (a0 : Nat) (a1 : Int32) (a2 : Int32) (M : am_M) (h_a0 : am_sh M a0 14) : am_C am_ei G 1 yX10_isCell cX10_isCell 3 (some FieldType.boolean) [.ref a0, .int a1, .int a2] M (fX10_isCell a0 a1 a2 M) :=
  am_meth (by decide) rfl (Nat.le_of_ble_eq_true rfl) (sX10_isCell_0 G a0 a1 a2 M h_a0)
def fX10_write (a0 : Nat) (a1 : Int32) (M : am_M) : Option (Int32 × am_M) := (fX10_isIn a1 32 126 M).bind fun p6 => if p6.1 = 0 then some ((-1), p6.2) else if p6.2.1 a0 10 = 200 then some ((-3), p6.2) else (p6.2.2.2.1 a0 9).bind fun r9 => if p6.2.1 a0 10 < 0 ∨ am_len p6.2 r9 ≤ (p6.2.1 a0 10).toNatClampNeg then none else some ((am_pI (am_pI p6.2 r9 (p6.2.1 a0 10).toNatClampNeg a1) a0 10 (((am_pI p6.2 r9 (p6.2.1 a0 10).toNatClampNeg a1).1 a0 10) + 1)).1 a0 10, am_pI (am_pI p6.2 r9 (p6.2.1 a0 10).toNatClampNeg a1) a0 10 (((am_pI p6.2 r9 (p6.2.1 a0 10).toNatClampNeg a1).1 a0 10) + 1))
set_option maxRecDepth 100000 in
set_option maxHeartbeats 4000000 in
theorem sX10_write_0 (G : am_G) (a0 : Nat) (a1 : Int32) (M : am_M) (h_a0 : am_sh M a0 14) : am_S am_ei G 1 yX10_write.cls yX10_write.name cX10_write 2 (some FieldType.int) 0 [(0, .ref a0), (1, .int a1)] [] M (fX10_write a0 a1 M) := by
  show am_S am_ei G 1 yX10_write.cls yX10_write.name cX10_write 2 (some FieldType.int) 0 [(0, .ref a0), (1, .int a1)] [] M ((fX10_isIn a1 32 126 M).bind fun p6 => if p6.1 = 0 then some ((-1), p6.2) else if p6.2.1 a0 10 = 200 then some ((-3), p6.2) else (p6.2.2.2.1 a0 9).bind fun r9 => if p6.2.1 a0 10 < 0 ∨ am_len p6.2 r9 ≤ (p6.2.1 a0 10).toNatClampNeg then none else some ((am_pI (am_pI p6.2 r9 (p6.2.1 a0 10).toNatClampNeg a1) a0 10 (((am_pI p6.2 r9 (p6.2.1 a0 10).toNatClampNeg a1).1 a0 10) + 1)).1 a0 10, am_pI (am_pI p6.2 r9 (p6.2.1 a0 10).toNatClampNeg a1) a0 10 (((am_pI p6.2 r9 (p6.2.1 a0 10).toNatClampNeg a1).1 a0 10) + 1)))
  refine am_iload_n 1 dX10_write_0 rfl rfl ?_
  refine am_bipush (x := 32) dX10_write_1 (by decide) ?_
  refine am_bipush (x := 126) dX10_write_3 (by decide) ?_
  refine am_callSi [.int a1, .int 32, .int 126] (CX10_isIn G a1 32 126 M) dX10_write_5 mb_yX10_isIn ⟨ml_RX10_66, sm_yX10_isIn⟩ (by decide) rfl rfl (Nat.le_of_ble_eq_true rfl) (fun v5 M2 q1 w4 l3 => ?_)
  refine am_if_ne (tgt := 13) dX10_write_8 (by decide) (fun c7 => ?_) (fun c7 => ?_)
  · refine am_aload_n 0 dX10_write_13 rfl rfl ?_
    refine am_getI 9 dX10_write_14 fl_RX10_70 (am_sh.mono l3 h_a0) rfl ?_
    refine am_sipush (x := 200) dX10_write_17 (by decide) ?_
    refine am_icmp_ne (tgt := 26) dX10_write_20 (by decide) (fun c8 => ?_) (fun c8 => ?_)
    · refine am_aload_n 0 dX10_write_26 rfl rfl ?_
      refine am_getR 9 dX10_write_27 fl_RX10_35 (am_sh.mono l3 h_a0) rfl (fun r9 e10 h11 => ?_)
      refine am_aload_n 0 dX10_write_30 rfl rfl ?_
      refine am_getI 9 dX10_write_31 fl_RX10_70 (am_sh.mono l3 h_a0) rfl ?_
      refine am_iload_n 1 dX10_write_34 rfl rfl ?_
      refine am_iast dX10_write_35 h11 (fun b12 => ?_)
      refine am_aload_n 0 dX10_write_36 rfl rfl ?_
      refine am_dup dX10_write_37 rfl ?_
      refine am_getI 9 dX10_write_38 fl_RX10_70 (am_sh.of (am_sh.mono l3 h_a0) rfl) rfl ?_
      refine am_iconst dX10_write_41 am_kc_1 ?_
      refine am_iadd dX10_write_42 ?_
      refine am_putI 9 dX10_write_43 fl_RX10_70 (am_sh.of (am_sh.mono l3 h_a0) rfl) rfl rfl rfl rfl ?_
      refine am_aload_n 0 dX10_write_46 rfl rfl ?_
      refine am_getI 9 dX10_write_47 fl_RX10_70 (am_sh.of (am_sh.mono l3 h_a0) rfl) rfl ?_
      exact am_iret dX10_write_50
    · refine am_bipush (x := -3) dX10_write_23 (by decide) ?_
      exact am_iret dX10_write_25
  · refine am_iconst dX10_write_11 am_kc_m1 ?_
    exact am_iret dX10_write_12
theorem CX10_write (G : am_G) (a0 : Nat) (a1 : Int32) (M : am_M) (h_a0 : am_sh M a0 14) : am_C am_ei G 1 yX10_write cX10_write 2 (some FieldType.int) [.ref a0, .int a1] M (fX10_write a0 a1 M) :=
  am_meth (by decide) rfl (Nat.le_of_ble_eq_true rfl) (sX10_write_0 G a0 a1 M h_a0)
def fX10_wipe (a0 : Nat) (M : am_M) : Option (Int32 × am_M) := some (M.1 a0 10, am_pI M a0 10 0)
set_option maxRecDepth 100000 in
set_option maxHeartbeats 4000000 in
theorem sX10_wipe_0 (G : am_G) (a0 : Nat) (M : am_M) (h_a0 : am_sh M a0 14) : am_S am_ei G 0 yX10_wipe.cls yX10_wipe.name cX10_wipe 2 (some FieldType.int) 0 [(0, .ref a0)] [] M (fX10_wipe a0 M) := by
  show am_S am_ei G 0 yX10_wipe.cls yX10_wipe.name cX10_wipe 2 (some FieldType.int) 0 [(0, .ref a0)] [] M (some (M.1 a0 10, am_pI M a0 10 0))
  refine am_aload_n 0 dX10_wipe_0 rfl rfl ?_
  refine am_getI 9 dX10_wipe_1 fl_RX10_70 h_a0 rfl ?_
  refine am_istore_n (L' := [(1, .int (M.1 a0 10)), (0, .ref a0)]) dX10_wipe_4 rfl (by decide) rfl ?_
  refine am_aload_n 1 dX10_wipe_5 rfl rfl ?_
  refine am_iconst dX10_wipe_6 am_kc_0 ?_
  refine am_putI 9 dX10_wipe_7 fl_RX10_70 h_a0 rfl rfl rfl rfl ?_
  refine am_iload_n 0 dX10_wipe_10 rfl rfl ?_
  exact am_iret dX10_wipe_11
theorem CX10_wipe (G : am_G) (a0 : Nat) (M : am_M) (h_a0 : am_sh M a0 14) : am_C am_ei G 0 yX10_wipe cX10_wipe 2 (some FieldType.int) [.ref a0] M (fX10_wipe a0 M) :=
  am_meth (by decide) rfl (Nat.le_of_ble_eq_true rfl) (sX10_wipe_0 G a0 M h_a0)
def fX10_here (a0 : Nat) (M : am_M) : Option (Int32 × am_M) := if M.1 a0 10 ≤ M.1 a0 13 then some ((-4), M) else (M.2.2.1 a0 9).bind fun r2 => if M.1 a0 13 < 0 ∨ am_len M r2 ≤ (M.1 a0 13).toNatClampNeg then none else some (M.1 r2 ((M.1 a0 13).toNatClampNeg), M)
set_option maxRecDepth 100000 in
set_option maxHeartbeats 4000000 in
theorem sX10_here_0 (G : am_G) (a0 : Nat) (M : am_M) (h_a0 : am_sh M a0 14) : am_S am_ei G 0 yX10_here.cls yX10_here.name cX10_here 1 (some FieldType.int) 0 [(0, .ref a0)] [] M (fX10_here a0 M) := by
  show am_S am_ei G 0 yX10_here.cls yX10_here.name cX10_here 1 (some FieldType.int) 0 [(0, .ref a0)] [] M (if M.1 a0 10 ≤ M.1 a0 13 then some ((-4), M) else (M.2.2.1 a0 9).bind fun r2 => if M.1 a0 13 < 0 ∨ am_len M r2 ≤ (M.1 a0 13).toNatClampNeg then none else some (M.1 r2 ((M.1 a0 13).toNatClampNeg), M))
  refine am_aload_n 0 dX10_here_0 rfl rfl ?_
  refine am_getI 9 dX10_here_1 fl_RX10_73 h_a0 rfl ?_
  refine am_aload_n 0 dX10_here_4 rfl rfl ?_
  refine am_getI 9 dX10_here_5 fl_RX10_70 h_a0 rfl ?_
  refine am_icmp_ge (tgt := 23) dX10_here_8 (by decide) (fun c1 => ?_) (fun c1 => ?_)
  · refine am_bipush (x := -4) dX10_here_23 (by decide) ?_
    exact am_iret dX10_here_25
  · refine am_aload_n 0 dX10_here_11 rfl rfl ?_
    refine am_getR 9 dX10_here_12 fl_RX10_35 h_a0 rfl (fun r2 e3 h4 => ?_)
    refine am_aload_n 0 dX10_here_15 rfl rfl ?_
    refine am_getI 9 dX10_here_16 fl_RX10_73 h_a0 rfl ?_
    refine am_iald dX10_here_19 h4 (fun b5 => ?_)
    refine am_goto (tgt := 25) dX10_here_20 (by decide) ?_
    exact am_iret dX10_here_25
theorem CX10_here (G : am_G) (a0 : Nat) (M : am_M) (h_a0 : am_sh M a0 14) : am_C am_ei G 0 yX10_here cX10_here 1 (some FieldType.int) [.ref a0] M (fX10_here a0 M) :=
  am_meth (by decide) rfl (Nat.le_of_ble_eq_true rfl) (sX10_here_0 G a0 M h_a0)
def fX10_isFigure (a0 : Nat) (M : am_M) : Option (Int32 × am_M) := (fX10_here a0 M).bind fun p6 => (fX10_isIn p6.1 48 57 p6.2).bind fun p12 => some (p12.1 &&& 1, p12.2)
set_option maxRecDepth 100000 in
set_option maxHeartbeats 4000000 in
theorem sX10_isFigure_0 (G : am_G) (a0 : Nat) (M : am_M) (h_a0 : am_sh M a0 14) : am_S am_ei G 1 yX10_isFigure.cls yX10_isFigure.name cX10_isFigure 1 (some FieldType.boolean) 0 [(0, .ref a0)] [] M (fX10_isFigure a0 M) := by
  show am_S am_ei G 1 yX10_isFigure.cls yX10_isFigure.name cX10_isFigure 1 (some FieldType.boolean) 0 [(0, .ref a0)] [] M ((fX10_here a0 M).bind fun p6 => (fX10_isIn p6.1 48 57 p6.2).bind fun p12 => some (p12.1 &&& 1, p12.2))
  refine am_aload_n 0 dX10_isFigure_0 rfl rfl ?_
  refine am_callVi 9 [] (CX10_here G a0 M h_a0) dX10_isFigure_1 mb_yX10_here ⟨ml_RX10_76, im_yX10_here, se_yX10_here⟩ rfl h_a0 (by decide) rfl rfl (Nat.le_of_ble_eq_true rfl) (fun v5 M2 q1 w4 l3 => ?_)
  refine am_bipush (x := 48) dX10_isFigure_4 (by decide) ?_
  refine am_bipush (x := 57) dX10_isFigure_6 (by decide) ?_
  refine am_callSi [.int v5, .int 48, .int 57] (CX10_isIn G v5 48 57 M2) dX10_isFigure_8 mb_yX10_isIn ⟨ml_RX10_66, sm_yX10_isIn⟩ (by decide) rfl rfl (Nat.le_of_ble_eq_true rfl) (fun v11 M8 q7 w10 l9 => ?_)
  exact am_zret dX10_isFigure_11
theorem CX10_isFigure (G : am_G) (a0 : Nat) (M : am_M) (h_a0 : am_sh M a0 14) : am_C am_ei G 1 yX10_isFigure cX10_isFigure 1 (some FieldType.boolean) [.ref a0] M (fX10_isFigure a0 M) :=
  am_meth (by decide) rfl (Nat.le_of_ble_eq_true rfl) (sX10_isFigure_0 G a0 M h_a0)
def fX10_causes (a0 : Nat) (a1 : Int32) (a2 : Int32) (M : am_M) : Option (Int32 × am_M) := (M.2.2.1 a0 12).bind fun r1 => if (1 : Int32) < 0 ∨ am_len M r1 ≤ (1 : Int32).toNatClampNeg then none else if a1 = 4 then ((am_pI (am_pI M r1 ((1 : Int32).toNatClampNeg) a1) a0 11 2).2.2.1 a0 12).bind fun r6 => if (2 : Int32) < 0 ∨ am_len (am_pI (am_pI M r1 ((1 : Int32).toNatClampNeg) a1) a0 11 2) r6 ≤ (2 : Int32).toNatClampNeg then none else some (0, am_pI (am_pI (am_pI (am_pI M r1 ((1 : Int32).toNatClampNeg) a1) a0 11 2) r6 ((2 : Int32).toNatClampNeg) (20 + a2)) a0 11 3) else some (0, am_pI (am_pI M r1 ((1 : Int32).toNatClampNeg) a1) a0 11 2)
set_option maxRecDepth 100000 in
set_option maxHeartbeats 4000000 in
theorem sX10_causes_0 (G : am_G) (a0 : Nat) (a1 : Int32) (a2 : Int32) (M : am_M) (h_a0 : am_sh M a0 14) : am_S am_ei G 0 yX10_causes.cls yX10_causes.name cX10_causes 3 (some FieldType.boolean) 0 [(0, .ref a0), (1, .int a1), (2, .int a2)] [] M (fX10_causes a0 a1 a2 M) := by
  show am_S am_ei G 0 yX10_causes.cls yX10_causes.name cX10_causes 3 (some FieldType.boolean) 0 [(0, .ref a0), (1, .int a1), (2, .int a2)] [] M ((M.2.2.1 a0 12).bind fun r1 => if (1 : Int32) < 0 ∨ am_len M r1 ≤ (1 : Int32).toNatClampNeg then none else if a1 = 4 then ((am_pI (am_pI M r1 ((1 : Int32).toNatClampNeg) a1) a0 11 2).2.2.1 a0 12).bind fun r6 => if (2 : Int32) < 0 ∨ am_len (am_pI (am_pI M r1 ((1 : Int32).toNatClampNeg) a1) a0 11 2) r6 ≤ (2 : Int32).toNatClampNeg then none else some (0, am_pI (am_pI (am_pI (am_pI M r1 ((1 : Int32).toNatClampNeg) a1) a0 11 2) r6 ((2 : Int32).toNatClampNeg) (20 + a2)) a0 11 3) else some (0, am_pI (am_pI M r1 ((1 : Int32).toNatClampNeg) a1) a0 11 2))
  refine am_aload_n 0 dX10_causes_0 rfl rfl ?_
  refine am_getR 9 dX10_causes_1 fl_RX10_38 h_a0 rfl (fun r1 e2 h3 => ?_)
  refine am_iconst dX10_causes_4 am_kc_1 ?_
  refine am_iload_n 1 dX10_causes_5 rfl rfl ?_
  refine am_iast dX10_causes_6 h3 (fun b4 => ?_)
  refine am_aload_n 0 dX10_causes_7 rfl rfl ?_
  refine am_iconst dX10_causes_8 am_kc_2 ?_
  refine am_putI 9 dX10_causes_9 fl_RX10_79 (am_sh.of h_a0 rfl) rfl rfl rfl rfl ?_
  refine am_iload_n 1 dX10_causes_12 rfl rfl ?_
  refine am_iconst dX10_causes_13 am_kc_4 ?_
  refine am_icmp_ne (tgt := 32) dX10_causes_14 (by decide) (fun c5 => ?_) (fun c5 => ?_)
  · refine am_iconst dX10_causes_32 am_kc_0 ?_
    exact am_zret0 dX10_causes_33
  · refine am_aload_n 0 dX10_causes_17 rfl rfl ?_
    refine am_getR 9 dX10_causes_18 fl_RX10_38 (am_sh.of h_a0 rfl) rfl (fun r6 e7 h8 => ?_)
    refine am_iconst dX10_causes_21 am_kc_2 ?_
    refine am_bipush (x := 20) dX10_causes_22 (by decide) ?_
    refine am_iload_n 2 dX10_causes_24 rfl rfl ?_
    refine am_iadd dX10_causes_25 ?_
    refine am_iast dX10_causes_26 (am_sh.of (am_sh.of (M := am_pI (am_pI M r1 ((1 : Int32).toNatClampNeg) a1) a0 11 2) h8 rfl) rfl) (fun b9 => ?_)
    refine am_aload_n 0 dX10_causes_27 rfl rfl ?_
    refine am_iconst dX10_causes_28 am_kc_3 ?_
    refine am_putI 9 dX10_causes_29 fl_RX10_79 (am_sh.of h_a0 rfl) rfl rfl rfl rfl ?_
    refine am_iconst dX10_causes_32 am_kc_0 ?_
    exact am_zret0 dX10_causes_33
theorem CX10_causes (G : am_G) (a0 : Nat) (a1 : Int32) (a2 : Int32) (M : am_M) (h_a0 : am_sh M a0 14) : am_C am_ei G 0 yX10_causes cX10_causes 3 (some FieldType.boolean) [.ref a0, .int a1, .int a2] M (fX10_causes a0 a1 a2 M) :=
  am_meth (by decide) rfl (Nat.le_of_ble_eq_true rfl) (sX10_causes_0 G a0 a1 a2 M h_a0)
def fX10_number_61 (x0 : Nat) (M : am_M) : Option (Int32 × am_M) := (fX10_causes x0 2 0 M).bind fun p8 => some (p8.1 &&& 1, p8.2)
def fX10_number_50 (x0 : Nat) (x1 : Int32) (x2 : Int32) (x3 : Int32) (x4 : Int32) (x5 : Int32) (x6 : Int32) (M : am_M) : Option (Int32 × am_M) := if x5 = 0 then fX10_number_61 x0 M else if x5 = 4 then fX10_number_61 x0 M else (fX10_here x0 M).bind fun p15 => if p15.1 = x2 then ((am_pI p15.2 x0 13 ((p15.2.1 x0 13) + 1)).2.2.1 x0 18).bind fun r17 => if x1 < 0 ∨ am_len (am_pI p15.2 x0 13 ((p15.2.1 x0 13) + 1)) r17 ≤ x1.toNatClampNeg then none else (fX10_isIn x6 x3 x4 (am_pI (am_pI p15.2 x0 13 ((p15.2.1 x0 13) + 1)) r17 x1.toNatClampNeg x6)).bind fun p26 => if p26.1 = 0 then (fX10_causes x0 4 x1 p26.2).bind fun p33 => if p33.1 = 0 then some (0, p33.2) else some (1, p33.2) else some (1, p26.2) else (fX10_causes x0 3 0 p15.2).bind fun p40 => some (p40.1 &&& 1, p40.2)
def fX10_number_6 : ((Nat × Int32 × Int32 × Int32 × Int32 × Int32 × Int32 × am_M) → Option (Int32 × am_M)) → (Nat × Int32 × Int32 × Int32 × Int32 × Int32 × Int32 × am_M) → Option (Int32 × am_M) := fun k6 q0 => match q0 with
  | (x0, x1, x2, x3, x4, x5, x6, M) => if (4 : Int32) ≤ x5 then fX10_number_50 x0 x1 x2 x3 x4 x5 x6 M else (fX10_isFigure x0 M).bind fun p46 => if p46.1 = 0 then fX10_number_50 x0 x1 x2 x3 x4 x5 x6 p46.2 else (fX10_here x0 p46.2).bind fun p53 => k6 (x0, x1, x2, x3, x4, x5 + 1, ((10 * x6) + p53.1) - 48, am_pI p53.2 x0 13 ((p53.2.1 x0 13) + 1))
def fX10_number (a0 : Nat) (a1 : Int32) (a2 : Int32) (a3 : Int32) (a4 : Int32) (M : am_M) : Option (Int32 × am_M) := am_loop (fX10_number_6) 100000 (a0, a1, a2, a3, a4, 0, 0, M)
set_option maxRecDepth 100000 in
set_option maxHeartbeats 4000000 in
theorem sX10_number_61 (G : am_G) (x0 : Nat) (M : am_M) (h_x0 : am_sh M x0 14) : am_S am_ei G 2 yX10_number.cls yX10_number.name cX10_number 7 (some FieldType.boolean) 61 [(0, .ref x0)] [] M (fX10_number_61 x0 M) := by
  show am_S am_ei G 2 yX10_number.cls yX10_number.name cX10_number 7 (some FieldType.boolean) 61 [(0, .ref x0)] [] M ((fX10_causes x0 2 0 M).bind fun p8 => some (p8.1 &&& 1, p8.2))
  refine am_aload_n 0 dX10_number_61 rfl rfl ?_
  refine am_iconst dX10_number_62 am_kc_2 ?_
  refine am_iconst dX10_number_63 am_kc_0 ?_
  refine am_callVi 9 [.int 2, .int 0] (CX10_causes G x0 2 0 M h_x0) dX10_number_64 mb_yX10_causes ⟨ml_RX10_86, im_yX10_causes, se_yX10_causes⟩ rfl h_x0 (by decide) rfl rfl (Nat.le_of_ble_eq_true rfl) (fun v7 M4 q3 w6 l5 => ?_)
  exact am_zret dX10_number_67
set_option maxRecDepth 100000 in
set_option maxHeartbeats 4000000 in
theorem sX10_number_50 (G : am_G) (x0 : Nat) (x1 : Int32) (x2 : Int32) (x3 : Int32) (x4 : Int32) (x5 : Int32) (x6 : Int32) (M : am_M) (h_x0 : am_sh M x0 14) : am_S am_ei G 2 yX10_number.cls yX10_number.name cX10_number 7 (some FieldType.boolean) 50 [(0, .ref x0), (1, .int x1), (2, .int x2), (3, .int x3), (4, .int x4), (5, .int x5), (6, .int x6)] [] M (fX10_number_50 x0 x1 x2 x3 x4 x5 x6 M) := by
  show am_S am_ei G 2 yX10_number.cls yX10_number.name cX10_number 7 (some FieldType.boolean) 50 [(0, .ref x0), (1, .int x1), (2, .int x2), (3, .int x3), (4, .int x4), (5, .int x5), (6, .int x6)] [] M (if x5 = 0 then fX10_number_61 x0 M else if x5 = 4 then fX10_number_61 x0 M else (fX10_here x0 M).bind fun p15 => if p15.1 = x2 then ((am_pI p15.2 x0 13 ((p15.2.1 x0 13) + 1)).2.2.1 x0 18).bind fun r17 => if x1 < 0 ∨ am_len (am_pI p15.2 x0 13 ((p15.2.1 x0 13) + 1)) r17 ≤ x1.toNatClampNeg then none else (fX10_isIn x6 x3 x4 (am_pI (am_pI p15.2 x0 13 ((p15.2.1 x0 13) + 1)) r17 x1.toNatClampNeg x6)).bind fun p26 => if p26.1 = 0 then (fX10_causes x0 4 x1 p26.2).bind fun p33 => if p33.1 = 0 then some (0, p33.2) else some (1, p33.2) else some (1, p26.2) else (fX10_causes x0 3 0 p15.2).bind fun p40 => some (p40.1 &&& 1, p40.2))
  refine am_iload 5 dX10_number_50 rfl ?_
  refine am_if_eq (tgt := 61) dX10_number_52 (by decide) (fun c2 => ?_) (fun c2 => ?_)
  · refine am_sub [0] rfl ?_
    exact sX10_number_61 G x0 M h_x0
  · refine am_iload 5 dX10_number_55 rfl ?_
    refine am_iconst dX10_number_57 am_kc_4 ?_
    refine am_icmp_ne (tgt := 68) dX10_number_58 (by decide) (fun c9 => ?_) (fun c9 => ?_)
    · refine am_aload_n 0 dX10_number_68 rfl rfl ?_
      refine am_callVi 9 [] (CX10_here G x0 M h_x0) dX10_number_69 mb_yX10_here ⟨ml_RX10_76, im_yX10_here, se_yX10_here⟩ rfl h_x0 (by decide) rfl rfl (Nat.le_of_ble_eq_true rfl) (fun v14 M11 q10 w13 l12 => ?_)
      refine am_iload_n 2 dX10_number_72 rfl rfl ?_
      refine am_icmp_eq (tgt := 83) dX10_number_73 (by decide) (fun c16 => ?_) (fun c16 => ?_)
      · refine am_aload_n 0 dX10_number_83 rfl rfl ?_
        refine am_dup dX10_number_84 rfl ?_
        refine am_getI 9 dX10_number_85 fl_RX10_73 (am_sh.mono l12 h_x0) rfl ?_
        refine am_iconst dX10_number_88 am_kc_1 ?_
        refine am_iadd dX10_number_89 ?_
        refine am_putI 9 dX10_number_90 fl_RX10_73 (am_sh.mono l12 h_x0) rfl rfl rfl rfl ?_
        refine am_aload_n 0 dX10_number_93 rfl rfl ?_
        refine am_getR 9 dX10_number_94 fl_RX10_41 (am_sh.of (am_sh.mono l12 h_x0) rfl) rfl (fun r17 e18 h19 => ?_)
        refine am_iload_n 1 dX10_number_97 rfl rfl ?_
        refine am_iload 6 dX10_number_98 rfl ?_
        refine am_iast dX10_number_100 (am_sh.of (am_sh.of (M := am_pI M11 x0 13 ((M11.1 x0 13) + 1)) h19 rfl) rfl) (fun b20 => ?_)
        refine am_iload 6 dX10_number_101 rfl ?_
        refine am_iload_n 3 dX10_number_103 rfl rfl ?_
        refine am_iload 4 dX10_number_104 rfl ?_
        refine am_callSi [.int x6, .int x3, .int x4] (CX10_isIn G x6 x3 x4 (am_pI (am_pI M11 x0 13 ((M11.1 x0 13) + 1)) r17 x1.toNatClampNeg x6)) dX10_number_106 mb_yX10_isIn ⟨ml_RX10_66, sm_yX10_isIn⟩ (by decide) rfl rfl (Nat.le_of_ble_eq_true rfl) (fun v25 M22 q21 w24 l23 => ?_)
        refine am_if_ne (tgt := 121) dX10_number_109 (by decide) (fun c27 => ?_) (fun c27 => ?_)
        · refine am_iconst dX10_number_121 am_kc_1 ?_
          refine am_goto (tgt := 126) dX10_number_122 (by decide) ?_
          exact am_zret1 dX10_number_126
        · refine am_aload_n 0 dX10_number_112 rfl rfl ?_
          refine am_iconst dX10_number_113 am_kc_4 ?_
          refine am_iload_n 1 dX10_number_114 rfl rfl ?_
          refine am_callVi 9 [.int 4, .int x1] (CX10_causes G x0 4 x1 M22 (am_sh.mono l23 (am_sh.of (am_sh.mono l12 h_x0) rfl))) dX10_number_115 mb_yX10_causes ⟨ml_RX10_86, im_yX10_causes, se_yX10_causes⟩ rfl (am_sh.mono l23 (am_sh.of (am_sh.mono l12 h_x0) rfl)) (by decide) rfl rfl (Nat.le_of_ble_eq_true rfl) (fun v32 M29 q28 w31 l30 => ?_)
          refine am_if_eq (tgt := 125) dX10_number_118 (by decide) (fun c34 => ?_) (fun c34 => ?_)
          · refine am_iconst dX10_number_125 am_kc_0 ?_
            exact am_zret0 dX10_number_126
          · refine am_iconst dX10_number_121 am_kc_1 ?_
            refine am_goto (tgt := 126) dX10_number_122 (by decide) ?_
            exact am_zret1 dX10_number_126
      · refine am_aload_n 0 dX10_number_76 rfl rfl ?_
        refine am_iconst dX10_number_77 am_kc_3 ?_
        refine am_iconst dX10_number_78 am_kc_0 ?_
        refine am_callVi 9 [.int 3, .int 0] (CX10_causes G x0 3 0 M11 (am_sh.mono l12 h_x0)) dX10_number_79 mb_yX10_causes ⟨ml_RX10_86, im_yX10_causes, se_yX10_causes⟩ rfl (am_sh.mono l12 h_x0) (by decide) rfl rfl (Nat.le_of_ble_eq_true rfl) (fun v39 M36 q35 w38 l37 => ?_)
        exact am_zret dX10_number_82
    · refine am_sub [0] rfl ?_
      exact sX10_number_61 G x0 M h_x0
set_option maxRecDepth 100000 in
set_option maxHeartbeats 4000000 in
theorem sX10_number_6 (G : am_G) (k6 : (Nat × Int32 × Int32 × Int32 × Int32 × Int32 × Int32 × am_M) → Option (Int32 × am_M)) (hk6 : ∀ q : (Nat × Int32 × Int32 × Int32 × Int32 × Int32 × Int32 × am_M), (match q with | (x0, x1, x2, x3, x4, x5, x6, M) => am_sh M x0 14) → match q with | (x0, x1, x2, x3, x4, x5, x6, M) => am_S am_ei G 2 yX10_number.cls yX10_number.name cX10_number 7 (some FieldType.boolean) 6 [(0, .ref x0), (1, .int x1), (2, .int x2), (3, .int x3), (4, .int x4), (5, .int x5), (6, .int x6)] [] M (k6 (x0, x1, x2, x3, x4, x5, x6, M))) (x0 : Nat) (x1 : Int32) (x2 : Int32) (x3 : Int32) (x4 : Int32) (x5 : Int32) (x6 : Int32) (M : am_M) (h_x0 : am_sh M x0 14) : am_S am_ei G 2 yX10_number.cls yX10_number.name cX10_number 7 (some FieldType.boolean) 6 [(0, .ref x0), (1, .int x1), (2, .int x2), (3, .int x3), (4, .int x4), (5, .int x5), (6, .int x6)] [] M (fX10_number_6 k6 (x0, x1, x2, x3, x4, x5, x6, M)) := by
  show am_S am_ei G 2 yX10_number.cls yX10_number.name cX10_number 7 (some FieldType.boolean) 6 [(0, .ref x0), (1, .int x1), (2, .int x2), (3, .int x3), (4, .int x4), (5, .int x5), (6, .int x6)] [] M (if (4 : Int32) ≤ x5 then fX10_number_50 x0 x1 x2 x3 x4 x5 x6 M else (fX10_isFigure x0 M).bind fun p46 => if p46.1 = 0 then fX10_number_50 x0 x1 x2 x3 x4 x5 x6 p46.2 else (fX10_here x0 p46.2).bind fun p53 => k6 (x0, x1, x2, x3, x4, x5 + 1, ((10 * x6) + p53.1) - 48, am_pI p53.2 x0 13 ((p53.2.1 x0 13) + 1)))
  refine am_iload 5 dX10_number_6 rfl ?_
  refine am_iconst dX10_number_8 am_kc_4 ?_
  refine am_icmp_ge (tgt := 50) dX10_number_9 (by decide) (fun c1 => ?_) (fun c1 => ?_)
  · exact sX10_number_50 G x0 x1 x2 x3 x4 x5 x6 M h_x0
  · refine am_aload_n 0 dX10_number_12 rfl rfl ?_
    refine am_callVi 9 [] (CX10_isFigure G x0 M h_x0) dX10_number_13 mb_yX10_isFigure ⟨ml_RX10_82, im_yX10_isFigure, se_yX10_isFigure⟩ rfl h_x0 (by decide) rfl rfl (Nat.le_of_ble_eq_true rfl) (fun v45 M42 q41 w44 l43 => ?_)
    refine am_if_eq (tgt := 50) dX10_number_16 (by decide) (fun c47 => ?_) (fun c47 => ?_)
    · exact sX10_number_50 G x0 x1 x2 x3 x4 x5 x6 M42 (am_sh.mono l43 h_x0)
    · refine am_bipush (x := 10) dX10_number_19 (by decide) ?_
      refine am_iload 6 dX10_number_21 rfl ?_
      refine am_imul dX10_number_23 ?_
      refine am_aload_n 0 dX10_number_24 rfl rfl ?_
      refine am_callVi 9 [] (CX10_here G x0 M42 (am_sh.mono l43 h_x0)) dX10_number_25 mb_yX10_here ⟨ml_RX10_76, im_yX10_here, se_yX10_here⟩ rfl (am_sh.mono l43 h_x0) (by decide) rfl rfl (Nat.le_of_ble_eq_true rfl) (fun v52 M49 q48 w51 l50 => ?_)
      refine am_iadd dX10_number_28 ?_
      refine am_bipush (x := 48) dX10_number_29 (by decide) ?_
      refine am_isub dX10_number_31 ?_
      refine am_istore (L' := [(6, .int (((10 * x6) + v52) - 48)), (0, .ref x0), (1, .int x1), (2, .int x2), (3, .int x3), (4, .int x4), (5, .int x5)]) dX10_number_32 (by decide) rfl ?_
      refine am_aload_n 1 dX10_number_34 rfl rfl ?_
      refine am_dup dX10_number_35 rfl ?_
      refine am_getI 9 dX10_number_36 fl_RX10_73 (am_sh.mono l50 (am_sh.mono l43 h_x0)) rfl ?_
      refine am_iconst dX10_number_39 am_kc_1 ?_
      refine am_iadd dX10_number_40 ?_
      refine am_putI 9 dX10_number_41 fl_RX10_73 (am_sh.mono l50 (am_sh.mono l43 h_x0)) rfl rfl rfl rfl ?_
      refine am_iinc (L' := [(5, .int (x5 + 1)), (6, .int (((10 * x6) + v52) - 48)), (0, .ref x0), (1, .int x1), (2, .int x2), (3, .int x3), (4, .int x4)]) 6 dX10_number_44 rfl (by rfl) (by decide) rfl ?_
      refine am_goto (tgt := 6) dX10_number_47 (by decide) ?_
      refine am_sub [2, 3, 4, 5, 6, 0, 1] rfl ?_
      exact hk6 (x0, x1, x2, x3, x4, x5 + 1, ((10 * x6) + v52) - 48, am_pI M49 x0 13 ((M49.1 x0 13) + 1)) (am_sh.of (am_sh.mono l50 (am_sh.mono l43 h_x0)) rfl)
set_option maxRecDepth 100000 in
set_option maxHeartbeats 4000000 in
theorem lX10_number_6 (G : am_G) (n : Nat) (q : (Nat × Int32 × Int32 × Int32 × Int32 × Int32 × Int32 × am_M)) (hq : match q with | (x0, x1, x2, x3, x4, x5, x6, M) => am_sh M x0 14) : match q with | (x0, x1, x2, x3, x4, x5, x6, M) => am_S am_ei G 2 yX10_number.cls yX10_number.name cX10_number 7 (some FieldType.boolean) 6 [(0, .ref x0), (1, .int x1), (2, .int x2), (3, .int x3), (4, .int x4), (5, .int x5), (6, .int x6)] [] M (am_loop (fX10_number_6) n (x0, x1, x2, x3, x4, x5, x6, M)) := by
  exact am_loop_ok (fun q : (Nat × Int32 × Int32 × Int32 × Int32 × Int32 × Int32 × am_M) => match q with | (x0, x1, x2, x3, x4, x5, x6, M) => am_sh M x0 14) (fun q X => match q with | (x0, x1, x2, x3, x4, x5, x6, M) => am_S am_ei G 2 yX10_number.cls yX10_number.name cX10_number 7 (some FieldType.boolean) 6 [(0, .ref x0), (1, .int x1), (2, .int x2), (3, .int x3), (4, .int x4), (5, .int x5), (6, .int x6)] [] M X) (fun _ => am_none) (fun k6 hk6 q hq => match q, hq with | (x0, x1, x2, x3, x4, x5, x6, M), h_x0 => sX10_number_6 G k6 hk6 x0 x1 x2 x3 x4 x5 x6 M h_x0) n q hq
set_option maxRecDepth 100000 in
set_option maxHeartbeats 4000000 in
theorem sX10_number_0 (G : am_G) (a0 : Nat) (a1 : Int32) (a2 : Int32) (a3 : Int32) (a4 : Int32) (M : am_M) (h_a0 : am_sh M a0 14) : am_S am_ei G 2 yX10_number.cls yX10_number.name cX10_number 7 (some FieldType.boolean) 0 [(0, .ref a0), (1, .int a1), (2, .int a2), (3, .int a3), (4, .int a4)] [] M (fX10_number a0 a1 a2 a3 a4 M) := by
  show am_S am_ei G 2 yX10_number.cls yX10_number.name cX10_number 7 (some FieldType.boolean) 0 [(0, .ref a0), (1, .int a1), (2, .int a2), (3, .int a3), (4, .int a4)] [] M (am_loop (fX10_number_6) 100000 (a0, a1, a2, a3, a4, 0, 0, M))
  refine am_iconst dX10_number_0 am_kc_0 ?_
  refine am_istore (L' := [(5, .int 0), (0, .ref a0), (1, .int a1), (2, .int a2), (3, .int a3), (4, .int a4)]) dX10_number_1 (by decide) rfl ?_
  refine am_iconst dX10_number_3 am_kc_0 ?_
  refine am_istore (L' := [(6, .int 0), (5, .int 0), (0, .ref a0), (1, .int a1), (2, .int a2), (3, .int a3), (4, .int a4)]) dX10_number_4 (by decide) rfl ?_
  refine am_sub [2, 3, 4, 5, 6, 1, 0] rfl ?_
  exact lX10_number_6 G 100000 (a0, a1, a2, a3, a4, 0, 0, M) h_a0
theorem CX10_number (G : am_G) (a0 : Nat) (a1 : Int32) (a2 : Int32) (a3 : Int32) (a4 : Int32) (M : am_M) (h_a0 : am_sh M a0 14) : am_C am_ei G 2 yX10_number cX10_number 7 (some FieldType.boolean) [.ref a0, .int a1, .int a2, .int a3, .int a4] M (fX10_number a0 a1 a2 a3 a4 M) :=
  am_meth (by decide) rfl (Nat.le_of_ble_eq_true rfl) (sX10_number_0 G a0 a1 a2 a3 a4 M h_a0)
def fX10_readsWorld (a0 : Nat) (M : am_M) : Option (Int32 × am_M) := (fX10_number a0 0 44 1 6 M).bind fun p6 => if p6.1 = 0 then some (0, p6.2) else (fX10_number a0 1 59 0 1 p6.2).bind fun p13 => if p13.1 = 0 then some (0, p13.2) else some (1, p13.2)
set_option maxRecDepth 100000 in
set_option maxHeartbeats 4000000 in
theorem sX10_readsWorld_0 (G : am_G) (a0 : Nat) (M : am_M) (h_a0 : am_sh M a0 14) : am_S am_ei G 3 yX10_readsWorld.cls yX10_readsWorld.name cX10_readsWorld 1 (some FieldType.boolean) 0 [(0, .ref a0)] [] M (fX10_readsWorld a0 M) := by
  show am_S am_ei G 3 yX10_readsWorld.cls yX10_readsWorld.name cX10_readsWorld 1 (some FieldType.boolean) 0 [(0, .ref a0)] [] M ((fX10_number a0 0 44 1 6 M).bind fun p6 => if p6.1 = 0 then some (0, p6.2) else (fX10_number a0 1 59 0 1 p6.2).bind fun p13 => if p13.1 = 0 then some (0, p13.2) else some (1, p13.2))
  refine am_aload_n 0 dX10_readsWorld_0 rfl rfl ?_
  refine am_iconst dX10_readsWorld_1 am_kc_0 ?_
  refine am_bipush (x := 44) dX10_readsWorld_2 (by decide) ?_
  refine am_iconst dX10_readsWorld_4 am_kc_1 ?_
  refine am_bipush (x := 6) dX10_readsWorld_5 (by decide) ?_
  refine am_callVi 9 [.int 0, .int 44, .int 1, .int 6] (CX10_number G a0 0 44 1 6 M h_a0) dX10_readsWorld_7 mb_yX10_number ⟨ml_RX10_89, im_yX10_number, se_yX10_number⟩ rfl h_a0 (by decide) rfl rfl (Nat.le_of_ble_eq_true rfl) (fun v5 M2 q1 w4 l3 => ?_)
  refine am_if_eq (tgt := 29) dX10_readsWorld_10 (by decide) (fun c7 => ?_) (fun c7 => ?_)
  · refine am_iconst dX10_readsWorld_29 am_kc_0 ?_
    exact am_zret0 dX10_readsWorld_30
  · refine am_aload_n 0 dX10_readsWorld_13 rfl rfl ?_
    refine am_iconst dX10_readsWorld_14 am_kc_1 ?_
    refine am_bipush (x := 59) dX10_readsWorld_15 (by decide) ?_
    refine am_iconst dX10_readsWorld_17 am_kc_0 ?_
    refine am_iconst dX10_readsWorld_18 am_kc_1 ?_
    refine am_callVi 9 [.int 1, .int 59, .int 0, .int 1] (CX10_number G a0 1 59 0 1 M2 (am_sh.mono l3 h_a0)) dX10_readsWorld_19 mb_yX10_number ⟨ml_RX10_89, im_yX10_number, se_yX10_number⟩ rfl (am_sh.mono l3 h_a0) (by decide) rfl rfl (Nat.le_of_ble_eq_true rfl) (fun v12 M9 q8 w11 l10 => ?_)
    refine am_if_eq (tgt := 29) dX10_readsWorld_22 (by decide) (fun c14 => ?_) (fun c14 => ?_)
    · refine am_iconst dX10_readsWorld_29 am_kc_0 ?_
      exact am_zret0 dX10_readsWorld_30
    · refine am_iconst dX10_readsWorld_25 am_kc_1 ?_
      refine am_goto (tgt := 30) dX10_readsWorld_26 (by decide) ?_
      exact am_zret1 dX10_readsWorld_30
theorem CX10_readsWorld (G : am_G) (a0 : Nat) (M : am_M) (h_a0 : am_sh M a0 14) : am_C am_ei G 3 yX10_readsWorld cX10_readsWorld 1 (some FieldType.boolean) [.ref a0] M (fX10_readsWorld a0 M) :=
  am_meth (by decide) rfl (Nat.le_of_ble_eq_true rfl) (sX10_readsWorld_0 G a0 M h_a0)
def fX10_readsBox (a0 : Nat) (M : am_M) : Option (Int32 × am_M) := (fX10_number a0 0 44 0 ((M.1 a0 17) - 1) M).bind fun p6 => if p6.1 = 0 then some (0, p6.2) else (fX10_number a0 1 44 0 ((M.1 a0 17) - 1) p6.2).bind fun p13 => if p13.1 = 0 then some (0, p13.2) else (p13.2.2.2.1 a0 18).bind fun r15 => if (0 : Int32) < 0 ∨ am_len p13.2 r15 ≤ (0 : Int32).toNatClampNeg then none else (fX10_number a0 2 44 (p13.2.1 r15 ((0 : Int32).toNatClampNeg)) ((M.1 a0 17) - 1) p13.2).bind fun p24 => if p24.1 = 0 then some (0, p24.2) else (p24.2.2.2.1 a0 18).bind fun r26 => if (1 : Int32) < 0 ∨ am_len p24.2 r26 ≤ (1 : Int32).toNatClampNeg then none else (fX10_number a0 3 59 (p24.2.1 r26 ((1 : Int32).toNatClampNeg)) ((M.1 a0 17) - 1) p24.2).bind fun p35 => if p35.1 = 0 then some (0, p35.2) else some (1, p35.2)
set_option maxRecDepth 100000 in
set_option maxHeartbeats 4000000 in
theorem sX10_readsBox_0 (G : am_G) (a0 : Nat) (M : am_M) (h_a0 : am_sh M a0 14) : am_S am_ei G 3 yX10_readsBox.cls yX10_readsBox.name cX10_readsBox 2 (some FieldType.boolean) 0 [(0, .ref a0)] [] M (fX10_readsBox a0 M) := by
  show am_S am_ei G 3 yX10_readsBox.cls yX10_readsBox.name cX10_readsBox 2 (some FieldType.boolean) 0 [(0, .ref a0)] [] M ((fX10_number a0 0 44 0 ((M.1 a0 17) - 1) M).bind fun p6 => if p6.1 = 0 then some (0, p6.2) else (fX10_number a0 1 44 0 ((M.1 a0 17) - 1) p6.2).bind fun p13 => if p13.1 = 0 then some (0, p13.2) else (p13.2.2.2.1 a0 18).bind fun r15 => if (0 : Int32) < 0 ∨ am_len p13.2 r15 ≤ (0 : Int32).toNatClampNeg then none else (fX10_number a0 2 44 (p13.2.1 r15 ((0 : Int32).toNatClampNeg)) ((M.1 a0 17) - 1) p13.2).bind fun p24 => if p24.1 = 0 then some (0, p24.2) else (p24.2.2.2.1 a0 18).bind fun r26 => if (1 : Int32) < 0 ∨ am_len p24.2 r26 ≤ (1 : Int32).toNatClampNeg then none else (fX10_number a0 3 59 (p24.2.1 r26 ((1 : Int32).toNatClampNeg)) ((M.1 a0 17) - 1) p24.2).bind fun p35 => if p35.1 = 0 then some (0, p35.2) else some (1, p35.2))
  refine am_aload_n 0 dX10_readsBox_0 rfl rfl ?_
  refine am_getI 9 dX10_readsBox_1 fl_RX10_93 h_a0 rfl ?_
  refine am_iconst dX10_readsBox_4 am_kc_1 ?_
  refine am_isub dX10_readsBox_5 ?_
  refine am_istore_n (L' := [(1, .int ((M.1 a0 17) - 1)), (0, .ref a0)]) dX10_readsBox_6 rfl (by decide) rfl ?_
  refine am_aload_n 1 dX10_readsBox_7 rfl rfl ?_
  refine am_iconst dX10_readsBox_8 am_kc_0 ?_
  refine am_bipush (x := 44) dX10_readsBox_9 (by decide) ?_
  refine am_iconst dX10_readsBox_11 am_kc_0 ?_
  refine am_iload_n 0 dX10_readsBox_12 rfl rfl ?_
  refine am_callVi 9 [.int 0, .int 44, .int 0, .int ((M.1 a0 17) - 1)] (CX10_number G a0 0 44 0 ((M.1 a0 17) - 1) M h_a0) dX10_readsBox_13 mb_yX10_number ⟨ml_RX10_89, im_yX10_number, se_yX10_number⟩ rfl h_a0 (by decide) rfl rfl (Nat.le_of_ble_eq_true rfl) (fun v5 M2 q1 w4 l3 => ?_)
  refine am_if_eq (tgt := 69) dX10_readsBox_16 (by decide) (fun c7 => ?_) (fun c7 => ?_)
  · refine am_iconst dX10_readsBox_69 am_kc_0 ?_
    exact am_zret0 dX10_readsBox_70
  · refine am_aload_n 1 dX10_readsBox_19 rfl rfl ?_
    refine am_iconst dX10_readsBox_20 am_kc_1 ?_
    refine am_bipush (x := 44) dX10_readsBox_21 (by decide) ?_
    refine am_iconst dX10_readsBox_23 am_kc_0 ?_
    refine am_iload_n 0 dX10_readsBox_24 rfl rfl ?_
    refine am_callVi 9 [.int 1, .int 44, .int 0, .int ((M.1 a0 17) - 1)] (CX10_number G a0 1 44 0 ((M.1 a0 17) - 1) M2 (am_sh.mono l3 h_a0)) dX10_readsBox_25 mb_yX10_number ⟨ml_RX10_89, im_yX10_number, se_yX10_number⟩ rfl (am_sh.mono l3 h_a0) (by decide) rfl rfl (Nat.le_of_ble_eq_true rfl) (fun v12 M9 q8 w11 l10 => ?_)
    refine am_if_eq (tgt := 69) dX10_readsBox_28 (by decide) (fun c14 => ?_) (fun c14 => ?_)
    · refine am_iconst dX10_readsBox_69 am_kc_0 ?_
      exact am_zret0 dX10_readsBox_70
    · refine am_aload_n 1 dX10_readsBox_31 rfl rfl ?_
      refine am_iconst dX10_readsBox_32 am_kc_2 ?_
      refine am_bipush (x := 44) dX10_readsBox_33 (by decide) ?_
      refine am_aload_n 1 dX10_readsBox_35 rfl rfl ?_
      refine am_getR 9 dX10_readsBox_36 fl_RX10_41 (am_sh.mono l10 (am_sh.mono l3 h_a0)) rfl (fun r15 e16 h17 => ?_)
      refine am_iconst dX10_readsBox_39 am_kc_0 ?_
      refine am_iald dX10_readsBox_40 h17 (fun b18 => ?_)
      refine am_iload_n 0 dX10_readsBox_41 rfl rfl ?_
      refine am_callVi 9 [.int 2, .int 44, .int (M9.1 r15 ((0 : Int32).toNatClampNeg)), .int ((M.1 a0 17) - 1)] (CX10_number G a0 2 44 (M9.1 r15 ((0 : Int32).toNatClampNeg)) ((M.1 a0 17) - 1) M9 (am_sh.mono l10 (am_sh.mono l3 h_a0))) dX10_readsBox_42 mb_yX10_number ⟨ml_RX10_89, im_yX10_number, se_yX10_number⟩ rfl (am_sh.mono l10 (am_sh.mono l3 h_a0)) (by decide) rfl rfl (Nat.le_of_ble_eq_true rfl) (fun v23 M20 q19 w22 l21 => ?_)
      refine am_if_eq (tgt := 69) dX10_readsBox_45 (by decide) (fun c25 => ?_) (fun c25 => ?_)
      · refine am_iconst dX10_readsBox_69 am_kc_0 ?_
        exact am_zret0 dX10_readsBox_70
      · refine am_aload_n 1 dX10_readsBox_48 rfl rfl ?_
        refine am_iconst dX10_readsBox_49 am_kc_3 ?_
        refine am_bipush (x := 59) dX10_readsBox_50 (by decide) ?_
        refine am_aload_n 1 dX10_readsBox_52 rfl rfl ?_
        refine am_getR 9 dX10_readsBox_53 fl_RX10_41 (am_sh.mono l21 (am_sh.mono l10 (am_sh.mono l3 h_a0))) rfl (fun r26 e27 h28 => ?_)
        refine am_iconst dX10_readsBox_56 am_kc_1 ?_
        refine am_iald dX10_readsBox_57 h28 (fun b29 => ?_)
        refine am_iload_n 0 dX10_readsBox_58 rfl rfl ?_
        refine am_callVi 9 [.int 3, .int 59, .int (M20.1 r26 ((1 : Int32).toNatClampNeg)), .int ((M.1 a0 17) - 1)] (CX10_number G a0 3 59 (M20.1 r26 ((1 : Int32).toNatClampNeg)) ((M.1 a0 17) - 1) M20 (am_sh.mono l21 (am_sh.mono l10 (am_sh.mono l3 h_a0)))) dX10_readsBox_59 mb_yX10_number ⟨ml_RX10_89, im_yX10_number, se_yX10_number⟩ rfl (am_sh.mono l21 (am_sh.mono l10 (am_sh.mono l3 h_a0))) (by decide) rfl rfl (Nat.le_of_ble_eq_true rfl) (fun v34 M31 q30 w33 l32 => ?_)
        refine am_if_eq (tgt := 69) dX10_readsBox_62 (by decide) (fun c36 => ?_) (fun c36 => ?_)
        · refine am_iconst dX10_readsBox_69 am_kc_0 ?_
          exact am_zret0 dX10_readsBox_70
        · refine am_iconst dX10_readsBox_65 am_kc_1 ?_
          refine am_goto (tgt := 70) dX10_readsBox_66 (by decide) ?_
          exact am_zret1 dX10_readsBox_70
theorem CX10_readsBox (G : am_G) (a0 : Nat) (M : am_M) (h_a0 : am_sh M a0 14) : am_C am_ei G 3 yX10_readsBox cX10_readsBox 2 (some FieldType.boolean) [.ref a0] M (fX10_readsBox a0 M) :=
  am_meth (by decide) rfl (Nat.le_of_ble_eq_true rfl) (sX10_readsBox_0 G a0 M h_a0)
def fX10_readsDisc (a0 : Nat) (M : am_M) : Option (Int32 × am_M) := (fX10_number a0 0 44 0 ((M.1 a0 17) - 1) M).bind fun p6 => if p6.1 = 0 then some (0, p6.2) else (fX10_number a0 1 44 0 ((M.1 a0 17) - 1) p6.2).bind fun p13 => if p13.1 = 0 then some (0, p13.2) else (fX10_number a0 2 59 0 63 p13.2).bind fun p20 => if p20.1 = 0 then some (0, p20.2) else some (1, p20.2)
set_option maxRecDepth 100000 in
set_option maxHeartbeats 4000000 in
theorem sX10_readsDisc_0 (G : am_G) (a0 : Nat) (M : am_M) (h_a0 : am_sh M a0 14) : am_S am_ei G 3 yX10_readsDisc.cls yX10_readsDisc.name cX10_readsDisc 2 (some FieldType.boolean) 0 [(0, .ref a0)] [] M (fX10_readsDisc a0 M) := by
  show am_S am_ei G 3 yX10_readsDisc.cls yX10_readsDisc.name cX10_readsDisc 2 (some FieldType.boolean) 0 [(0, .ref a0)] [] M ((fX10_number a0 0 44 0 ((M.1 a0 17) - 1) M).bind fun p6 => if p6.1 = 0 then some (0, p6.2) else (fX10_number a0 1 44 0 ((M.1 a0 17) - 1) p6.2).bind fun p13 => if p13.1 = 0 then some (0, p13.2) else (fX10_number a0 2 59 0 63 p13.2).bind fun p20 => if p20.1 = 0 then some (0, p20.2) else some (1, p20.2))
  refine am_aload_n 0 dX10_readsDisc_0 rfl rfl ?_
  refine am_getI 9 dX10_readsDisc_1 fl_RX10_93 h_a0 rfl ?_
  refine am_iconst dX10_readsDisc_4 am_kc_1 ?_
  refine am_isub dX10_readsDisc_5 ?_
  refine am_istore_n (L' := [(1, .int ((M.1 a0 17) - 1)), (0, .ref a0)]) dX10_readsDisc_6 rfl (by decide) rfl ?_
  refine am_aload_n 1 dX10_readsDisc_7 rfl rfl ?_
  refine am_iconst dX10_readsDisc_8 am_kc_0 ?_
  refine am_bipush (x := 44) dX10_readsDisc_9 (by decide) ?_
  refine am_iconst dX10_readsDisc_11 am_kc_0 ?_
  refine am_iload_n 0 dX10_readsDisc_12 rfl rfl ?_
  refine am_callVi 9 [.int 0, .int 44, .int 0, .int ((M.1 a0 17) - 1)] (CX10_number G a0 0 44 0 ((M.1 a0 17) - 1) M h_a0) dX10_readsDisc_13 mb_yX10_number ⟨ml_RX10_89, im_yX10_number, se_yX10_number⟩ rfl h_a0 (by decide) rfl rfl (Nat.le_of_ble_eq_true rfl) (fun v5 M2 q1 w4 l3 => ?_)
  refine am_if_eq (tgt := 48) dX10_readsDisc_16 (by decide) (fun c7 => ?_) (fun c7 => ?_)
  · refine am_iconst dX10_readsDisc_48 am_kc_0 ?_
    exact am_zret0 dX10_readsDisc_49
  · refine am_aload_n 1 dX10_readsDisc_19 rfl rfl ?_
    refine am_iconst dX10_readsDisc_20 am_kc_1 ?_
    refine am_bipush (x := 44) dX10_readsDisc_21 (by decide) ?_
    refine am_iconst dX10_readsDisc_23 am_kc_0 ?_
    refine am_iload_n 0 dX10_readsDisc_24 rfl rfl ?_
    refine am_callVi 9 [.int 1, .int 44, .int 0, .int ((M.1 a0 17) - 1)] (CX10_number G a0 1 44 0 ((M.1 a0 17) - 1) M2 (am_sh.mono l3 h_a0)) dX10_readsDisc_25 mb_yX10_number ⟨ml_RX10_89, im_yX10_number, se_yX10_number⟩ rfl (am_sh.mono l3 h_a0) (by decide) rfl rfl (Nat.le_of_ble_eq_true rfl) (fun v12 M9 q8 w11 l10 => ?_)
    refine am_if_eq (tgt := 48) dX10_readsDisc_28 (by decide) (fun c14 => ?_) (fun c14 => ?_)
    · refine am_iconst dX10_readsDisc_48 am_kc_0 ?_
      exact am_zret0 dX10_readsDisc_49
    · refine am_aload_n 1 dX10_readsDisc_31 rfl rfl ?_
      refine am_iconst dX10_readsDisc_32 am_kc_2 ?_
      refine am_bipush (x := 59) dX10_readsDisc_33 (by decide) ?_
      refine am_iconst dX10_readsDisc_35 am_kc_0 ?_
      refine am_bipush (x := 63) dX10_readsDisc_36 (by decide) ?_
      refine am_callVi 9 [.int 2, .int 59, .int 0, .int 63] (CX10_number G a0 2 59 0 63 M9 (am_sh.mono l10 (am_sh.mono l3 h_a0))) dX10_readsDisc_38 mb_yX10_number ⟨ml_RX10_89, im_yX10_number, se_yX10_number⟩ rfl (am_sh.mono l10 (am_sh.mono l3 h_a0)) (by decide) rfl rfl (Nat.le_of_ble_eq_true rfl) (fun v19 M16 q15 w18 l17 => ?_)
      refine am_if_eq (tgt := 48) dX10_readsDisc_41 (by decide) (fun c21 => ?_) (fun c21 => ?_)
      · refine am_iconst dX10_readsDisc_48 am_kc_0 ?_
        exact am_zret0 dX10_readsDisc_49
      · refine am_iconst dX10_readsDisc_44 am_kc_1 ?_
        refine am_goto (tgt := 49) dX10_readsDisc_45 (by decide) ?_
        exact am_zret1 dX10_readsDisc_49
theorem CX10_readsDisc (G : am_G) (a0 : Nat) (M : am_M) (h_a0 : am_sh M a0 14) : am_C am_ei G 3 yX10_readsDisc cX10_readsDisc 2 (some FieldType.boolean) [.ref a0] M (fX10_readsDisc a0 M) :=
  am_meth (by decide) rfl (Nat.le_of_ble_eq_true rfl) (sX10_readsDisc_0 G a0 M h_a0)
def fX10_begins_17 (x0 : Nat) (x1 : Int32) (M : am_M) : Option (Int32 × am_M) := if x1 = 119 then some (0, am_pI M x0 13 ((M.1 x0 13) + 1)) else some (3, am_pI M x0 13 ((M.1 x0 13) + 1))
def fX10_begins_93 (x0 : Nat) (x2 : Int32) (M : am_M) : Option (Int32 × am_M) := if x2 = 98 then some (1, am_pI M x0 13 ((M.1 x0 13) + 2)) else some (2, am_pI M x0 13 ((M.1 x0 13) + 2))
def fX10_begins_81 (x0 : Nat) (x2 : Int32) (M : am_M) : Option (Int32 × am_M) := if x2 = 98 then fX10_begins_93 x0 x2 M else if x2 = 100 then fX10_begins_93 x0 x2 M else some ((-4), M)
def fX10_begins_68 (x0 : Nat) (x1 : Int32) (s0 : Int32) (M : am_M) : Option (Int32 × am_M) := if x1 = 43 then fX10_begins_81 x0 s0 M else if x1 = 45 then fX10_begins_81 x0 s0 M else some ((-4), M)
def fX10_begins (a0 : Nat) (M : am_M) : Option (Int32 × am_M) := (fX10_here a0 M).bind fun p6 => if p6.1 = 119 then fX10_begins_17 a0 p6.1 p6.2 else if p6.1 = 112 then fX10_begins_17 a0 p6.1 p6.2 else if p6.2.1 a0 10 ≤ (p6.2.1 a0 13) + 1 then fX10_begins_68 a0 p6.1 (-4) p6.2 else (p6.2.2.2.1 a0 9).bind fun r16 => if (p6.2.1 a0 13) + 1 < 0 ∨ am_len p6.2 r16 ≤ ((p6.2.1 a0 13) + 1).toNatClampNeg then none else fX10_begins_68 a0 p6.1 (p6.2.1 r16 (((p6.2.1 a0 13) + 1).toNatClampNeg)) p6.2
set_option maxRecDepth 100000 in
set_option maxHeartbeats 4000000 in
theorem sX10_begins_17 (G : am_G) (x0 : Nat) (x1 : Int32) (M : am_M) (h_x0 : am_sh M x0 14) : am_S am_ei G 1 yX10_begins.cls yX10_begins.name cX10_begins 3 (some FieldType.int) 17 [(0, .ref x0), (1, .int x1)] [] M (fX10_begins_17 x0 x1 M) := by
  show am_S am_ei G 1 yX10_begins.cls yX10_begins.name cX10_begins 3 (some FieldType.int) 17 [(0, .ref x0), (1, .int x1)] [] M (if x1 = 119 then some (0, am_pI M x0 13 ((M.1 x0 13) + 1)) else some (3, am_pI M x0 13 ((M.1 x0 13) + 1)))
  refine am_aload_n 0 dX10_begins_17 rfl rfl ?_
  refine am_dup dX10_begins_18 rfl ?_
  refine am_getI 9 dX10_begins_19 fl_RX10_73 h_x0 rfl ?_
  refine am_iconst dX10_begins_22 am_kc_1 ?_
  refine am_iadd dX10_begins_23 ?_
  refine am_putI 9 dX10_begins_24 fl_RX10_73 h_x0 rfl rfl rfl rfl ?_
  refine am_iload_n 1 dX10_begins_27 rfl rfl ?_
  refine am_bipush (x := 119) dX10_begins_28 (by decide) ?_
  refine am_icmp_ne (tgt := 37) dX10_begins_30 (by decide) (fun c8 => ?_) (fun c8 => ?_)
  · refine am_iconst dX10_begins_37 am_kc_3 ?_
    exact am_iret dX10_begins_38
  · refine am_iconst dX10_begins_33 am_kc_0 ?_
    refine am_goto (tgt := 38) dX10_begins_34 (by decide) ?_
    exact am_iret dX10_begins_38
set_option maxRecDepth 100000 in
set_option maxHeartbeats 4000000 in
theorem sX10_begins_93 (G : am_G) (x0 : Nat) (x2 : Int32) (M : am_M) (h_x0 : am_sh M x0 14) : am_S am_ei G 1 yX10_begins.cls yX10_begins.name cX10_begins 3 (some FieldType.int) 93 [(0, .ref x0), (2, .int x2)] [] M (fX10_begins_93 x0 x2 M) := by
  show am_S am_ei G 1 yX10_begins.cls yX10_begins.name cX10_begins 3 (some FieldType.int) 93 [(0, .ref x0), (2, .int x2)] [] M (if x2 = 98 then some (1, am_pI M x0 13 ((M.1 x0 13) + 2)) else some (2, am_pI M x0 13 ((M.1 x0 13) + 2)))
  refine am_aload_n 0 dX10_begins_93 rfl rfl ?_
  refine am_dup dX10_begins_94 rfl ?_
  refine am_getI 9 dX10_begins_95 fl_RX10_73 h_x0 rfl ?_
  refine am_iconst dX10_begins_98 am_kc_2 ?_
  refine am_iadd dX10_begins_99 ?_
  refine am_putI 9 dX10_begins_100 fl_RX10_73 h_x0 rfl rfl rfl rfl ?_
  refine am_iload_n 1 dX10_begins_103 rfl rfl ?_
  refine am_bipush (x := 98) dX10_begins_104 (by decide) ?_
  refine am_icmp_ne (tgt := 113) dX10_begins_106 (by decide) (fun c13 => ?_) (fun c13 => ?_)
  · refine am_iconst dX10_begins_113 am_kc_2 ?_
    exact am_iret dX10_begins_114
  · refine am_iconst dX10_begins_109 am_kc_1 ?_
    refine am_goto (tgt := 114) dX10_begins_110 (by decide) ?_
    exact am_iret dX10_begins_114
set_option maxRecDepth 100000 in
set_option maxHeartbeats 4000000 in
theorem sX10_begins_81 (G : am_G) (x0 : Nat) (x2 : Int32) (M : am_M) (h_x0 : am_sh M x0 14) : am_S am_ei G 1 yX10_begins.cls yX10_begins.name cX10_begins 3 (some FieldType.int) 81 [(0, .ref x0), (2, .int x2)] [] M (fX10_begins_81 x0 x2 M) := by
  show am_S am_ei G 1 yX10_begins.cls yX10_begins.name cX10_begins 3 (some FieldType.int) 81 [(0, .ref x0), (2, .int x2)] [] M (if x2 = 98 then fX10_begins_93 x0 x2 M else if x2 = 100 then fX10_begins_93 x0 x2 M else some ((-4), M))
  refine am_iload_n 1 dX10_begins_81 rfl rfl ?_
  refine am_bipush (x := 98) dX10_begins_82 (by decide) ?_
  refine am_icmp_eq (tgt := 93) dX10_begins_84 (by decide) (fun c12 => ?_) (fun c12 => ?_)
  · exact sX10_begins_93 G x0 x2 M h_x0
  · refine am_iload_n 1 dX10_begins_87 rfl rfl ?_
    refine am_bipush (x := 100) dX10_begins_88 (by decide) ?_
    refine am_icmp_ne (tgt := 115) dX10_begins_90 (by decide) (fun c14 => ?_) (fun c14 => ?_)
    · refine am_bipush (x := -4) dX10_begins_115 (by decide) ?_
      exact am_iret dX10_begins_117
    · exact sX10_begins_93 G x0 x2 M h_x0
set_option maxRecDepth 100000 in
set_option maxHeartbeats 4000000 in
theorem sX10_begins_68 (G : am_G) (x0 : Nat) (x1 : Int32) (s0 : Int32) (M : am_M) (h_x0 : am_sh M x0 14) : am_S am_ei G 1 yX10_begins.cls yX10_begins.name cX10_begins 3 (some FieldType.int) 68 [(0, .ref x0), (1, .int x1)] [.int s0] M (fX10_begins_68 x0 x1 s0 M) := by
  show am_S am_ei G 1 yX10_begins.cls yX10_begins.name cX10_begins 3 (some FieldType.int) 68 [(0, .ref x0), (1, .int x1)] [.int s0] M (if x1 = 43 then fX10_begins_81 x0 s0 M else if x1 = 45 then fX10_begins_81 x0 s0 M else some ((-4), M))
  refine am_istore_n (L' := [(2, .int s0), (0, .ref x0), (1, .int x1)]) dX10_begins_68 rfl (by decide) rfl ?_
  refine am_iload_n 2 dX10_begins_69 rfl rfl ?_
  refine am_bipush (x := 43) dX10_begins_70 (by decide) ?_
  refine am_icmp_eq (tgt := 81) dX10_begins_72 (by decide) (fun c11 => ?_) (fun c11 => ?_)
  · refine am_sub [1, 0] rfl ?_
    exact sX10_begins_81 G x0 s0 M h_x0
  · refine am_iload_n 2 dX10_begins_75 rfl rfl ?_
    refine am_bipush (x := 45) dX10_begins_76 (by decide) ?_
    refine am_icmp_ne (tgt := 115) dX10_begins_78 (by decide) (fun c15 => ?_) (fun c15 => ?_)
    · refine am_bipush (x := -4) dX10_begins_115 (by decide) ?_
      exact am_iret dX10_begins_117
    · refine am_sub [1, 0] rfl ?_
      exact sX10_begins_81 G x0 s0 M h_x0
set_option maxRecDepth 100000 in
set_option maxHeartbeats 4000000 in
theorem sX10_begins_0 (G : am_G) (a0 : Nat) (M : am_M) (h_a0 : am_sh M a0 14) : am_S am_ei G 1 yX10_begins.cls yX10_begins.name cX10_begins 3 (some FieldType.int) 0 [(0, .ref a0)] [] M (fX10_begins a0 M) := by
  show am_S am_ei G 1 yX10_begins.cls yX10_begins.name cX10_begins 3 (some FieldType.int) 0 [(0, .ref a0)] [] M ((fX10_here a0 M).bind fun p6 => if p6.1 = 119 then fX10_begins_17 a0 p6.1 p6.2 else if p6.1 = 112 then fX10_begins_17 a0 p6.1 p6.2 else if p6.2.1 a0 10 ≤ (p6.2.1 a0 13) + 1 then fX10_begins_68 a0 p6.1 (-4) p6.2 else (p6.2.2.2.1 a0 9).bind fun r16 => if (p6.2.1 a0 13) + 1 < 0 ∨ am_len p6.2 r16 ≤ ((p6.2.1 a0 13) + 1).toNatClampNeg then none else fX10_begins_68 a0 p6.1 (p6.2.1 r16 (((p6.2.1 a0 13) + 1).toNatClampNeg)) p6.2)
  refine am_aload_n 0 dX10_begins_0 rfl rfl ?_
  refine am_callVi 9 [] (CX10_here G a0 M h_a0) dX10_begins_1 mb_yX10_here ⟨ml_RX10_76, im_yX10_here, se_yX10_here⟩ rfl h_a0 (by decide) rfl rfl (Nat.le_of_ble_eq_true rfl) (fun v5 M2 q1 w4 l3 => ?_)
  refine am_istore_n (L' := [(1, .int v5), (0, .ref a0)]) dX10_begins_4 rfl (by decide) rfl ?_
  refine am_iload_n 0 dX10_begins_5 rfl rfl ?_
  refine am_bipush (x := 119) dX10_begins_6 (by decide) ?_
  refine am_icmp_eq (tgt := 17) dX10_begins_8 (by decide) (fun c7 => ?_) (fun c7 => ?_)
  · refine am_sub [1, 0] rfl ?_
    exact sX10_begins_17 G a0 v5 M2 (am_sh.mono l3 h_a0)
  · refine am_iload_n 0 dX10_begins_11 rfl rfl ?_
    refine am_bipush (x := 112) dX10_begins_12 (by decide) ?_
    refine am_icmp_ne (tgt := 39) dX10_begins_14 (by decide) (fun c9 => ?_) (fun c9 => ?_)
    · refine am_aload_n 1 dX10_begins_39 rfl rfl ?_
      refine am_getI 9 dX10_begins_40 fl_RX10_73 (am_sh.mono l3 h_a0) rfl ?_
      refine am_iconst dX10_begins_43 am_kc_1 ?_
      refine am_iadd dX10_begins_44 ?_
      refine am_aload_n 1 dX10_begins_45 rfl rfl ?_
      refine am_getI 9 dX10_begins_46 fl_RX10_70 (am_sh.mono l3 h_a0) rfl ?_
      refine am_icmp_ge (tgt := 66) dX10_begins_49 (by decide) (fun c10 => ?_) (fun c10 => ?_)
      · refine am_bipush (x := -4) dX10_begins_66 (by decide) ?_
        refine am_sub [1, 0] rfl ?_
        exact sX10_begins_68 G a0 v5 (-4) M2 (am_sh.mono l3 h_a0)
      · refine am_aload_n 1 dX10_begins_52 rfl rfl ?_
        refine am_getR 9 dX10_begins_53 fl_RX10_35 (am_sh.mono l3 h_a0) rfl (fun r16 e17 h18 => ?_)
        refine am_aload_n 1 dX10_begins_56 rfl rfl ?_
        refine am_getI 9 dX10_begins_57 fl_RX10_73 (am_sh.mono l3 h_a0) rfl ?_
        refine am_iconst dX10_begins_60 am_kc_1 ?_
        refine am_iadd dX10_begins_61 ?_
        refine am_iald dX10_begins_62 h18 (fun b19 => ?_)
        refine am_goto (tgt := 68) dX10_begins_63 (by decide) ?_
        refine am_sub [1, 0] rfl ?_
        exact sX10_begins_68 G a0 v5 (M2.1 r16 (((M2.1 a0 13) + 1).toNatClampNeg)) M2 (am_sh.mono l3 h_a0)
    · refine am_sub [1, 0] rfl ?_
      exact sX10_begins_17 G a0 v5 M2 (am_sh.mono l3 h_a0)
theorem CX10_begins (G : am_G) (a0 : Nat) (M : am_M) (h_a0 : am_sh M a0 14) : am_C am_ei G 1 yX10_begins cX10_begins 3 (some FieldType.int) [.ref a0] M (fX10_begins a0 M) :=
  am_meth (by decide) rfl (Nat.le_of_ble_eq_true rfl) (sX10_begins_0 G a0 M h_a0)
def fX10_mayBegin_27 (x0 : Nat) (x1 : Int32) (s0 : Int32) (s1 : Int32) (M : am_M) : Option (Int32 × am_M) := if s1 = s0 then if x1 = 0 then some (1, M) else if x1 = 3 then if (40 : Int32) ≤ M.1 x0 16 then some (0, M) else some (1, M) else if (8 : Int32) ≤ M.1 x0 15 then some (0, M) else some (1, M) else some (0, M)
def fX10_mayBegin_15 (x0 : Nat) (x1 : Int32) (s0 : Int32) (M : am_M) : Option (Int32 × am_M) := if M.1 x0 14 = 0 then fX10_mayBegin_27 x0 x1 1 s0 M else fX10_mayBegin_27 x0 x1 0 s0 M
def fX10_mayBegin (a0 : Nat) (a1 : Int32) (M : am_M) : Option (Int32 × am_M) := if a1 = (-4) then some (0, M) else if a1 = 0 then fX10_mayBegin_15 a0 a1 1 M else fX10_mayBegin_15 a0 a1 0 M
set_option maxRecDepth 100000 in
set_option maxHeartbeats 4000000 in
theorem sX10_mayBegin_27 (G : am_G) (x0 : Nat) (x1 : Int32) (s0 : Int32) (s1 : Int32) (M : am_M) (h_x0 : am_sh M x0 14) : am_S am_ei G 0 yX10_mayBegin.cls yX10_mayBegin.name cX10_mayBegin 2 (some FieldType.boolean) 27 [(0, .ref x0), (1, .int x1)] [.int s0, .int s1] M (fX10_mayBegin_27 x0 x1 s0 s1 M) := by
  show am_S am_ei G 0 yX10_mayBegin.cls yX10_mayBegin.name cX10_mayBegin 2 (some FieldType.boolean) 27 [(0, .ref x0), (1, .int x1)] [.int s0, .int s1] M (if s1 = s0 then if x1 = 0 then some (1, M) else if x1 = 3 then if (40 : Int32) ≤ M.1 x0 16 then some (0, M) else some (1, M) else if (8 : Int32) ≤ M.1 x0 15 then some (0, M) else some (1, M) else some (0, M))
  refine am_icmp_eq (tgt := 32) dX10_mayBegin_27 (by decide) (fun c4 => ?_) (fun c4 => ?_)
  · refine am_iload_n 1 dX10_mayBegin_32 rfl rfl ?_
    refine am_if_eq (tgt := 62) dX10_mayBegin_33 (by decide) (fun c5 => ?_) (fun c5 => ?_)
    · refine am_iconst dX10_mayBegin_62 am_kc_1 ?_
      refine am_goto (tgt := 67) dX10_mayBegin_63 (by decide) ?_
      exact am_zret1 dX10_mayBegin_67
    · refine am_iload_n 1 dX10_mayBegin_36 rfl rfl ?_
      refine am_iconst dX10_mayBegin_37 am_kc_3 ?_
      refine am_icmp_ne (tgt := 53) dX10_mayBegin_38 (by decide) (fun c6 => ?_) (fun c6 => ?_)
      · refine am_aload_n 0 dX10_mayBegin_53 rfl rfl ?_
        refine am_getI 9 dX10_mayBegin_54 fl_RX10_102 h_x0 rfl ?_
        refine am_bipush (x := 8) dX10_mayBegin_57 (by decide) ?_
        refine am_icmp_ge (tgt := 66) dX10_mayBegin_59 (by decide) (fun c7 => ?_) (fun c7 => ?_)
        · refine am_iconst dX10_mayBegin_66 am_kc_0 ?_
          exact am_zret0 dX10_mayBegin_67
        · refine am_iconst dX10_mayBegin_62 am_kc_1 ?_
          refine am_goto (tgt := 67) dX10_mayBegin_63 (by decide) ?_
          exact am_zret1 dX10_mayBegin_67
      · refine am_aload_n 0 dX10_mayBegin_41 rfl rfl ?_
        refine am_getI 9 dX10_mayBegin_42 fl_RX10_99 h_x0 rfl ?_
        refine am_bipush (x := 40) dX10_mayBegin_45 (by decide) ?_
        refine am_icmp_ge (tgt := 66) dX10_mayBegin_47 (by decide) (fun c8 => ?_) (fun c8 => ?_)
        · refine am_iconst dX10_mayBegin_66 am_kc_0 ?_
          exact am_zret0 dX10_mayBegin_67
        · refine am_goto (tgt := 62) dX10_mayBegin_50 (by decide) ?_
          refine am_iconst dX10_mayBegin_62 am_kc_1 ?_
          refine am_goto (tgt := 67) dX10_mayBegin_63 (by decide) ?_
          exact am_zret1 dX10_mayBegin_67
  · refine am_iconst dX10_mayBegin_30 am_kc_0 ?_
    exact am_zret0 dX10_mayBegin_31
set_option maxRecDepth 100000 in
set_option maxHeartbeats 4000000 in
theorem sX10_mayBegin_15 (G : am_G) (x0 : Nat) (x1 : Int32) (s0 : Int32) (M : am_M) (h_x0 : am_sh M x0 14) : am_S am_ei G 0 yX10_mayBegin.cls yX10_mayBegin.name cX10_mayBegin 2 (some FieldType.boolean) 15 [(0, .ref x0), (1, .int x1)] [.int s0] M (fX10_mayBegin_15 x0 x1 s0 M) := by
  show am_S am_ei G 0 yX10_mayBegin.cls yX10_mayBegin.name cX10_mayBegin 2 (some FieldType.boolean) 15 [(0, .ref x0), (1, .int x1)] [.int s0] M (if M.1 x0 14 = 0 then fX10_mayBegin_27 x0 x1 1 s0 M else fX10_mayBegin_27 x0 x1 0 s0 M)
  refine am_aload_n 0 dX10_mayBegin_15 rfl rfl ?_
  refine am_getI 9 dX10_mayBegin_16 fl_RX10_96 h_x0 rfl ?_
  refine am_if_ne (tgt := 26) dX10_mayBegin_19 (by decide) (fun c3 => ?_) (fun c3 => ?_)
  · refine am_iconst dX10_mayBegin_26 am_kc_0 ?_
    exact sX10_mayBegin_27 G x0 x1 0 s0 M h_x0
  · refine am_iconst dX10_mayBegin_22 am_kc_1 ?_
    refine am_goto (tgt := 27) dX10_mayBegin_23 (by decide) ?_
    exact sX10_mayBegin_27 G x0 x1 1 s0 M h_x0
set_option maxRecDepth 100000 in
set_option maxHeartbeats 4000000 in
theorem sX10_mayBegin_0 (G : am_G) (a0 : Nat) (a1 : Int32) (M : am_M) (h_a0 : am_sh M a0 14) : am_S am_ei G 0 yX10_mayBegin.cls yX10_mayBegin.name cX10_mayBegin 2 (some FieldType.boolean) 0 [(0, .ref a0), (1, .int a1)] [] M (fX10_mayBegin a0 a1 M) := by
  show am_S am_ei G 0 yX10_mayBegin.cls yX10_mayBegin.name cX10_mayBegin 2 (some FieldType.boolean) 0 [(0, .ref a0), (1, .int a1)] [] M (if a1 = (-4) then some (0, M) else if a1 = 0 then fX10_mayBegin_15 a0 a1 1 M else fX10_mayBegin_15 a0 a1 0 M)
  refine am_iload_n 1 dX10_mayBegin_0 rfl rfl ?_
  refine am_bipush (x := -4) dX10_mayBegin_1 (by decide) ?_
  refine am_icmp_eq (tgt := 30) dX10_mayBegin_3 (by decide) (fun c1 => ?_) (fun c1 => ?_)
  · refine am_iconst dX10_mayBegin_30 am_kc_0 ?_
    exact am_zret0 dX10_mayBegin_31
  · refine am_iload_n 1 dX10_mayBegin_6 rfl rfl ?_
    refine am_if_ne (tgt := 14) dX10_mayBegin_7 (by decide) (fun c2 => ?_) (fun c2 => ?_)
    · refine am_iconst dX10_mayBegin_14 am_kc_0 ?_
      exact sX10_mayBegin_15 G a0 a1 0 M h_a0
    · refine am_iconst dX10_mayBegin_10 am_kc_1 ?_
      refine am_goto (tgt := 15) dX10_mayBegin_11 (by decide) ?_
      exact sX10_mayBegin_15 G a0 a1 1 M h_a0
theorem CX10_mayBegin (G : am_G) (a0 : Nat) (a1 : Int32) (M : am_M) (h_a0 : am_sh M a0 14) : am_C am_ei G 0 yX10_mayBegin cX10_mayBegin 2 (some FieldType.boolean) [.ref a0, .int a1] M (fX10_mayBegin a0 a1 M) :=
  am_meth (by decide) rfl (Nat.le_of_ble_eq_true rfl) (sX10_mayBegin_0 G a0 a1 M h_a0)
def fX10_puts (a0 : Nat) (a1 : Int32) (a2 : Int32) (a3 : Int32) (a4 : Int32) (a5 : Int32) (a6 : Int32) (a7 : Int32) (M : am_M) : Option am_M := (M.2.2.1 a0 5).bind fun r1 => if 6 * a1 < 0 ∨ am_len M r1 ≤ (6 * a1).toNatClampNeg then none else ((am_pI M r1 (6 * a1).toNatClampNeg a2).2.2.1 a0 5).bind fun r5 => if (6 * a1) + 1 < 0 ∨ am_len (am_pI M r1 (6 * a1).toNatClampNeg a2) r5 ≤ ((6 * a1) + 1).toNatClampNeg then none else ((am_pI (am_pI M r1 (6 * a1).toNatClampNeg a2) r5 ((6 * a1) + 1).toNatClampNeg a3).2.2.1 a0 5).bind fun r9 => if (6 * a1) + 2 < 0 ∨ am_len (am_pI (am_pI M r1 (6 * a1).toNatClampNeg a2) r5 ((6 * a1) + 1).toNatClampNeg a3) r9 ≤ ((6 * a1) + 2).toNatClampNeg then none else ((am_pI (am_pI (am_pI M r1 (6 * a1).toNatClampNeg a2) r5 ((6 * a1) + 1).toNatClampNeg a3) r9 ((6 * a1) + 2).toNatClampNeg a4).2.2.1 a0 5).bind fun r13 => if (6 * a1) + 3 < 0 ∨ am_len (am_pI (am_pI (am_pI M r1 (6 * a1).toNatClampNeg a2) r5 ((6 * a1) + 1).toNatClampNeg a3) r9 ((6 * a1) + 2).toNatClampNeg a4) r13 ≤ ((6 * a1) + 3).toNatClampNeg then none else ((am_pI (am_pI (am_pI (am_pI M r1 (6 * a1).toNatClampNeg a2) r5 ((6 * a1) + 1).toNatClampNeg a3) r9 ((6 * a1) + 2).toNatClampNeg a4) r13 ((6 * a1) + 3).toNatClampNeg a5).2.2.1 a0 5).bind fun r17 => if (6 * a1) + 4 < 0 ∨ am_len (am_pI (am_pI (am_pI (am_pI M r1 (6 * a1).toNatClampNeg a2) r5 ((6 * a1) + 1).toNatClampNeg a3) r9 ((6 * a1) + 2).toNatClampNeg a4) r13 ((6 * a1) + 3).toNatClampNeg a5) r17 ≤ ((6 * a1) + 4).toNatClampNeg then none else ((am_pI (am_pI (am_pI (am_pI (am_pI M r1 (6 * a1).toNatClampNeg a2) r5 ((6 * a1) + 1).toNatClampNeg a3) r9 ((6 * a1) + 2).toNatClampNeg a4) r13 ((6 * a1) + 3).toNatClampNeg a5) r17 ((6 * a1) + 4).toNatClampNeg a6).2.2.1 a0 5).bind fun r21 => if (6 * a1) + 5 < 0 ∨ am_len (am_pI (am_pI (am_pI (am_pI (am_pI M r1 (6 * a1).toNatClampNeg a2) r5 ((6 * a1) + 1).toNatClampNeg a3) r9 ((6 * a1) + 2).toNatClampNeg a4) r13 ((6 * a1) + 3).toNatClampNeg a5) r17 ((6 * a1) + 4).toNatClampNeg a6) r21 ≤ ((6 * a1) + 5).toNatClampNeg then none else some (am_pI (am_pI (am_pI (am_pI (am_pI (am_pI M r1 (6 * a1).toNatClampNeg a2) r5 ((6 * a1) + 1).toNatClampNeg a3) r9 ((6 * a1) + 2).toNatClampNeg a4) r13 ((6 * a1) + 3).toNatClampNeg a5) r17 ((6 * a1) + 4).toNatClampNeg a6) r21 ((6 * a1) + 5).toNatClampNeg a7)
set_option maxRecDepth 100000 in
set_option maxHeartbeats 4000000 in
theorem sX10_puts_0 (G : am_G) (a0 : Nat) (a1 : Int32) (a2 : Int32) (a3 : Int32) (a4 : Int32) (a5 : Int32) (a6 : Int32) (a7 : Int32) (M : am_M) (h_a0 : am_sh M a0 14) : am_S am_ev G 0 yX10_puts.cls yX10_puts.name cX10_puts 8 none 0 [(0, .ref a0), (1, .int a1), (2, .int a2), (3, .int a3), (4, .int a4), (5, .int a5), (6, .int a6), (7, .int a7)] [] M (fX10_puts a0 a1 a2 a3 a4 a5 a6 a7 M) := by
  show am_S am_ev G 0 yX10_puts.cls yX10_puts.name cX10_puts 8 none 0 [(0, .ref a0), (1, .int a1), (2, .int a2), (3, .int a3), (4, .int a4), (5, .int a5), (6, .int a6), (7, .int a7)] [] M ((M.2.2.1 a0 5).bind fun r1 => if 6 * a1 < 0 ∨ am_len M r1 ≤ (6 * a1).toNatClampNeg then none else ((am_pI M r1 (6 * a1).toNatClampNeg a2).2.2.1 a0 5).bind fun r5 => if (6 * a1) + 1 < 0 ∨ am_len (am_pI M r1 (6 * a1).toNatClampNeg a2) r5 ≤ ((6 * a1) + 1).toNatClampNeg then none else ((am_pI (am_pI M r1 (6 * a1).toNatClampNeg a2) r5 ((6 * a1) + 1).toNatClampNeg a3).2.2.1 a0 5).bind fun r9 => if (6 * a1) + 2 < 0 ∨ am_len (am_pI (am_pI M r1 (6 * a1).toNatClampNeg a2) r5 ((6 * a1) + 1).toNatClampNeg a3) r9 ≤ ((6 * a1) + 2).toNatClampNeg then none else ((am_pI (am_pI (am_pI M r1 (6 * a1).toNatClampNeg a2) r5 ((6 * a1) + 1).toNatClampNeg a3) r9 ((6 * a1) + 2).toNatClampNeg a4).2.2.1 a0 5).bind fun r13 => if (6 * a1) + 3 < 0 ∨ am_len (am_pI (am_pI (am_pI M r1 (6 * a1).toNatClampNeg a2) r5 ((6 * a1) + 1).toNatClampNeg a3) r9 ((6 * a1) + 2).toNatClampNeg a4) r13 ≤ ((6 * a1) + 3).toNatClampNeg then none else ((am_pI (am_pI (am_pI (am_pI M r1 (6 * a1).toNatClampNeg a2) r5 ((6 * a1) + 1).toNatClampNeg a3) r9 ((6 * a1) + 2).toNatClampNeg a4) r13 ((6 * a1) + 3).toNatClampNeg a5).2.2.1 a0 5).bind fun r17 => if (6 * a1) + 4 < 0 ∨ am_len (am_pI (am_pI (am_pI (am_pI M r1 (6 * a1).toNatClampNeg a2) r5 ((6 * a1) + 1).toNatClampNeg a3) r9 ((6 * a1) + 2).toNatClampNeg a4) r13 ((6 * a1) + 3).toNatClampNeg a5) r17 ≤ ((6 * a1) + 4).toNatClampNeg then none else ((am_pI (am_pI (am_pI (am_pI (am_pI M r1 (6 * a1).toNatClampNeg a2) r5 ((6 * a1) + 1).toNatClampNeg a3) r9 ((6 * a1) + 2).toNatClampNeg a4) r13 ((6 * a1) + 3).toNatClampNeg a5) r17 ((6 * a1) + 4).toNatClampNeg a6).2.2.1 a0 5).bind fun r21 => if (6 * a1) + 5 < 0 ∨ am_len (am_pI (am_pI (am_pI (am_pI (am_pI M r1 (6 * a1).toNatClampNeg a2) r5 ((6 * a1) + 1).toNatClampNeg a3) r9 ((6 * a1) + 2).toNatClampNeg a4) r13 ((6 * a1) + 3).toNatClampNeg a5) r17 ((6 * a1) + 4).toNatClampNeg a6) r21 ≤ ((6 * a1) + 5).toNatClampNeg then none else some (am_pI (am_pI (am_pI (am_pI (am_pI (am_pI M r1 (6 * a1).toNatClampNeg a2) r5 ((6 * a1) + 1).toNatClampNeg a3) r9 ((6 * a1) + 2).toNatClampNeg a4) r13 ((6 * a1) + 3).toNatClampNeg a5) r17 ((6 * a1) + 4).toNatClampNeg a6) r21 ((6 * a1) + 5).toNatClampNeg a7))
  refine am_aload_n 0 dX10_puts_0 rfl rfl ?_
  refine am_getR 9 dX10_puts_1 fl_RX10_22 h_a0 rfl (fun r1 e2 h3 => ?_)
  refine am_bipush (x := 6) dX10_puts_4 (by decide) ?_
  refine am_iload_n 1 dX10_puts_6 rfl rfl ?_
  refine am_imul dX10_puts_7 ?_
  refine am_iload_n 2 dX10_puts_8 rfl rfl ?_
  refine am_iast dX10_puts_9 h3 (fun b4 => ?_)
  refine am_aload_n 0 dX10_puts_10 rfl rfl ?_
  refine am_getR 9 dX10_puts_11 fl_RX10_22 (am_sh.of h_a0 rfl) rfl (fun r5 e6 h7 => ?_)
  refine am_bipush (x := 6) dX10_puts_14 (by decide) ?_
  refine am_iload_n 1 dX10_puts_16 rfl rfl ?_
  refine am_imul dX10_puts_17 ?_
  refine am_iconst dX10_puts_18 am_kc_1 ?_
  refine am_iadd dX10_puts_19 ?_
  refine am_iload_n 3 dX10_puts_20 rfl rfl ?_
  refine am_iast dX10_puts_21 (am_sh.of (am_sh.of (M := am_pI M r1 (6 * a1).toNatClampNeg a2) h7 rfl) rfl) (fun b8 => ?_)
  refine am_aload_n 0 dX10_puts_22 rfl rfl ?_
  refine am_getR 9 dX10_puts_23 fl_RX10_22 (am_sh.of h_a0 rfl) rfl (fun r9 e10 h11 => ?_)
  refine am_bipush (x := 6) dX10_puts_26 (by decide) ?_
  refine am_iload_n 1 dX10_puts_28 rfl rfl ?_
  refine am_imul dX10_puts_29 ?_
  refine am_iconst dX10_puts_30 am_kc_2 ?_
  refine am_iadd dX10_puts_31 ?_
  refine am_iload 4 dX10_puts_32 rfl ?_
  refine am_iast dX10_puts_34 (am_sh.of (am_sh.of (M := am_pI (am_pI M r1 (6 * a1).toNatClampNeg a2) r5 ((6 * a1) + 1).toNatClampNeg a3) h11 rfl) rfl) (fun b12 => ?_)
  refine am_aload_n 0 dX10_puts_35 rfl rfl ?_
  refine am_getR 9 dX10_puts_36 fl_RX10_22 (am_sh.of h_a0 rfl) rfl (fun r13 e14 h15 => ?_)
  refine am_bipush (x := 6) dX10_puts_39 (by decide) ?_
  refine am_iload_n 1 dX10_puts_41 rfl rfl ?_
  refine am_imul dX10_puts_42 ?_
  refine am_iconst dX10_puts_43 am_kc_3 ?_
  refine am_iadd dX10_puts_44 ?_
  refine am_iload 5 dX10_puts_45 rfl ?_
  refine am_iast dX10_puts_47 (am_sh.of (am_sh.of (M := am_pI (am_pI (am_pI M r1 (6 * a1).toNatClampNeg a2) r5 ((6 * a1) + 1).toNatClampNeg a3) r9 ((6 * a1) + 2).toNatClampNeg a4) h15 rfl) rfl) (fun b16 => ?_)
  refine am_aload_n 0 dX10_puts_48 rfl rfl ?_
  refine am_getR 9 dX10_puts_49 fl_RX10_22 (am_sh.of h_a0 rfl) rfl (fun r17 e18 h19 => ?_)
  refine am_bipush (x := 6) dX10_puts_52 (by decide) ?_
  refine am_iload_n 1 dX10_puts_54 rfl rfl ?_
  refine am_imul dX10_puts_55 ?_
  refine am_iconst dX10_puts_56 am_kc_4 ?_
  refine am_iadd dX10_puts_57 ?_
  refine am_iload 6 dX10_puts_58 rfl ?_
  refine am_iast dX10_puts_60 (am_sh.of (am_sh.of (M := am_pI (am_pI (am_pI (am_pI M r1 (6 * a1).toNatClampNeg a2) r5 ((6 * a1) + 1).toNatClampNeg a3) r9 ((6 * a1) + 2).toNatClampNeg a4) r13 ((6 * a1) + 3).toNatClampNeg a5) h19 rfl) rfl) (fun b20 => ?_)
  refine am_aload_n 0 dX10_puts_61 rfl rfl ?_
  refine am_getR 9 dX10_puts_62 fl_RX10_22 (am_sh.of h_a0 rfl) rfl (fun r21 e22 h23 => ?_)
  refine am_bipush (x := 6) dX10_puts_65 (by decide) ?_
  refine am_iload_n 1 dX10_puts_67 rfl rfl ?_
  refine am_imul dX10_puts_68 ?_
  refine am_iconst dX10_puts_69 am_kc_5 ?_
  refine am_iadd dX10_puts_70 ?_
  refine am_iload 7 dX10_puts_71 rfl ?_
  refine am_iast dX10_puts_73 (am_sh.of (am_sh.of (M := am_pI (am_pI (am_pI (am_pI (am_pI M r1 (6 * a1).toNatClampNeg a2) r5 ((6 * a1) + 1).toNatClampNeg a3) r9 ((6 * a1) + 2).toNatClampNeg a4) r13 ((6 * a1) + 3).toNatClampNeg a5) r17 ((6 * a1) + 4).toNatClampNeg a6) h23 rfl) rfl) (fun b24 => ?_)
  exact am_vret dX10_puts_74
theorem CX10_puts (G : am_G) (a0 : Nat) (a1 : Int32) (a2 : Int32) (a3 : Int32) (a4 : Int32) (a5 : Int32) (a6 : Int32) (a7 : Int32) (M : am_M) (h_a0 : am_sh M a0 14) : am_C am_ev G 0 yX10_puts cX10_puts 8 none [.ref a0, .int a1, .int a2, .int a3, .int a4, .int a5, .int a6, .int a7] M (fX10_puts a0 a1 a2 a3 a4 a5 a6 a7 M) :=
  am_meth (by decide) rfl (Nat.le_of_ble_eq_true rfl) (sX10_puts_0 G a0 a1 a2 a3 a4 a5 a6 a7 M h_a0)
