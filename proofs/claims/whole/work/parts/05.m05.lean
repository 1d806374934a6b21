def fX10_tile (a0 : Nat) (a1 : Int32) (a2 : Int32) (a3 : Int32) (M : am_M) : Option (Int32 × am_M) := (fX10_isTile a0 a1 a2 M).bind fun p6 => if p6.1 = 0 then some ((-1), p6.2) else (fX10_isIn a3 0 6 p6.2).bind fun p13 => if p13.1 = 0 then some ((-1), p13.2) else (fX10_sizeOf a0 a1 p13.2).bind fun p20 => (fX10_setCell a0 (a2 * p20.1) p20.2).bind fun M22 => if a3 = 0 then (fX10_sideOf a0 a1 M22).bind fun p32 => if p32.1 = 0 then none else (fX10_sideOf a0 a1 p32.2).bind fun p39 => some (((M22.1 a0 19) / p32.1) * p39.1, p39.2) else if a3 = 1 then (fX10_sideOf a0 a1 M22).bind fun p46 => if p46.1 = 0 then none else (fX10_sideOf a0 a1 p46.2).bind fun p53 => some (((M22.1 a0 20) / p46.1) * p53.1, p53.2) else if a3 = 2 then (fX10_sideOf a0 a1 M22).bind fun p60 => some (p60.1, p60.2) else if a3 = 3 then (fX10_sizeOf a0 a1 M22).bind fun p67 => some (a2 * p67.1, p67.2) else if a3 = 4 then (fX10_sizeOf a0 a1 M22).bind fun p74 => some (((a2 + 1) * p74.1) - 1, p74.2) else if a3 = 5 then (fX10_setShape a0 M22).bind fun M77 => (fX10_shapeIn a0 a1 a2 M77).bind fun p86 => some (p86.1, p86.2) else (fX10_pointsIn a0 a1 a2 M22).bind fun p92 => some (p92.1, p92.2)
set_option maxRecDepth 100000 in
set_option maxHeartbeats 4000000 in
theorem sX10_tile_0 (G : am_G) (a0 : Nat) (a1 : Int32) (a2 : Int32) (a3 : Int32) (M : am_M) (h_a0 : am_sh M a0 14) : am_S am_ei G 4 yX10_tile.cls yX10_tile.name cX10_tile 4 (some FieldType.int) 0 [(0, .ref a0), (1, .int a1), (2, .int a2), (3, .int a3)] [] M (fX10_tile a0 a1 a2 a3 M) := by
  show am_S am_ei G 4 yX10_tile.cls yX10_tile.name cX10_tile 4 (some FieldType.int) 0 [(0, .ref a0), (1, .int a1), (2, .int a2), (3, .int a3)] [] M ((fX10_isTile a0 a1 a2 M).bind fun p6 => if p6.1 = 0 then some ((-1), p6.2) else (fX10_isIn a3 0 6 p6.2).bind fun p13 => if p13.1 = 0 then some ((-1), p13.2) else (fX10_sizeOf a0 a1 p13.2).bind fun p20 => (fX10_setCell a0 (a2 * p20.1) p20.2).bind fun M22 => if a3 = 0 then (fX10_sideOf a0 a1 M22).bind fun p32 => if p32.1 = 0 then none else (fX10_sideOf a0 a1 p32.2).bind fun p39 => some (((M22.1 a0 19) / p32.1) * p39.1, p39.2) else if a3 = 1 then (fX10_sideOf a0 a1 M22).bind fun p46 => if p46.1 = 0 then none else (fX10_sideOf a0 a1 p46.2).bind fun p53 => some (((M22.1 a0 20) / p46.1) * p53.1, p53.2) else if a3 = 2 then (fX10_sideOf a0 a1 M22).bind fun p60 => some (p60.1, p60.2) else if a3 = 3 then (fX10_sizeOf a0 a1 M22).bind fun p67 => some (a2 * p67.1, p67.2) else if a3 = 4 then (fX10_sizeOf a0 a1 M22).bind fun p74 => some (((a2 + 1) * p74.1) - 1, p74.2) else if a3 = 5 then (fX10_setShape a0 M22).bind fun M77 => (fX10_shapeIn a0 a1 a2 M77).bind fun p86 => some (p86.1, p86.2) else (fX10_pointsIn a0 a1 a2 M22).bind fun p92 => some (p92.1, p92.2))
  refine am_aload_n 0 dX10_tile_0 rfl rfl ?_
  refine am_iload_n 1 dX10_tile_1 rfl rfl ?_
  refine am_iload_n 2 dX10_tile_2 rfl rfl ?_
  refine am_callVi 9 [.int a1, .int a2] (CX10_isTile G a0 a1 a2 M h_a0) dX10_tile_3 mb_yX10_isTile ⟨ml_RX10_174, im_yX10_isTile, se_yX10_isTile⟩ rfl h_a0 (by decide) rfl rfl (Nat.le_of_ble_eq_true rfl) (fun v5 M2 q1 w4 l3 => ?_)
  refine am_if_eq (tgt := 19) dX10_tile_6 (by decide) (fun c7 => ?_) (fun c7 => ?_)
  · refine am_iconst dX10_tile_19 am_kc_m1 ?_
    exact am_iret dX10_tile_20
  · refine am_iload_n 3 dX10_tile_9 rfl rfl ?_
    refine am_iconst dX10_tile_10 am_kc_0 ?_
    refine am_bipush (x := 6) dX10_tile_11 (by decide) ?_
    refine am_callSi [.int a3, .int 0, .int 6] (CX10_isIn G a3 0 6 M2) dX10_tile_13 mb_yX10_isIn ⟨ml_RX10_66, sm_yX10_isIn⟩ (by decide) rfl rfl (Nat.le_of_ble_eq_true rfl) (fun v12 M9 q8 w11 l10 => ?_)
    refine am_if_ne (tgt := 21) dX10_tile_16 (by decide) (fun c14 => ?_) (fun c14 => ?_)
    · refine am_aload_n 0 dX10_tile_21 rfl rfl ?_
      refine am_iload_n 2 dX10_tile_22 rfl rfl ?_
      refine am_aload_n 0 dX10_tile_23 rfl rfl ?_
      refine am_iload_n 1 dX10_tile_24 rfl rfl ?_
      refine am_callVi 9 [.int a1] (CX10_sizeOf G a0 a1 M9 (am_sh.mono l10 (am_sh.mono l3 h_a0))) dX10_tile_25 mb_yX10_sizeOf ⟨ml_RX10_170, im_yX10_sizeOf, se_yX10_sizeOf⟩ rfl (am_sh.mono l10 (am_sh.mono l3 h_a0)) (by decide) rfl rfl (Nat.le_of_ble_eq_true rfl) (fun v19 M16 q15 w18 l17 => ?_)
      refine am_imul dX10_tile_28 ?_
      refine am_callVv 9 [.int (a2 * v19)] (CX10_setCell G a0 (a2 * v19) M16 (am_sh.mono l17 (am_sh.mono l10 (am_sh.mono l3 h_a0)))) dX10_tile_29 mb_yX10_setCell ⟨ml_RX10_160, im_yX10_setCell, se_yX10_setCell⟩ rfl (am_sh.mono l17 (am_sh.mono l10 (am_sh.mono l3 h_a0))) (by decide) rfl rfl (Nat.le_of_ble_eq_true rfl) (fun M22 q21 w24 l23 => ?_)
      refine am_iload_n 3 dX10_tile_32 rfl rfl ?_
      refine am_case (fun c26 => ?_) (fun c26 => ?_)
      · have e_c26 : a3.toInt = 0 := by rw [c26]; decide
        refine am_swIn (off := 39) (tgt := 72) dX10_tile_33 (by omega) (by omega) (by rw [e_c26]; rfl) (by decide) ?_
        refine am_aload_n 0 dX10_tile_72 rfl rfl ?_
        refine am_getI 9 dX10_tile_73 fl_RX10_147 (am_sh.mono l23 (am_sh.mono l17 (am_sh.mono l10 (am_sh.mono l3 h_a0)))) rfl ?_
        refine am_aload_n 0 dX10_tile_76 rfl rfl ?_
        refine am_iload_n 1 dX10_tile_77 rfl rfl ?_
        refine am_callVi 9 [.int a1] (CX10_sideOf G a0 a1 M22 (am_sh.mono l23 (am_sh.mono l17 (am_sh.mono l10 (am_sh.mono l3 h_a0))))) dX10_tile_78 mb_yX10_sideOf ⟨ml_RX10_177, im_yX10_sideOf, se_yX10_sideOf⟩ rfl (am_sh.mono l23 (am_sh.mono l17 (am_sh.mono l10 (am_sh.mono l3 h_a0)))) (by decide) rfl rfl (Nat.le_of_ble_eq_true rfl) (fun v31 M28 q27 w30 l29 => ?_)
        refine am_idiv dX10_tile_81 (fun hz33 => ?_)
        refine am_aload_n 0 dX10_tile_82 rfl rfl ?_
        refine am_iload_n 1 dX10_tile_83 rfl rfl ?_
        refine am_callVi 9 [.int a1] (CX10_sideOf G a0 a1 M28 (am_sh.mono l29 (am_sh.mono l23 (am_sh.mono l17 (am_sh.mono l10 (am_sh.mono l3 h_a0)))))) dX10_tile_84 mb_yX10_sideOf ⟨ml_RX10_177, im_yX10_sideOf, se_yX10_sideOf⟩ rfl (am_sh.mono l29 (am_sh.mono l23 (am_sh.mono l17 (am_sh.mono l10 (am_sh.mono l3 h_a0))))) (by decide) rfl rfl (Nat.le_of_ble_eq_true rfl) (fun v38 M35 q34 w37 l36 => ?_)
        refine am_imul dX10_tile_87 ?_
        exact am_iret dX10_tile_88
      refine am_case (fun c40 => ?_) (fun c40 => ?_)
      · have e_c40 : a3.toInt = 1 := by rw [c40]; decide
        refine am_swIn (off := 56) (tgt := 89) dX10_tile_33 (by omega) (by omega) (by rw [e_c40]; rfl) (by decide) ?_
        refine am_aload_n 0 dX10_tile_89 rfl rfl ?_
        refine am_getI 9 dX10_tile_90 fl_RX10_150 (am_sh.mono l23 (am_sh.mono l17 (am_sh.mono l10 (am_sh.mono l3 h_a0)))) rfl ?_
        refine am_aload_n 0 dX10_tile_93 rfl rfl ?_
        refine am_iload_n 1 dX10_tile_94 rfl rfl ?_
        refine am_callVi 9 [.int a1] (CX10_sideOf G a0 a1 M22 (am_sh.mono l23 (am_sh.mono l17 (am_sh.mono l10 (am_sh.mono l3 h_a0))))) dX10_tile_95 mb_yX10_sideOf ⟨ml_RX10_177, im_yX10_sideOf, se_yX10_sideOf⟩ rfl (am_sh.mono l23 (am_sh.mono l17 (am_sh.mono l10 (am_sh.mono l3 h_a0)))) (by decide) rfl rfl (Nat.le_of_ble_eq_true rfl) (fun v45 M42 q41 w44 l43 => ?_)
        refine am_idiv dX10_tile_98 (fun hz47 => ?_)
        refine am_aload_n 0 dX10_tile_99 rfl rfl ?_
        refine am_iload_n 1 dX10_tile_100 rfl rfl ?_
        refine am_callVi 9 [.int a1] (CX10_sideOf G a0 a1 M42 (am_sh.mono l43 (am_sh.mono l23 (am_sh.mono l17 (am_sh.mono l10 (am_sh.mono l3 h_a0)))))) dX10_tile_101 mb_yX10_sideOf ⟨ml_RX10_177, im_yX10_sideOf, se_yX10_sideOf⟩ rfl (am_sh.mono l43 (am_sh.mono l23 (am_sh.mono l17 (am_sh.mono l10 (am_sh.mono l3 h_a0))))) (by decide) rfl rfl (Nat.le_of_ble_eq_true rfl) (fun v52 M49 q48 w51 l50 => ?_)
        refine am_imul dX10_tile_104 ?_
        exact am_iret dX10_tile_105
      refine am_case (fun c54 => ?_) (fun c54 => ?_)
      · have e_c54 : a3.toInt = 2 := by rw [c54]; decide
        refine am_swIn (off := 73) (tgt := 106) dX10_tile_33 (by omega) (by omega) (by rw [e_c54]; rfl) (by decide) ?_
        refine am_aload_n 0 dX10_tile_106 rfl rfl ?_
        refine am_iload_n 1 dX10_tile_107 rfl rfl ?_
        refine am_callVi 9 [.int a1] (CX10_sideOf G a0 a1 M22 (am_sh.mono l23 (am_sh.mono l17 (am_sh.mono l10 (am_sh.mono l3 h_a0))))) dX10_tile_108 mb_yX10_sideOf ⟨ml_RX10_177, im_yX10_sideOf, se_yX10_sideOf⟩ rfl (am_sh.mono l23 (am_sh.mono l17 (am_sh.mono l10 (am_sh.mono l3 h_a0)))) (by decide) rfl rfl (Nat.le_of_ble_eq_true rfl) (fun v59 M56 q55 w58 l57 => ?_)
        exact am_iret dX10_tile_111
      refine am_case (fun c61 => ?_) (fun c61 => ?_)
      · have e_c61 : a3.toInt = 3 := by rw [c61]; decide
        refine am_swIn (off := 79) (tgt := 112) dX10_tile_33 (by omega) (by omega) (by rw [e_c61]; rfl) (by decide) ?_
        refine am_iload_n 2 dX10_tile_112 rfl rfl ?_
        refine am_aload_n 0 dX10_tile_113 rfl rfl ?_
        refine am_iload_n 1 dX10_tile_114 rfl rfl ?_
        refine am_callVi 9 [.int a1] (CX10_sizeOf G a0 a1 M22 (am_sh.mono l23 (am_sh.mono l17 (am_sh.mono l10 (am_sh.mono l3 h_a0))))) dX10_tile_115 mb_yX10_sizeOf ⟨ml_RX10_170, im_yX10_sizeOf, se_yX10_sizeOf⟩ rfl (am_sh.mono l23 (am_sh.mono l17 (am_sh.mono l10 (am_sh.mono l3 h_a0)))) (by decide) rfl rfl (Nat.le_of_ble_eq_true rfl) (fun v66 M63 q62 w65 l64 => ?_)
        refine am_imul dX10_tile_118 ?_
        exact am_iret dX10_tile_119
      refine am_case (fun c68 => ?_) (fun c68 => ?_)
      · have e_c68 : a3.toInt = 4 := by rw [c68]; decide
        refine am_swIn (off := 87) (tgt := 120) dX10_tile_33 (by omega) (by omega) (by rw [e_c68]; rfl) (by decide) ?_
        refine am_iload_n 2 dX10_tile_120 rfl rfl ?_
        refine am_iconst dX10_tile_121 am_kc_1 ?_
        refine am_iadd dX10_tile_122 ?_
        refine am_aload_n 0 dX10_tile_123 rfl rfl ?_
        refine am_iload_n 1 dX10_tile_124 rfl rfl ?_
        refine am_callVi 9 [.int a1] (CX10_sizeOf G a0 a1 M22 (am_sh.mono l23 (am_sh.mono l17 (am_sh.mono l10 (am_sh.mono l3 h_a0))))) dX10_tile_125 mb_yX10_sizeOf ⟨ml_RX10_170, im_yX10_sizeOf, se_yX10_sizeOf⟩ rfl (am_sh.mono l23 (am_sh.mono l17 (am_sh.mono l10 (am_sh.mono l3 h_a0)))) (by decide) rfl rfl (Nat.le_of_ble_eq_true rfl) (fun v73 M70 q69 w72 l71 => ?_)
        refine am_imul dX10_tile_128 ?_
        refine am_iconst dX10_tile_129 am_kc_1 ?_
        refine am_isub dX10_tile_130 ?_
        exact am_iret dX10_tile_131
      refine am_case (fun c75 => ?_) (fun c75 => ?_)
      · have e_c75 : a3.toInt = 5 := by rw [c75]; decide
        refine am_swIn (off := 99) (tgt := 132) dX10_tile_33 (by omega) (by omega) (by rw [e_c75]; rfl) (by decide) ?_
        refine am_aload_n 0 dX10_tile_132 rfl rfl ?_
        refine am_callVv 9 [] (CX10_setShape G a0 M22 (am_sh.mono l23 (am_sh.mono l17 (am_sh.mono l10 (am_sh.mono l3 h_a0))))) dX10_tile_133 mb_yX10_setShape ⟨ml_RX10_180, im_yX10_setShape, se_yX10_setShape⟩ rfl (am_sh.mono l23 (am_sh.mono l17 (am_sh.mono l10 (am_sh.mono l3 h_a0)))) (by decide) rfl rfl (Nat.le_of_ble_eq_true rfl) (fun M77 q76 w79 l78 => ?_)
        refine am_aload_n 0 dX10_tile_136 rfl rfl ?_
        refine am_iload_n 1 dX10_tile_137 rfl rfl ?_
        refine am_iload_n 2 dX10_tile_138 rfl rfl ?_
        refine am_callVi 9 [.int a1, .int a2] (CX10_shapeIn G a0 a1 a2 M77 (am_sh.mono l78 (am_sh.mono l23 (am_sh.mono l17 (am_sh.mono l10 (am_sh.mono l3 h_a0)))))) dX10_tile_139 mb_yX10_shapeIn ⟨ml_RX10_183, im_yX10_shapeIn, se_yX10_shapeIn⟩ rfl (am_sh.mono l78 (am_sh.mono l23 (am_sh.mono l17 (am_sh.mono l10 (am_sh.mono l3 h_a0))))) (by decide) rfl rfl (Nat.le_of_ble_eq_true rfl) (fun v85 M82 q81 w84 l83 => ?_)
        exact am_iret dX10_tile_142
      have e_c26 : a3.toInt ≠ 0 := am_ine c26
      have e_c40 : a3.toInt ≠ 1 := am_ine c40
      have e_c54 : a3.toInt ≠ 2 := am_ine c54
      have e_c61 : a3.toInt ≠ 3 := am_ine c61
      have e_c68 : a3.toInt ≠ 4 := am_ine c68
      have e_c75 : a3.toInt ≠ 5 := am_ine c75
      refine am_swOut (tgt := 143) dX10_tile_33 (by omega) (by decide) ?_
      refine am_aload_n 0 dX10_tile_143 rfl rfl ?_
      refine am_iload_n 1 dX10_tile_144 rfl rfl ?_
      refine am_iload_n 2 dX10_tile_145 rfl rfl ?_
      refine am_callVi 9 [.int a1, .int a2] (CX10_pointsIn G a0 a1 a2 M22 (am_sh.mono l23 (am_sh.mono l17 (am_sh.mono l10 (am_sh.mono l3 h_a0))))) dX10_tile_146 mb_yX10_pointsIn ⟨ml_RX10_186, im_yX10_pointsIn, se_yX10_pointsIn⟩ rfl (am_sh.mono l23 (am_sh.mono l17 (am_sh.mono l10 (am_sh.mono l3 h_a0)))) (by decide) rfl rfl (Nat.le_of_ble_eq_true rfl) (fun v91 M88 q87 w90 l89 => ?_)
      exact am_iret dX10_tile_149
    · refine am_iconst dX10_tile_19 am_kc_m1 ?_
      exact am_iret dX10_tile_20
theorem CX10_tile (G : am_G) (a0 : Nat) (a1 : Int32) (a2 : Int32) (a3 : Int32) (M : am_M) (h_a0 : am_sh M a0 14) : am_C am_ei G 4 yX10_tile cX10_tile 4 (some FieldType.int) [.ref a0, .int a1, .int a2, .int a3] M (fX10_tile a0 a1 a2 a3 M) :=
  am_meth (by decide) rfl (Nat.le_of_ble_eq_true rfl) (sX10_tile_0 G a0 a1 a2 a3 M h_a0)
def fX10_beside_39 (x0 : Nat) (x1 : Int32) (x2 : Int32) (x3 : Int32) (x4 : Int32) (M : am_M) : Option (Int32 × am_M) := (fX10_sizeOf x0 x1 M).bind fun p28 => (fX10_setCell x0 (x2 * p28.1) p28.2).bind fun M30 => (fX10_sideOf x0 x1 M30).bind fun p39 => (fX10_sideOf x0 x1 p39.2).bind fun p45 => (fX10_isCell x0 ((M30.1 x0 19) + (x3 * p39.1)) ((p39.2.1 x0 20) + (x4 * p45.1)) p45.2).bind fun p51 => if p51.1 = 0 then some ((-4), p51.2) else (fX10_keyOf x0 ((M30.1 x0 19) + (x3 * p39.1)) ((p39.2.1 x0 20) + (x4 * p45.1)) p51.2).bind fun p58 => (fX10_sizeOf x0 x1 p58.2).bind fun p64 => if p64.1 = 0 then none else some (p58.1 / p64.1, p64.2)
def fX10_beside (a0 : Nat) (a1 : Int32) (a2 : Int32) (a3 : Int32) (a4 : Int32) (M : am_M) : Option (Int32 × am_M) := (fX10_isTile a0 a1 a2 M).bind fun p6 => if p6.1 = 0 then some ((-1), p6.2) else (fX10_isIn a3 (-1) 1 p6.2).bind fun p13 => if p13.1 = 0 then some ((-1), p13.2) else (fX10_isIn a4 (-1) 1 p13.2).bind fun p20 => if p20.1 = 0 then some ((-1), p20.2) else if a3 = 0 then if a4 = 0 then some ((-1), p20.2) else fX10_beside_39 a0 a1 a2 a3 a4 p20.2 else fX10_beside_39 a0 a1 a2 a3 a4 p20.2
set_option maxRecDepth 100000 in
set_option maxHeartbeats 4000000 in
theorem sX10_beside_39 (G : am_G) (x0 : Nat) (x1 : Int32) (x2 : Int32) (x3 : Int32) (x4 : Int32) (M : am_M) (h_x0 : am_sh M x0 14) : am_S am_ei G 2 yX10_beside.cls yX10_beside.name cX10_beside 7 (some FieldType.int) 39 [(0, .ref x0), (1, .int x1), (2, .int x2), (3, .int x3), (4, .int x4)] [] M (fX10_beside_39 x0 x1 x2 x3 x4 M) := by
  show am_S am_ei G 2 yX10_beside.cls yX10_beside.name cX10_beside 7 (some FieldType.int) 39 [(0, .ref x0), (1, .int x1), (2, .int x2), (3, .int x3), (4, .int x4)] [] M ((fX10_sizeOf x0 x1 M).bind fun p28 => (fX10_setCell x0 (x2 * p28.1) p28.2).bind fun M30 => (fX10_sideOf x0 x1 M30).bind fun p39 => (fX10_sideOf x0 x1 p39.2).bind fun p45 => (fX10_isCell x0 ((M30.1 x0 19) + (x3 * p39.1)) ((p39.2.1 x0 20) + (x4 * p45.1)) p45.2).bind fun p51 => if p51.1 = 0 then some ((-4), p51.2) else (fX10_keyOf x0 ((M30.1 x0 19) + (x3 * p39.1)) ((p39.2.1 x0 20) + (x4 * p45.1)) p51.2).bind fun p58 => (fX10_sizeOf x0 x1 p58.2).bind fun p64 => if p64.1 = 0 then none else some (p58.1 / p64.1, p64.2))
  refine am_aload_n 0 dX10_beside_39 rfl rfl ?_
  refine am_iload_n 2 dX10_beside_40 rfl rfl ?_
  refine am_aload_n 0 dX10_beside_41 rfl rfl ?_
  refine am_iload_n 1 dX10_beside_42 rfl rfl ?_
  refine am_callVi 9 [.int x1] (CX10_sizeOf G x0 x1 M h_x0) dX10_beside_43 mb_yX10_sizeOf ⟨ml_RX10_170, im_yX10_sizeOf, se_yX10_sizeOf⟩ rfl h_x0 (by decide) rfl rfl (Nat.le_of_ble_eq_true rfl) (fun v27 M24 q23 w26 l25 => ?_)
  refine am_imul dX10_beside_46 ?_
  refine am_callVv 9 [.int (x2 * v27)] (CX10_setCell G x0 (x2 * v27) M24 (am_sh.mono l25 h_x0)) dX10_beside_47 mb_yX10_setCell ⟨ml_RX10_160, im_yX10_setCell, se_yX10_setCell⟩ rfl (am_sh.mono l25 h_x0) (by decide) rfl rfl (Nat.le_of_ble_eq_true rfl) (fun M30 q29 w32 l31 => ?_)
  refine am_aload_n 0 dX10_beside_50 rfl rfl ?_
  refine am_getI 9 dX10_beside_51 fl_RX10_147 (am_sh.mono l31 (am_sh.mono l25 h_x0)) rfl ?_
  refine am_iload_n 3 dX10_beside_54 rfl rfl ?_
  refine am_aload_n 0 dX10_beside_55 rfl rfl ?_
  refine am_iload_n 1 dX10_beside_56 rfl rfl ?_
  refine am_callVi 9 [.int x1] (CX10_sideOf G x0 x1 M30 (am_sh.mono l31 (am_sh.mono l25 h_x0))) dX10_beside_57 mb_yX10_sideOf ⟨ml_RX10_177, im_yX10_sideOf, se_yX10_sideOf⟩ rfl (am_sh.mono l31 (am_sh.mono l25 h_x0)) (by decide) rfl rfl (Nat.le_of_ble_eq_true rfl) (fun v38 M35 q34 w37 l36 => ?_)
  refine am_imul dX10_beside_60 ?_
  refine am_iadd dX10_beside_61 ?_
  refine am_istore (L' := [(5, .int ((M30.1 x0 19) + (x3 * v38))), (0, .ref x0), (1, .int x1), (2, .int x2), (3, .int x3), (4, .int x4)]) dX10_beside_62 (by decide) rfl ?_
  refine am_aload_n 1 dX10_beside_64 rfl rfl ?_
  refine am_getI 9 dX10_beside_65 fl_RX10_150 (am_sh.mono l36 (am_sh.mono l31 (am_sh.mono l25 h_x0))) rfl ?_
  refine am_iload 5 dX10_beside_68 rfl ?_
  refine am_aload_n 1 dX10_beside_70 rfl rfl ?_
  refine am_iload_n 2 dX10_beside_71 rfl rfl ?_
  refine am_callVi 9 [.int x1] (CX10_sideOf G x0 x1 M35 (am_sh.mono l36 (am_sh.mono l31 (am_sh.mono l25 h_x0)))) dX10_beside_72 mb_yX10_sideOf ⟨ml_RX10_177, im_yX10_sideOf, se_yX10_sideOf⟩ rfl (am_sh.mono l36 (am_sh.mono l31 (am_sh.mono l25 h_x0))) (by decide) rfl rfl (Nat.le_of_ble_eq_true rfl) (fun v44 M41 q40 w43 l42 => ?_)
  refine am_imul dX10_beside_75 ?_
  refine am_iadd dX10_beside_76 ?_
  refine am_istore (L' := [(6, .int ((M35.1 x0 20) + (x4 * v44))), (5, .int ((M30.1 x0 19) + (x3 * v38))), (0, .ref x0), (1, .int x1), (2, .int x2), (3, .int x3), (4, .int x4)]) dX10_beside_77 (by decide) rfl ?_
  refine am_aload_n 2 dX10_beside_79 rfl rfl ?_
  refine am_iload 1 dX10_beside_80 rfl ?_
  refine am_iload 0 dX10_beside_82 rfl ?_
  refine am_callVi 9 [.int ((M30.1 x0 19) + (x3 * v38)), .int ((M35.1 x0 20) + (x4 * v44))] (CX10_isCell G x0 ((M30.1 x0 19) + (x3 * v38)) ((M35.1 x0 20) + (x4 * v44)) M41 (am_sh.mono l42 (am_sh.mono l36 (am_sh.mono l31 (am_sh.mono l25 h_x0))))) dX10_beside_84 mb_yX10_isCell ⟨ml_RX10_140, im_yX10_isCell, se_yX10_isCell⟩ rfl (am_sh.mono l42 (am_sh.mono l36 (am_sh.mono l31 (am_sh.mono l25 h_x0)))) (by decide) rfl rfl (Nat.le_of_ble_eq_true rfl) (fun v50 M47 q46 w49 l48 => ?_)
  refine am_if_eq (tgt := 107) dX10_beside_87 (by decide) (fun c52 => ?_) (fun c52 => ?_)
  · refine am_bipush (x := -4) dX10_beside_107 (by decide) ?_
    exact am_iret dX10_beside_109
  · refine am_aload_n 2 dX10_beside_90 rfl rfl ?_
    refine am_iload 1 dX10_beside_91 rfl ?_
    refine am_iload 0 dX10_beside_93 rfl ?_
    refine am_callVi 9 [.int ((M30.1 x0 19) + (x3 * v38)), .int ((M35.1 x0 20) + (x4 * v44))] (CX10_keyOf G x0 ((M30.1 x0 19) + (x3 * v38)) ((M35.1 x0 20) + (x4 * v44)) M47 (am_sh.mono l48 (am_sh.mono l42 (am_sh.mono l36 (am_sh.mono l31 (am_sh.mono l25 h_x0)))))) dX10_beside_95 mb_yX10_keyOf ⟨ml_RX10_153, im_yX10_keyOf, se_yX10_keyOf⟩ rfl (am_sh.mono l48 (am_sh.mono l42 (am_sh.mono l36 (am_sh.mono l31 (am_sh.mono l25 h_x0))))) (by decide) rfl rfl (Nat.le_of_ble_eq_true rfl) (fun v57 M54 q53 w56 l55 => ?_)
    refine am_aload_n 2 dX10_beside_98 rfl rfl ?_
    refine am_iload_n 3 dX10_beside_99 rfl rfl ?_
    refine am_callVi 9 [.int x1] (CX10_sizeOf G x0 x1 M54 (am_sh.mono l55 (am_sh.mono l48 (am_sh.mono l42 (am_sh.mono l36 (am_sh.mono l31 (am_sh.mono l25 h_x0))))))) dX10_beside_100 mb_yX10_sizeOf ⟨ml_RX10_170, im_yX10_sizeOf, se_yX10_sizeOf⟩ rfl (am_sh.mono l55 (am_sh.mono l48 (am_sh.mono l42 (am_sh.mono l36 (am_sh.mono l31 (am_sh.mono l25 h_x0)))))) (by decide) rfl rfl (Nat.le_of_ble_eq_true rfl) (fun v63 M60 q59 w62 l61 => ?_)
    refine am_idiv dX10_beside_103 (fun hz65 => ?_)
    refine am_goto (tgt := 109) dX10_beside_104 (by decide) ?_
    exact am_iret dX10_beside_109
set_option maxRecDepth 100000 in
set_option maxHeartbeats 4000000 in
theorem sX10_beside_0 (G : am_G) (a0 : Nat) (a1 : Int32) (a2 : Int32) (a3 : Int32) (a4 : Int32) (M : am_M) (h_a0 : am_sh M a0 14) : am_S am_ei G 2 yX10_beside.cls yX10_beside.name cX10_beside 7 (some FieldType.int) 0 [(0, .ref a0), (1, .int a1), (2, .int a2), (3, .int a3), (4, .int a4)] [] M (fX10_beside a0 a1 a2 a3 a4 M) := by
  show am_S am_ei G 2 yX10_beside.cls yX10_beside.name cX10_beside 7 (some FieldType.int) 0 [(0, .ref a0), (1, .int a1), (2, .int a2), (3, .int a3), (4, .int a4)] [] M ((fX10_isTile a0 a1 a2 M).bind fun p6 => if p6.1 = 0 then some ((-1), p6.2) else (fX10_isIn a3 (-1) 1 p6.2).bind fun p13 => if p13.1 = 0 then some ((-1), p13.2) else (fX10_isIn a4 (-1) 1 p13.2).bind fun p20 => if p20.1 = 0 then some ((-1), p20.2) else if a3 = 0 then if a4 = 0 then some ((-1), p20.2) else fX10_beside_39 a0 a1 a2 a3 a4 p20.2 else fX10_beside_39 a0 a1 a2 a3 a4 p20.2)
  refine am_aload_n 0 dX10_beside_0 rfl rfl ?_
  refine am_iload_n 1 dX10_beside_1 rfl rfl ?_
  refine am_iload_n 2 dX10_beside_2 rfl rfl ?_
  refine am_callVi 9 [.int a1, .int a2] (CX10_isTile G a0 a1 a2 M h_a0) dX10_beside_3 mb_yX10_isTile ⟨ml_RX10_174, im_yX10_isTile, se_yX10_isTile⟩ rfl h_a0 (by decide) rfl rfl (Nat.le_of_ble_eq_true rfl) (fun v5 M2 q1 w4 l3 => ?_)
  refine am_if_eq (tgt := 37) dX10_beside_6 (by decide) (fun c7 => ?_) (fun c7 => ?_)
  · refine am_iconst dX10_beside_37 am_kc_m1 ?_
    exact am_iret dX10_beside_38
  · refine am_iload_n 3 dX10_beside_9 rfl rfl ?_
    refine am_iconst dX10_beside_10 am_kc_m1 ?_
    refine am_iconst dX10_beside_11 am_kc_1 ?_
    refine am_callSi [.int a3, .int (-1), .int 1] (CX10_isIn G a3 (-1) 1 M2) dX10_beside_12 mb_yX10_isIn ⟨ml_RX10_66, sm_yX10_isIn⟩ (by decide) rfl rfl (Nat.le_of_ble_eq_true rfl) (fun v12 M9 q8 w11 l10 => ?_)
    refine am_if_eq (tgt := 37) dX10_beside_15 (by decide) (fun c14 => ?_) (fun c14 => ?_)
    · refine am_iconst dX10_beside_37 am_kc_m1 ?_
      exact am_iret dX10_beside_38
    · refine am_iload 4 dX10_beside_18 rfl ?_
      refine am_iconst dX10_beside_20 am_kc_m1 ?_
      refine am_iconst dX10_beside_21 am_kc_1 ?_
      refine am_callSi [.int a4, .int (-1), .int 1] (CX10_isIn G a4 (-1) 1 M9) dX10_beside_22 mb_yX10_isIn ⟨ml_RX10_66, sm_yX10_isIn⟩ (by decide) rfl rfl (Nat.le_of_ble_eq_true rfl) (fun v19 M16 q15 w18 l17 => ?_)
      refine am_if_eq (tgt := 37) dX10_beside_25 (by decide) (fun c21 => ?_) (fun c21 => ?_)
      · refine am_iconst dX10_beside_37 am_kc_m1 ?_
        exact am_iret dX10_beside_38
      · refine am_iload_n 3 dX10_beside_28 rfl rfl ?_
        refine am_if_ne (tgt := 39) dX10_beside_29 (by decide) (fun c22 => ?_) (fun c22 => ?_)
        · exact sX10_beside_39 G a0 a1 a2 a3 a4 M16 (am_sh.mono l17 (am_sh.mono l10 (am_sh.mono l3 h_a0)))
        · refine am_iload 4 dX10_beside_32 rfl ?_
          refine am_if_ne (tgt := 39) dX10_beside_34 (by decide) (fun c66 => ?_) (fun c66 => ?_)
          · exact sX10_beside_39 G a0 a1 a2 a3 a4 M16 (am_sh.mono l17 (am_sh.mono l10 (am_sh.mono l3 h_a0)))
          · refine am_iconst dX10_beside_37 am_kc_m1 ?_
            exact am_iret dX10_beside_38
theorem CX10_beside (G : am_G) (a0 : Nat) (a1 : Int32) (a2 : Int32) (a3 : Int32) (a4 : Int32) (M : am_M) (h_a0 : am_sh M a0 14) : am_C am_ei G 2 yX10_beside cX10_beside 7 (some FieldType.int) [.ref a0, .int a1, .int a2, .int a3, .int a4] M (fX10_beside a0 a1 a2 a3 a4 M) :=
  am_meth (by decide) rfl (Nat.le_of_ble_eq_true rfl) (sX10_beside_0 G a0 a1 a2 a3 a4 M h_a0)
def fX10_common_44 : ((Int32 × Int32 × Int32 × am_M) → Option (Int32 × am_M)) → (Int32 × Int32 × Int32 × am_M) → Option (Int32 × am_M) := fun k44 q0 => match q0 with
  | (x5, x6, x7, M) => if x5 = x6 then some (x7, M) else k44 (x5 / 4, x6 / 4, x7 + (-1), M)
def fX10_common (a0 : Nat) (a1 : Int32) (a2 : Int32) (a3 : Int32) (a4 : Int32) (M : am_M) : Option (Int32 × am_M) := (fX10_isCell a0 a1 a2 M).bind fun p6 => if p6.1 = 0 then some ((-1), p6.2) else (fX10_isCell a0 a3 a4 p6.2).bind fun p13 => if p13.1 = 0 then some ((-1), p13.2) else (fX10_keyOf a0 a1 a2 p13.2).bind fun p20 => (fX10_keyOf a0 a3 a4 p20.2).bind fun p26 => am_loop (fX10_common_44) 100000 (p20.1, p26.1, p26.2.1 a0 0, p26.2)
set_option maxRecDepth 100000 in
set_option maxHeartbeats 4000000 in
theorem sX10_common_44 (G : am_G) (k44 : (Int32 × Int32 × Int32 × am_M) → Option (Int32 × am_M)) (hk44 : ∀ q : (Int32 × Int32 × Int32 × am_M), (match q with | (x5, x6, x7, M) => True) → match q with | (x5, x6, x7, M) => am_S am_ei G 2 yX10_common.cls yX10_common.name cX10_common 8 (some FieldType.int) 44 [(5, .int x5), (6, .int x6), (7, .int x7)] [] M (k44 (x5, x6, x7, M))) (x5 : Int32) (x6 : Int32) (x7 : Int32) (M : am_M) : am_S am_ei G 2 yX10_common.cls yX10_common.name cX10_common 8 (some FieldType.int) 44 [(5, .int x5), (6, .int x6), (7, .int x7)] [] M (fX10_common_44 k44 (x5, x6, x7, M)) := by
  show am_S am_ei G 2 yX10_common.cls yX10_common.name cX10_common 8 (some FieldType.int) 44 [(5, .int x5), (6, .int x6), (7, .int x7)] [] M (if x5 = x6 then some (x7, M) else k44 (x5 / 4, x6 / 4, x7 + (-1), M))
  refine am_iload 0 dX10_common_44 rfl ?_
  refine am_iload 1 dX10_common_46 rfl ?_
  refine am_icmp_eq (tgt := 69) dX10_common_48 (by decide) (fun c27 => ?_) (fun c27 => ?_)
  · refine am_iload 2 dX10_common_69 rfl ?_
    exact am_iret dX10_common_71
  · refine am_iload 0 dX10_common_51 rfl ?_
    refine am_iconst dX10_common_53 am_kc_4 ?_
    refine am_idivk dX10_common_54 (by decide) ?_
    refine am_istore (L' := [(5, .int (x5 / 4)), (6, .int x6), (7, .int x7)]) dX10_common_55 (by decide) rfl ?_
    refine am_iload 1 dX10_common_57 rfl ?_
    refine am_iconst dX10_common_59 am_kc_4 ?_
    refine am_idivk dX10_common_60 (by decide) ?_
    refine am_istore (L' := [(6, .int (x6 / 4)), (5, .int (x5 / 4)), (7, .int x7)]) dX10_common_61 (by decide) rfl ?_
    refine am_iinc (L' := [(7, .int (x7 + (-1))), (6, .int (x6 / 4)), (5, .int (x5 / 4))]) 2 dX10_common_63 rfl (by rfl) (by decide) rfl ?_
    refine am_goto (tgt := 44) dX10_common_66 (by decide) ?_
    refine am_sub [2, 1, 0] rfl ?_
    exact hk44 (x5 / 4, x6 / 4, x7 + (-1), M) trivial
set_option maxRecDepth 100000 in
set_option maxHeartbeats 4000000 in
theorem lX10_common_44 (G : am_G) (n : Nat) (q : (Int32 × Int32 × Int32 × am_M)) (hq : match q with | (x5, x6, x7, M) => True) : match q with | (x5, x6, x7, M) => am_S am_ei G 2 yX10_common.cls yX10_common.name cX10_common 8 (some FieldType.int) 44 [(5, .int x5), (6, .int x6), (7, .int x7)] [] M (am_loop (fX10_common_44) n (x5, x6, x7, M)) := by
  exact am_loop_ok (fun q : (Int32 × Int32 × Int32 × am_M) => match q with | (x5, x6, x7, M) => True) (fun q X => match q with | (x5, x6, x7, M) => am_S am_ei G 2 yX10_common.cls yX10_common.name cX10_common 8 (some FieldType.int) 44 [(5, .int x5), (6, .int x6), (7, .int x7)] [] M X) (fun _ => am_none) (fun k44 hk44 q hq => match q, hq with | (x5, x6, x7, M), _ => sX10_common_44 G k44 hk44 x5 x6 x7 M) n q hq
set_option maxRecDepth 100000 in
set_option maxHeartbeats 4000000 in
theorem sX10_common_0 (G : am_G) (a0 : Nat) (a1 : Int32) (a2 : Int32) (a3 : Int32) (a4 : Int32) (M : am_M) (h_a0 : am_sh M a0 14) : am_S am_ei G 2 yX10_common.cls yX10_common.name cX10_common 8 (some FieldType.int) 0 [(0, .ref a0), (1, .int a1), (2, .int a2), (3, .int a3), (4, .int a4)] [] M (fX10_common a0 a1 a2 a3 a4 M) := by
  show am_S am_ei G 2 yX10_common.cls yX10_common.name cX10_common 8 (some FieldType.int) 0 [(0, .ref a0), (1, .int a1), (2, .int a2), (3, .int a3), (4, .int a4)] [] M ((fX10_isCell a0 a1 a2 M).bind fun p6 => if p6.1 = 0 then some ((-1), p6.2) else (fX10_isCell a0 a3 a4 p6.2).bind fun p13 => if p13.1 = 0 then some ((-1), p13.2) else (fX10_keyOf a0 a1 a2 p13.2).bind fun p20 => (fX10_keyOf a0 a3 a4 p20.2).bind fun p26 => am_loop (fX10_common_44) 100000 (p20.1, p26.1, p26.2.1 a0 0, p26.2))
  refine am_aload_n 0 dX10_common_0 rfl rfl ?_
  refine am_iload_n 1 dX10_common_1 rfl rfl ?_
  refine am_iload_n 2 dX10_common_2 rfl rfl ?_
  refine am_callVi 9 [.int a1, .int a2] (CX10_isCell G a0 a1 a2 M h_a0) dX10_common_3 mb_yX10_isCell ⟨ml_RX10_140, im_yX10_isCell, se_yX10_isCell⟩ rfl h_a0 (by decide) rfl rfl (Nat.le_of_ble_eq_true rfl) (fun v5 M2 q1 w4 l3 => ?_)
  refine am_if_eq (tgt := 19) dX10_common_6 (by decide) (fun c7 => ?_) (fun c7 => ?_)
  · refine am_iconst dX10_common_19 am_kc_m1 ?_
    exact am_iret dX10_common_20
  · refine am_aload_n 0 dX10_common_9 rfl rfl ?_
    refine am_iload_n 3 dX10_common_10 rfl rfl ?_
    refine am_iload 4 dX10_common_11 rfl ?_
    refine am_callVi 9 [.int a3, .int a4] (CX10_isCell G a0 a3 a4 M2 (am_sh.mono l3 h_a0)) dX10_common_13 mb_yX10_isCell ⟨ml_RX10_140, im_yX10_isCell, se_yX10_isCell⟩ rfl (am_sh.mono l3 h_a0) (by decide) rfl rfl (Nat.le_of_ble_eq_true rfl) (fun v12 M9 q8 w11 l10 => ?_)
    refine am_if_ne (tgt := 21) dX10_common_16 (by decide) (fun c14 => ?_) (fun c14 => ?_)
    · refine am_aload_n 0 dX10_common_21 rfl rfl ?_
      refine am_iload_n 1 dX10_common_22 rfl rfl ?_
      refine am_iload_n 2 dX10_common_23 rfl rfl ?_
      refine am_callVi 9 [.int a1, .int a2] (CX10_keyOf G a0 a1 a2 M9 (am_sh.mono l10 (am_sh.mono l3 h_a0))) dX10_common_24 mb_yX10_keyOf ⟨ml_RX10_153, im_yX10_keyOf, se_yX10_keyOf⟩ rfl (am_sh.mono l10 (am_sh.mono l3 h_a0)) (by decide) rfl rfl (Nat.le_of_ble_eq_true rfl) (fun v19 M16 q15 w18 l17 => ?_)
      refine am_istore (L' := [(5, .int v19), (0, .ref a0), (1, .int a1), (2, .int a2), (3, .int a3), (4, .int a4)]) dX10_common_27 (by decide) rfl ?_
      refine am_aload_n 1 dX10_common_29 rfl rfl ?_
      refine am_iload_n 4 dX10_common_30 rfl rfl ?_
      refine am_iload 5 dX10_common_31 rfl ?_
      refine am_callVi 9 [.int a3, .int a4] (CX10_keyOf G a0 a3 a4 M16 (am_sh.mono l17 (am_sh.mono l10 (am_sh.mono l3 h_a0)))) dX10_common_33 mb_yX10_keyOf ⟨ml_RX10_153, im_yX10_keyOf, se_yX10_keyOf⟩ rfl (am_sh.mono l17 (am_sh.mono l10 (am_sh.mono l3 h_a0))) (by decide) rfl rfl (Nat.le_of_ble_eq_true rfl) (fun v25 M22 q21 w24 l23 => ?_)
      refine am_istore (L' := [(6, .int v25), (5, .int v19), (0, .ref a0), (1, .int a1), (2, .int a2), (3, .int a3), (4, .int a4)]) dX10_common_36 (by decide) rfl ?_
      refine am_aload_n 2 dX10_common_38 rfl rfl ?_
      refine am_getI 9 dX10_common_39 fl_RX10_7 (am_sh.mono l23 (am_sh.mono l17 (am_sh.mono l10 (am_sh.mono l3 h_a0)))) rfl ?_
      refine am_istore (L' := [(7, .int (M22.1 a0 0)), (6, .int v25), (5, .int v19), (0, .ref a0), (1, .int a1), (2, .int a2), (3, .int a3), (4, .int a4)]) dX10_common_42 (by decide) rfl ?_
      refine am_sub [2, 1, 0] rfl ?_
      exact lX10_common_44 G 100000 (v19, v25, M22.1 a0 0, M22) trivial
    · refine am_iconst dX10_common_19 am_kc_m1 ?_
      exact am_iret dX10_common_20
theorem CX10_common (G : am_G) (a0 : Nat) (a1 : Int32) (a2 : Int32) (a3 : Int32) (a4 : Int32) (M : am_M) (h_a0 : am_sh M a0 14) : am_C am_ei G 2 yX10_common cX10_common 8 (some FieldType.int) [.ref a0, .int a1, .int a2, .int a3, .int a4] M (fX10_common a0 a1 a2 a3 a4 M) :=
  am_meth (by decide) rfl (Nat.le_of_ble_eq_true rfl) (sX10_common_0 G a0 a1 a2 a3 a4 M h_a0)
def fX10_leaps_80 (k4 : (Nat × Int32 × Int32 × am_M) → Option (Int32 × am_M)) (x0 : Nat) (x2 : Int32) (s0 : Int32) (s1 : Int32) (M : am_M) : Option (Int32 × am_M) := k4 (x0, s1 + s0, x2 + 1, M)
def fX10_leaps_4 : ((Nat × Int32 × Int32 × am_M) → Option (Int32 × am_M)) → (Nat × Int32 × Int32 × am_M) → Option (Int32 × am_M) := fun k4 q0 => match q0 with
  | (x0, x1, x2, M) => (fX10_cells x0 M).bind fun p6 => if p6.1 - 1 ≤ x2 then some (x1, p6.2) else (fX10_setCell x0 x2 p6.2).bind fun M9 => (fX10_setCell x0 (x2 + 1) M9).bind fun M14 => if (((M9.1 x0 19) - (M14.1 x0 19)) * ((M9.1 x0 19) - (M14.1 x0 19))) + (((M9.1 x0 20) - (M14.1 x0 20)) * ((M9.1 x0 20) - (M14.1 x0 20))) = 1 then fX10_leaps_80 k4 x0 x2 0 x1 M14 else fX10_leaps_80 k4 x0 x2 1 x1 M14
def fX10_leaps (a0 : Nat) (M : am_M) : Option (Int32 × am_M) := am_loop (fX10_leaps_4) 100000 (a0, 0, 0, M)
set_option maxRecDepth 100000 in
set_option maxHeartbeats 4000000 in
theorem sX10_leaps_80 (G : am_G) (k4 : (Nat × Int32 × Int32 × am_M) → Option (Int32 × am_M)) (hk4 : ∀ q : (Nat × Int32 × Int32 × am_M), (match q with | (x0, x1, x2, M) => am_sh M x0 14) → match q with | (x0, x1, x2, M) => am_S am_ei G 2 yX10_leaps.cls yX10_leaps.name cX10_leaps 6 (some FieldType.int) 4 [(0, .ref x0), (1, .int x1), (2, .int x2)] [] M (k4 (x0, x1, x2, M))) (x0 : Nat) (x2 : Int32) (s0 : Int32) (s1 : Int32) (M : am_M) (h_x0 : am_sh M x0 14) : am_S am_ei G 2 yX10_leaps.cls yX10_leaps.name cX10_leaps 6 (some FieldType.int) 80 [(0, .ref x0), (2, .int x2)] [.int s0, .int s1] M (fX10_leaps_80 k4 x0 x2 s0 s1 M) := by
  show am_S am_ei G 2 yX10_leaps.cls yX10_leaps.name cX10_leaps 6 (some FieldType.int) 80 [(0, .ref x0), (2, .int x2)] [.int s0, .int s1] M (k4 (x0, s1 + s0, x2 + 1, M))
  refine am_iadd dX10_leaps_80 ?_
  refine am_istore_n (L' := [(1, .int (s1 + s0)), (0, .ref x0), (2, .int x2)]) dX10_leaps_81 rfl (by decide) rfl ?_
  refine am_iinc (L' := [(2, .int (x2 + 1)), (1, .int (s1 + s0)), (0, .ref x0)]) 2 dX10_leaps_82 rfl (by rfl) (by decide) rfl ?_
  refine am_goto (tgt := 4) dX10_leaps_85 (by decide) ?_
  refine am_sub [2, 1, 0] rfl ?_
  exact hk4 (x0, s1 + s0, x2 + 1, M) h_x0
set_option maxRecDepth 100000 in
set_option maxHeartbeats 4000000 in
theorem sX10_leaps_4 (G : am_G) (k4 : (Nat × Int32 × Int32 × am_M) → Option (Int32 × am_M)) (hk4 : ∀ q : (Nat × Int32 × Int32 × am_M), (match q with | (x0, x1, x2, M) => am_sh M x0 14) → match q with | (x0, x1, x2, M) => am_S am_ei G 2 yX10_leaps.cls yX10_leaps.name cX10_leaps 6 (some FieldType.int) 4 [(0, .ref x0), (1, .int x1), (2, .int x2)] [] M (k4 (x0, x1, x2, M))) (x0 : Nat) (x1 : Int32) (x2 : Int32) (M : am_M) (h_x0 : am_sh M x0 14) : am_S am_ei G 2 yX10_leaps.cls yX10_leaps.name cX10_leaps 6 (some FieldType.int) 4 [(0, .ref x0), (1, .int x1), (2, .int x2)] [] M (fX10_leaps_4 k4 (x0, x1, x2, M)) := by
  show am_S am_ei G 2 yX10_leaps.cls yX10_leaps.name cX10_leaps 6 (some FieldType.int) 4 [(0, .ref x0), (1, .int x1), (2, .int x2)] [] M ((fX10_cells x0 M).bind fun p6 => if p6.1 - 1 ≤ x2 then some (x1, p6.2) else (fX10_setCell x0 x2 p6.2).bind fun M9 => (fX10_setCell x0 (x2 + 1) M9).bind fun M14 => if (((M9.1 x0 19) - (M14.1 x0 19)) * ((M9.1 x0 19) - (M14.1 x0 19))) + (((M9.1 x0 20) - (M14.1 x0 20)) * ((M9.1 x0 20) - (M14.1 x0 20))) = 1 then fX10_leaps_80 k4 x0 x2 0 x1 M14 else fX10_leaps_80 k4 x0 x2 1 x1 M14)
  refine am_iload_n 2 dX10_leaps_4 rfl rfl ?_
  refine am_aload_n 0 dX10_leaps_5 rfl rfl ?_
  refine am_callVi 9 [] (CX10_cells G x0 M h_x0) dX10_leaps_6 mb_yX10_cells ⟨ml_RX10_157, im_yX10_cells, se_yX10_cells⟩ rfl h_x0 (by decide) rfl rfl (Nat.le_of_ble_eq_true rfl) (fun v5 M2 q1 w4 l3 => ?_)
  refine am_iconst dX10_leaps_9 am_kc_1 ?_
  refine am_isub dX10_leaps_10 ?_
  refine am_icmp_ge (tgt := 88) dX10_leaps_11 (by decide) (fun c7 => ?_) (fun c7 => ?_)
  · refine am_iload_n 1 dX10_leaps_88 rfl rfl ?_
    exact am_iret dX10_leaps_89
  · refine am_aload_n 0 dX10_leaps_14 rfl rfl ?_
    refine am_iload_n 2 dX10_leaps_15 rfl rfl ?_
    refine am_callVv 9 [.int x2] (CX10_setCell G x0 x2 M2 (am_sh.mono l3 h_x0)) dX10_leaps_16 mb_yX10_setCell ⟨ml_RX10_160, im_yX10_setCell, se_yX10_setCell⟩ rfl (am_sh.mono l3 h_x0) (by decide) rfl rfl (Nat.le_of_ble_eq_true rfl) (fun M9 q8 w11 l10 => ?_)
    refine am_aload_n 0 dX10_leaps_19 rfl rfl ?_
    refine am_getI 9 dX10_leaps_20 fl_RX10_147 (am_sh.mono l10 (am_sh.mono l3 h_x0)) rfl ?_
    refine am_istore_n (L' := [(3, .int (M9.1 x0 19)), (0, .ref x0), (1, .int x1), (2, .int x2)]) dX10_leaps_23 rfl (by decide) rfl ?_
    refine am_aload_n 1 dX10_leaps_24 rfl rfl ?_
    refine am_getI 9 dX10_leaps_25 fl_RX10_150 (am_sh.mono l10 (am_sh.mono l3 h_x0)) rfl ?_
    refine am_istore (L' := [(4, .int (M9.1 x0 20)), (3, .int (M9.1 x0 19)), (0, .ref x0), (1, .int x1), (2, .int x2)]) dX10_leaps_28 (by decide) rfl ?_
    refine am_aload_n 2 dX10_leaps_30 rfl rfl ?_
    refine am_iload_n 4 dX10_leaps_31 rfl rfl ?_
    refine am_iconst dX10_leaps_32 am_kc_1 ?_
    refine am_iadd dX10_leaps_33 ?_
    refine am_callVv 9 [.int (x2 + 1)] (CX10_setCell G x0 (x2 + 1) M9 (am_sh.mono l10 (am_sh.mono l3 h_x0))) dX10_leaps_34 mb_yX10_setCell ⟨ml_RX10_160, im_yX10_setCell, se_yX10_setCell⟩ rfl (am_sh.mono l10 (am_sh.mono l3 h_x0)) (by decide) rfl rfl (Nat.le_of_ble_eq_true rfl) (fun M14 q13 w16 l15 => ?_)
    refine am_iload_n 1 dX10_leaps_37 rfl rfl ?_
    refine am_aload_n 2 dX10_leaps_38 rfl rfl ?_
    refine am_getI 9 dX10_leaps_39 fl_RX10_147 (am_sh.mono l15 (am_sh.mono l10 (am_sh.mono l3 h_x0))) rfl ?_
    refine am_isub dX10_leaps_42 ?_
    refine am_iload_n 1 dX10_leaps_43 rfl rfl ?_
    refine am_aload_n 2 dX10_leaps_44 rfl rfl ?_
    refine am_getI 9 dX10_leaps_45 fl_RX10_147 (am_sh.mono l15 (am_sh.mono l10 (am_sh.mono l3 h_x0))) rfl ?_
    refine am_isub dX10_leaps_48 ?_
    refine am_imul dX10_leaps_49 ?_
    refine am_iload 0 dX10_leaps_50 rfl ?_
    refine am_aload_n 2 dX10_leaps_52 rfl rfl ?_
    refine am_getI 9 dX10_leaps_53 fl_RX10_150 (am_sh.mono l15 (am_sh.mono l10 (am_sh.mono l3 h_x0))) rfl ?_
    refine am_isub dX10_leaps_56 ?_
    refine am_iload 0 dX10_leaps_57 rfl ?_
    refine am_aload_n 2 dX10_leaps_59 rfl rfl ?_
    refine am_getI 9 dX10_leaps_60 fl_RX10_150 (am_sh.mono l15 (am_sh.mono l10 (am_sh.mono l3 h_x0))) rfl ?_
    refine am_isub dX10_leaps_63 ?_
    refine am_imul dX10_leaps_64 ?_
    refine am_iadd dX10_leaps_65 ?_
    refine am_istore (L' := [(5, .int ((((M9.1 x0 19) - (M14.1 x0 19)) * ((M9.1 x0 19) - (M14.1 x0 19))) + (((M9.1 x0 20) - (M14.1 x0 20)) * ((M9.1 x0 20) - (M14.1 x0 20))))), (4, .int (M9.1 x0 20)), (3, .int (M9.1 x0 19)), (0, .ref x0), (1, .int x1), (2, .int x2)]) dX10_leaps_66 (by decide) rfl ?_
    refine am_iload_n 4 dX10_leaps_68 rfl rfl ?_
    refine am_iload 0 dX10_leaps_69 rfl ?_
    refine am_iconst dX10_leaps_71 am_kc_1 ?_
    refine am_icmp_ne (tgt := 79) dX10_leaps_72 (by decide) (fun c18 => ?_) (fun c18 => ?_)
    · refine am_iconst dX10_leaps_79 am_kc_1 ?_
      refine am_sub [3, 5] rfl ?_
      exact sX10_leaps_80 G k4 hk4 x0 x2 1 x1 M14 (am_sh.mono l15 (am_sh.mono l10 (am_sh.mono l3 h_x0)))
    · refine am_iconst dX10_leaps_75 am_kc_0 ?_
      refine am_goto (tgt := 80) dX10_leaps_76 (by decide) ?_
      refine am_sub [3, 5] rfl ?_
      exact sX10_leaps_80 G k4 hk4 x0 x2 0 x1 M14 (am_sh.mono l15 (am_sh.mono l10 (am_sh.mono l3 h_x0)))
set_option maxRecDepth 100000 in
set_option maxHeartbeats 4000000 in
theorem lX10_leaps_4 (G : am_G) (n : Nat) (q : (Nat × Int32 × Int32 × am_M)) (hq : match q with | (x0, x1, x2, M) => am_sh M x0 14) : match q with | (x0, x1, x2, M) => am_S am_ei G 2 yX10_leaps.cls yX10_leaps.name cX10_leaps 6 (some FieldType.int) 4 [(0, .ref x0), (1, .int x1), (2, .int x2)] [] M (am_loop (fX10_leaps_4) n (x0, x1, x2, M)) := by
  exact am_loop_ok (fun q : (Nat × Int32 × Int32 × am_M) => match q with | (x0, x1, x2, M) => am_sh M x0 14) (fun q X => match q with | (x0, x1, x2, M) => am_S am_ei G 2 yX10_leaps.cls yX10_leaps.name cX10_leaps 6 (some FieldType.int) 4 [(0, .ref x0), (1, .int x1), (2, .int x2)] [] M X) (fun _ => am_none) (fun k4 hk4 q hq => match q, hq with | (x0, x1, x2, M), h_x0 => sX10_leaps_4 G k4 hk4 x0 x1 x2 M h_x0) n q hq
set_option maxRecDepth 100000 in
set_option maxHeartbeats 4000000 in
theorem sX10_leaps_0 (G : am_G) (a0 : Nat) (M : am_M) (h_a0 : am_sh M a0 14) : am_S am_ei G 2 yX10_leaps.cls yX10_leaps.name cX10_leaps 6 (some FieldType.int) 0 [(0, .ref a0)] [] M (fX10_leaps a0 M) := by
  show am_S am_ei G 2 yX10_leaps.cls yX10_leaps.name cX10_leaps 6 (some FieldType.int) 0 [(0, .ref a0)] [] M (am_loop (fX10_leaps_4) 100000 (a0, 0, 0, M))
  refine am_iconst dX10_leaps_0 am_kc_0 ?_
  refine am_istore_n (L' := [(1, .int 0), (0, .ref a0)]) dX10_leaps_1 rfl (by decide) rfl ?_
  refine am_iconst dX10_leaps_2 am_kc_0 ?_
  refine am_istore_n (L' := [(2, .int 0), (1, .int 0), (0, .ref a0)]) dX10_leaps_3 rfl (by decide) rfl ?_
  refine am_sub [2, 1, 0] rfl ?_
  exact lX10_leaps_4 G 100000 (a0, 0, 0, M) h_a0
theorem CX10_leaps (G : am_G) (a0 : Nat) (M : am_M) (h_a0 : am_sh M a0 14) : am_C am_ei G 2 yX10_leaps cX10_leaps 6 (some FieldType.int) [.ref a0] M (fX10_leaps a0 M) :=
  am_meth (by decide) rfl (Nat.le_of_ble_eq_true rfl) (sX10_leaps_0 G a0 M h_a0)
def fX10_in (a0 : Nat) (a1 : Int32) (a2 : Int32) (M : am_M) : Option (Int32 × am_M) := (fX10_isCell a0 a1 a2 M).bind fun p6 => if p6.1 = 0 then some ((-1), p6.2) else (fX10_isShape a0 a1 a2 p6.2).bind fun p13 => if p13.1 = 0 then some (0, p13.2) else some (1, p13.2)
set_option maxRecDepth 100000 in
set_option maxHeartbeats 4000000 in
theorem sX10_in_0 (G : am_G) (a0 : Nat) (a1 : Int32) (a2 : Int32) (M : am_M) (h_a0 : am_sh M a0 14) : am_S am_ei G 3 yX10_in.cls yX10_in.name cX10_in 3 (some FieldType.int) 0 [(0, .ref a0), (1, .int a1), (2, .int a2)] [] M (fX10_in a0 a1 a2 M) := by
  show am_S am_ei G 3 yX10_in.cls yX10_in.name cX10_in 3 (some FieldType.int) 0 [(0, .ref a0), (1, .int a1), (2, .int a2)] [] M ((fX10_isCell a0 a1 a2 M).bind fun p6 => if p6.1 = 0 then some ((-1), p6.2) else (fX10_isShape a0 a1 a2 p6.2).bind fun p13 => if p13.1 = 0 then some (0, p13.2) else some (1, p13.2))
  refine am_aload_n 0 dX10_in_0 rfl rfl ?_
  refine am_iload_n 1 dX10_in_1 rfl rfl ?_
  refine am_iload_n 2 dX10_in_2 rfl rfl ?_
  refine am_callVi 9 [.int a1, .int a2] (CX10_isCell G a0 a1 a2 M h_a0) dX10_in_3 mb_yX10_isCell ⟨ml_RX10_140, im_yX10_isCell, se_yX10_isCell⟩ rfl h_a0 (by decide) rfl rfl (Nat.le_of_ble_eq_true rfl) (fun v5 M2 q1 w4 l3 => ?_)
  refine am_if_eq (tgt := 26) dX10_in_6 (by decide) (fun c7 => ?_) (fun c7 => ?_)
  · refine am_iconst dX10_in_26 am_kc_m1 ?_
    exact am_iret dX10_in_27
  · refine am_aload_n 0 dX10_in_9 rfl rfl ?_
    refine am_iload_n 1 dX10_in_10 rfl rfl ?_
    refine am_iload_n 2 dX10_in_11 rfl rfl ?_
    refine am_callVi 9 [.int a1, .int a2] (CX10_isShape G a0 a1 a2 M2 (am_sh.mono l3 h_a0)) dX10_in_12 mb_yX10_isShape ⟨ml_RX10_167, im_yX10_isShape, se_yX10_isShape⟩ rfl (am_sh.mono l3 h_a0) (by decide) rfl rfl (Nat.le_of_ble_eq_true rfl) (fun v12 M9 q8 w11 l10 => ?_)
    refine am_if_eq (tgt := 22) dX10_in_15 (by decide) (fun c14 => ?_) (fun c14 => ?_)
    · refine am_iconst dX10_in_22 am_kc_0 ?_
      refine am_goto (tgt := 27) dX10_in_23 (by decide) ?_
      exact am_iret dX10_in_27
    · refine am_iconst dX10_in_18 am_kc_1 ?_
      refine am_goto (tgt := 27) dX10_in_19 (by decide) ?_
      exact am_iret dX10_in_27
theorem CX10_in (G : am_G) (a0 : Nat) (a1 : Int32) (a2 : Int32) (M : am_M) (h_a0 : am_sh M a0 14) : am_C am_ei G 3 yX10_in cX10_in 3 (some FieldType.int) [.ref a0, .int a1, .int a2] M (fX10_in a0 a1 a2 M) :=
  am_meth (by decide) rfl (Nat.le_of_ble_eq_true rfl) (sX10_in_0 G a0 a1 a2 M h_a0)
def fX10_setCover_75 (k6 : (Nat × Int32 × Int32 × am_M) → Option am_M) : ((Nat × Int32 × Int32 × Int32 × Int32 × am_M) → Option am_M) → (Nat × Int32 × Int32 × Int32 × Int32 × am_M) → Option am_M := fun k75 q0 => match q0 with
  | (x0, x1, x2, x4, x5, M) => (fX10_sizeOf x0 (M.1 x0 3) M).bind fun p32 => if (x2 + 1) * p32.1 ≤ x5 then k6 (x0, x1, x2 + 1, p32.2) else (p32.2.2.2.1 x0 22).bind fun r34 => if x5 < 0 ∨ am_len p32.2 r34 ≤ x5.toNatClampNeg then none else k75 (x0, x1, x2, x4, x5 + 1, am_pI p32.2 r34 x5.toNatClampNeg x4)
def fX10_setCover_61 (k6 : (Nat × Int32 × Int32 × am_M) → Option am_M) (x0 : Nat) (x1 : Int32) (x2 : Int32) (s0 : Int32) (M : am_M) : Option am_M := (fX10_sizeOf x0 (M.1 x0 3) M).bind fun p26 => am_loop (fX10_setCover_75 k6) 100000 (x0, x1, x2, s0, x2 * p26.1, p26.2)
def fX10_setCover_6 : ((Nat × Int32 × Int32 × am_M) → Option am_M) → (Nat × Int32 × Int32 × am_M) → Option am_M := fun k6 q0 => match q0 with
  | (x0, x1, x2, M) => if 1 <<< ((2 * (M.1 x0 3)) &&& 31) ≤ x2 then some M else (fX10_shapeIn x0 (M.1 x0 3) x2 M).bind fun p12 => if x1 = 0 then if p12.1 ≤ 0 then fX10_setCover_61 k6 x0 x1 x2 0 p12.2 else fX10_setCover_61 k6 x0 x1 x2 1 p12.2 else (fX10_sizeOf x0 (p12.2.1 x0 3) p12.2).bind fun p19 => if p12.1 = p19.1 then fX10_setCover_61 k6 x0 x1 x2 1 p19.2 else fX10_setCover_61 k6 x0 x1 x2 0 p19.2
def fX10_setCover (a0 : Nat) (a1 : Int32) (M : am_M) : Option am_M := (fX10_setShape a0 M).bind fun M2 => am_loop (fX10_setCover_6) 100000 (a0, a1, 0, M2)
set_option maxRecDepth 100000 in
set_option maxHeartbeats 4000000 in
theorem sX10_setCover_75 (G : am_G) (k6 : (Nat × Int32 × Int32 × am_M) → Option am_M) (hk6 : ∀ q : (Nat × Int32 × Int32 × am_M), (match q with | (x0, x1, x2, M) => am_sh M x0 14) → match q with | (x0, x1, x2, M) => am_S am_ev G 4 yX10_setCover.cls yX10_setCover.name cX10_setCover 6 none 6 [(0, .ref x0), (1, .int x1), (2, .int x2)] [] M (k6 (x0, x1, x2, M))) (k75 : (Nat × Int32 × Int32 × Int32 × Int32 × am_M) → Option am_M) (hk75 : ∀ q : (Nat × Int32 × Int32 × Int32 × Int32 × am_M), (match q with | (x0, x1, x2, x4, x5, M) => am_sh M x0 14) → match q with | (x0, x1, x2, x4, x5, M) => am_S am_ev G 4 yX10_setCover.cls yX10_setCover.name cX10_setCover 6 none 75 [(0, .ref x0), (1, .int x1), (2, .int x2), (4, .int x4), (5, .int x5)] [] M (k75 (x0, x1, x2, x4, x5, M))) (x0 : Nat) (x1 : Int32) (x2 : Int32) (x4 : Int32) (x5 : Int32) (M : am_M) (h_x0 : am_sh M x0 14) : am_S am_ev G 4 yX10_setCover.cls yX10_setCover.name cX10_setCover 6 none 75 [(0, .ref x0), (1, .int x1), (2, .int x2), (4, .int x4), (5, .int x5)] [] M (fX10_setCover_75 k6 k75 (x0, x1, x2, x4, x5, M)) := by
  show am_S am_ev G 4 yX10_setCover.cls yX10_setCover.name cX10_setCover 6 none 75 [(0, .ref x0), (1, .int x1), (2, .int x2), (4, .int x4), (5, .int x5)] [] M ((fX10_sizeOf x0 (M.1 x0 3) M).bind fun p32 => if (x2 + 1) * p32.1 ≤ x5 then k6 (x0, x1, x2 + 1, p32.2) else (p32.2.2.2.1 x0 22).bind fun r34 => if x5 < 0 ∨ am_len p32.2 r34 ≤ x5.toNatClampNeg then none else k75 (x0, x1, x2, x4, x5 + 1, am_pI p32.2 r34 x5.toNatClampNeg x4))
  refine am_iload 4 dX10_setCover_75 rfl ?_
  refine am_iload_n 2 dX10_setCover_77 rfl rfl ?_
  refine am_iconst dX10_setCover_78 am_kc_1 ?_
  refine am_iadd dX10_setCover_79 ?_
  refine am_aload_n 0 dX10_setCover_80 rfl rfl ?_
  refine am_aload_n 0 dX10_setCover_81 rfl rfl ?_
  refine am_getI 9 dX10_setCover_82 fl_RX10_16 h_x0 rfl ?_
  refine am_callVi 9 [.int (M.1 x0 3)] (CX10_sizeOf G x0 (M.1 x0 3) M h_x0) dX10_setCover_85 mb_yX10_sizeOf ⟨ml_RX10_170, im_yX10_sizeOf, se_yX10_sizeOf⟩ rfl h_x0 (by decide) rfl rfl (Nat.le_of_ble_eq_true rfl) (fun v31 M28 q27 w30 l29 => ?_)
  refine am_imul dX10_setCover_88 ?_
  refine am_icmp_ge (tgt := 107) dX10_setCover_89 (by decide) (fun c33 => ?_) (fun c33 => ?_)
  · refine am_iinc (L' := [(2, .int (x2 + 1)), (0, .ref x0), (1, .int x1), (4, .int x4), (5, .int x5)]) 2 dX10_setCover_107 rfl (by rfl) (by decide) rfl ?_
    refine am_goto (tgt := 6) dX10_setCover_110 (by decide) ?_
    refine am_sub [1, 2, 0] rfl ?_
    exact hk6 (x0, x1, x2 + 1, M28) (am_sh.mono l29 h_x0)
  · refine am_aload_n 0 dX10_setCover_92 rfl rfl ?_
    refine am_getR 9 dX10_setCover_93 fl_RX10_47 (am_sh.mono l29 h_x0) rfl (fun r34 e35 h36 => ?_)
    refine am_iload 4 dX10_setCover_96 rfl ?_
    refine am_iload 3 dX10_setCover_98 rfl ?_
    refine am_iast dX10_setCover_100 h36 (fun b37 => ?_)
    refine am_iinc (L' := [(5, .int (x5 + 1)), (0, .ref x0), (1, .int x1), (2, .int x2), (4, .int x4)]) 4 dX10_setCover_101 rfl (by rfl) (by decide) rfl ?_
    refine am_goto (tgt := 75) dX10_setCover_104 (by decide) ?_
    refine am_sub [1, 2, 3, 4, 0] rfl ?_
    exact hk75 (x0, x1, x2, x4, x5 + 1, am_pI M28 r34 x5.toNatClampNeg x4) (am_sh.of (am_sh.mono l29 h_x0) rfl)
set_option maxRecDepth 100000 in
set_option maxHeartbeats 4000000 in
theorem lX10_setCover_75 (G : am_G) (k6 : (Nat × Int32 × Int32 × am_M) → Option am_M) (hk6 : ∀ q : (Nat × Int32 × Int32 × am_M), (match q with | (x0, x1, x2, M) => am_sh M x0 14) → match q with | (x0, x1, x2, M) => am_S am_ev G 4 yX10_setCover.cls yX10_setCover.name cX10_setCover 6 none 6 [(0, .ref x0), (1, .int x1), (2, .int x2)] [] M (k6 (x0, x1, x2, M))) (n : Nat) (q : (Nat × Int32 × Int32 × Int32 × Int32 × am_M)) (hq : match q with | (x0, x1, x2, x4, x5, M) => am_sh M x0 14) : match q with | (x0, x1, x2, x4, x5, M) => am_S am_ev G 4 yX10_setCover.cls yX10_setCover.name cX10_setCover 6 none 75 [(0, .ref x0), (1, .int x1), (2, .int x2), (4, .int x4), (5, .int x5)] [] M (am_loop (fX10_setCover_75 k6) n (x0, x1, x2, x4, x5, M)) := by
  exact am_loop_ok (fun q : (Nat × Int32 × Int32 × Int32 × Int32 × am_M) => match q with | (x0, x1, x2, x4, x5, M) => am_sh M x0 14) (fun q X => match q with | (x0, x1, x2, x4, x5, M) => am_S am_ev G 4 yX10_setCover.cls yX10_setCover.name cX10_setCover 6 none 75 [(0, .ref x0), (1, .int x1), (2, .int x2), (4, .int x4), (5, .int x5)] [] M X) (fun _ => am_none) (fun k75 hk75 q hq => match q, hq with | (x0, x1, x2, x4, x5, M), h_x0 => sX10_setCover_75 G k6 hk6 k75 hk75 x0 x1 x2 x4 x5 M h_x0) n q hq
set_option maxRecDepth 100000 in
set_option maxHeartbeats 4000000 in
theorem sX10_setCover_61 (G : am_G) (k6 : (Nat × Int32 × Int32 × am_M) → Option am_M) (hk6 : ∀ q : (Nat × Int32 × Int32 × am_M), (match q with | (x0, x1, x2, M) => am_sh M x0 14) → match q with | (x0, x1, x2, M) => am_S am_ev G 4 yX10_setCover.cls yX10_setCover.name cX10_setCover 6 none 6 [(0, .ref x0), (1, .int x1), (2, .int x2)] [] M (k6 (x0, x1, x2, M))) (x0 : Nat) (x1 : Int32) (x2 : Int32) (s0 : Int32) (M : am_M) (h_x0 : am_sh M x0 14) : am_S am_ev G 4 yX10_setCover.cls yX10_setCover.name cX10_setCover 6 none 61 [(0, .ref x0), (1, .int x1), (2, .int x2)] [.int s0] M (fX10_setCover_61 k6 x0 x1 x2 s0 M) := by
  show am_S am_ev G 4 yX10_setCover.cls yX10_setCover.name cX10_setCover 6 none 61 [(0, .ref x0), (1, .int x1), (2, .int x2)] [.int s0] M ((fX10_sizeOf x0 (M.1 x0 3) M).bind fun p26 => am_loop (fX10_setCover_75 k6) 100000 (x0, x1, x2, s0, x2 * p26.1, p26.2))
  refine am_istore (L' := [(4, .int s0), (0, .ref x0), (1, .int x1), (2, .int x2)]) dX10_setCover_61 (by decide) rfl ?_
  refine am_iload_n 3 dX10_setCover_63 rfl rfl ?_
  refine am_aload_n 1 dX10_setCover_64 rfl rfl ?_
  refine am_aload_n 1 dX10_setCover_65 rfl rfl ?_
  refine am_getI 9 dX10_setCover_66 fl_RX10_16 h_x0 rfl ?_
  refine am_callVi 9 [.int (M.1 x0 3)] (CX10_sizeOf G x0 (M.1 x0 3) M h_x0) dX10_setCover_69 mb_yX10_sizeOf ⟨ml_RX10_170, im_yX10_sizeOf, se_yX10_sizeOf⟩ rfl h_x0 (by decide) rfl rfl (Nat.le_of_ble_eq_true rfl) (fun v25 M22 q21 w24 l23 => ?_)
  refine am_imul dX10_setCover_72 ?_
  refine am_istore (L' := [(5, .int (x2 * v25)), (4, .int s0), (0, .ref x0), (1, .int x1), (2, .int x2)]) dX10_setCover_73 (by decide) rfl ?_
  refine am_sub [2, 3, 4, 1, 0] rfl ?_
  exact lX10_setCover_75 G k6 hk6 100000 (x0, x1, x2, s0, x2 * v25, M22) (am_sh.mono l23 h_x0)
set_option maxRecDepth 100000 in
set_option maxHeartbeats 4000000 in
theorem sX10_setCover_6 (G : am_G) (k6 : (Nat × Int32 × Int32 × am_M) → Option am_M) (hk6 : ∀ q : (Nat × Int32 × Int32 × am_M), (match q with | (x0, x1, x2, M) => am_sh M x0 14) → match q with | (x0, x1, x2, M) => am_S am_ev G 4 yX10_setCover.cls yX10_setCover.name cX10_setCover 6 none 6 [(0, .ref x0), (1, .int x1), (2, .int x2)] [] M (k6 (x0, x1, x2, M))) (x0 : Nat) (x1 : Int32) (x2 : Int32) (M : am_M) (h_x0 : am_sh M x0 14) : am_S am_ev G 4 yX10_setCover.cls yX10_setCover.name cX10_setCover 6 none 6 [(0, .ref x0), (1, .int x1), (2, .int x2)] [] M (fX10_setCover_6 k6 (x0, x1, x2, M)) := by
  show am_S am_ev G 4 yX10_setCover.cls yX10_setCover.name cX10_setCover 6 none 6 [(0, .ref x0), (1, .int x1), (2, .int x2)] [] M (if 1 <<< ((2 * (M.1 x0 3)) &&& 31) ≤ x2 then some M else (fX10_shapeIn x0 (M.1 x0 3) x2 M).bind fun p12 => if x1 = 0 then if p12.1 ≤ 0 then fX10_setCover_61 k6 x0 x1 x2 0 p12.2 else fX10_setCover_61 k6 x0 x1 x2 1 p12.2 else (fX10_sizeOf x0 (p12.2.1 x0 3) p12.2).bind fun p19 => if p12.1 = p19.1 then fX10_setCover_61 k6 x0 x1 x2 1 p19.2 else fX10_setCover_61 k6 x0 x1 x2 0 p19.2)
  refine am_iload_n 2 dX10_setCover_6 rfl rfl ?_
  refine am_iconst dX10_setCover_7 am_kc_1 ?_
  refine am_iconst dX10_setCover_8 am_kc_2 ?_
  refine am_aload_n 0 dX10_setCover_9 rfl rfl ?_
  refine am_getI 9 dX10_setCover_10 fl_RX10_16 h_x0 rfl ?_
  refine am_imul dX10_setCover_13 ?_
  refine am_ishl dX10_setCover_14 ?_
  refine am_icmp_ge (tgt := 113) dX10_setCover_15 (by decide) (fun c6 => ?_) (fun c6 => ?_)
  · exact am_vret dX10_setCover_113
  · refine am_aload_n 0 dX10_setCover_18 rfl rfl ?_
    refine am_aload_n 0 dX10_setCover_19 rfl rfl ?_
    refine am_getI 9 dX10_setCover_20 fl_RX10_16 h_x0 rfl ?_
    refine am_iload_n 2 dX10_setCover_23 rfl rfl ?_
    refine am_callVi 9 [.int (M.1 x0 3), .int x2] (CX10_shapeIn G x0 (M.1 x0 3) x2 M h_x0) dX10_setCover_24 mb_yX10_shapeIn ⟨ml_RX10_183, im_yX10_shapeIn, se_yX10_shapeIn⟩ rfl h_x0 (by decide) rfl rfl (Nat.le_of_ble_eq_true rfl) (fun v11 M8 q7 w10 l9 => ?_)
    refine am_istore_n (L' := [(3, .int v11), (0, .ref x0), (1, .int x1), (2, .int x2)]) dX10_setCover_27 rfl (by decide) rfl ?_
    refine am_iload_n 2 dX10_setCover_28 rfl rfl ?_
    refine am_if_ne (tgt := 44) dX10_setCover_29 (by decide) (fun c13 => ?_) (fun c13 => ?_)
    · refine am_iload_n 0 dX10_setCover_44 rfl rfl ?_
      refine am_aload_n 1 dX10_setCover_45 rfl rfl ?_
      refine am_aload_n 1 dX10_setCover_46 rfl rfl ?_
      refine am_getI 9 dX10_setCover_47 fl_RX10_16 (am_sh.mono l9 h_x0) rfl ?_
      refine am_callVi 9 [.int (M8.1 x0 3)] (CX10_sizeOf G x0 (M8.1 x0 3) M8 (am_sh.mono l9 h_x0)) dX10_setCover_50 mb_yX10_sizeOf ⟨ml_RX10_170, im_yX10_sizeOf, se_yX10_sizeOf⟩ rfl (am_sh.mono l9 h_x0) (by decide) rfl rfl (Nat.le_of_ble_eq_true rfl) (fun v18 M15 q14 w17 l16 => ?_)
      refine am_icmp_ne (tgt := 60) dX10_setCover_53 (by decide) (fun c20 => ?_) (fun c20 => ?_)
      · refine am_iconst dX10_setCover_60 am_kc_0 ?_
        refine am_sub [1, 2, 3] rfl ?_
        exact sX10_setCover_61 G k6 hk6 x0 x1 x2 0 M15 (am_sh.mono l16 (am_sh.mono l9 h_x0))
      · refine am_iconst dX10_setCover_56 am_kc_1 ?_
        refine am_goto (tgt := 61) dX10_setCover_57 (by decide) ?_
        refine am_sub [1, 2, 3] rfl ?_
        exact sX10_setCover_61 G k6 hk6 x0 x1 x2 1 M15 (am_sh.mono l16 (am_sh.mono l9 h_x0))
    · refine am_iload_n 0 dX10_setCover_32 rfl rfl ?_
      refine am_if_le (tgt := 40) dX10_setCover_33 (by decide) (fun c38 => ?_) (fun c38 => ?_)
      · refine am_iconst dX10_setCover_40 am_kc_0 ?_
        refine am_goto (tgt := 61) dX10_setCover_41 (by decide) ?_
        refine am_sub [1, 2, 3] rfl ?_
        exact sX10_setCover_61 G k6 hk6 x0 x1 x2 0 M8 (am_sh.mono l9 h_x0)
      · refine am_iconst dX10_setCover_36 am_kc_1 ?_
        refine am_goto (tgt := 61) dX10_setCover_37 (by decide) ?_
        refine am_sub [1, 2, 3] rfl ?_
        exact sX10_setCover_61 G k6 hk6 x0 x1 x2 1 M8 (am_sh.mono l9 h_x0)
set_option maxRecDepth 100000 in
set_option maxHeartbeats 4000000 in
theorem lX10_setCover_6 (G : am_G) (n : Nat) (q : (Nat × Int32 × Int32 × am_M)) (hq : match q with | (x0, x1, x2, M) => am_sh M x0 14) : match q with | (x0, x1, x2, M) => am_S am_ev G 4 yX10_setCover.cls yX10_setCover.name cX10_setCover 6 none 6 [(0, .ref x0), (1, .int x1), (2, .int x2)] [] M (am_loop (fX10_setCover_6) n (x0, x1, x2, M)) := by
  exact am_loop_ok (fun q : (Nat × Int32 × Int32 × am_M) => match q with | (x0, x1, x2, M) => am_sh M x0 14) (fun q X => match q with | (x0, x1, x2, M) => am_S am_ev G 4 yX10_setCover.cls yX10_setCover.name cX10_setCover 6 none 6 [(0, .ref x0), (1, .int x1), (2, .int x2)] [] M X) (fun _ => am_none) (fun k6 hk6 q hq => match q, hq with | (x0, x1, x2, M), h_x0 => sX10_setCover_6 G k6 hk6 x0 x1 x2 M h_x0) n q hq
set_option maxRecDepth 100000 in
set_option maxHeartbeats 4000000 in
theorem sX10_setCover_0 (G : am_G) (a0 : Nat) (a1 : Int32) (M : am_M) (h_a0 : am_sh M a0 14) : am_S am_ev G 4 yX10_setCover.cls yX10_setCover.name cX10_setCover 6 none 0 [(0, .ref a0), (1, .int a1)] [] M (fX10_setCover a0 a1 M) := by
  show am_S am_ev G 4 yX10_setCover.cls yX10_setCover.name cX10_setCover 6 none 0 [(0, .ref a0), (1, .int a1)] [] M ((fX10_setShape a0 M).bind fun M2 => am_loop (fX10_setCover_6) 100000 (a0, a1, 0, M2))
  refine am_aload_n 0 dX10_setCover_0 rfl rfl ?_
  refine am_callVv 9 [] (CX10_setShape G a0 M h_a0) dX10_setCover_1 mb_yX10_setShape ⟨ml_RX10_180, im_yX10_setShape, se_yX10_setShape⟩ rfl h_a0 (by decide) rfl rfl (Nat.le_of_ble_eq_true rfl) (fun M2 q1 w4 l3 => ?_)
  refine am_iconst dX10_setCover_4 am_kc_0 ?_
  refine am_istore_n (L' := [(2, .int 0), (0, .ref a0), (1, .int a1)]) dX10_setCover_5 rfl (by decide) rfl ?_
  refine am_sub [1, 2, 0] rfl ?_
  exact lX10_setCover_6 G 100000 (a0, a1, 0, M2) (am_sh.mono l3 h_a0)
theorem CX10_setCover (G : am_G) (a0 : Nat) (a1 : Int32) (M : am_M) (h_a0 : am_sh M a0 14) : am_C am_ev G 4 yX10_setCover cX10_setCover 6 none [.ref a0, .int a1] M (fX10_setCover a0 a1 M) :=
  am_meth (by decide) rfl (Nat.le_of_ble_eq_true rfl) (sX10_setCover_0 G a0 a1 M h_a0)
def fX10_isWhole_33 (k5 : (Nat × Int32 × Int32 × Int32 × Int32 × am_M) → Option (Int32 × am_M)) (x0 : Nat) (x1 : Int32) (x2 : Int32) (x4 : Int32) (s0 : Int32) (M : am_M) : Option (Int32 × am_M) := k5 (x0, x1, x2, s0, x4 + 1, M)
def fX10_isWhole_5 : ((Nat × Int32 × Int32 × Int32 × Int32 × am_M) → Option (Int32 × am_M)) → (Nat × Int32 × Int32 × Int32 × Int32 × am_M) → Option (Int32 × am_M) := fun k5 q0 => match q0 with
  | (x0, x1, x2, x3, x4, M) => if x1 + x2 ≤ x4 then some (x3 &&& 1, M) else if x3 = 0 then some (x3 &&& 1, M) else (M.2.2.1 x0 22).bind fun r3 => if x4 < 0 ∨ am_len M r3 ≤ x4.toNatClampNeg then none else if M.1 r3 (x4.toNatClampNeg) = 1 then fX10_isWhole_33 k5 x0 x1 x2 x4 1 M else fX10_isWhole_33 k5 x0 x1 x2 x4 0 M
def fX10_isWhole (a0 : Nat) (a1 : Int32) (a2 : Int32) (M : am_M) : Option (Int32 × am_M) := am_loop (fX10_isWhole_5) 100000 (a0, a1, a2, 1, a1, M)
set_option maxRecDepth 100000 in
set_option maxHeartbeats 4000000 in
theorem sX10_isWhole_33 (G : am_G) (k5 : (Nat × Int32 × Int32 × Int32 × Int32 × am_M) → Option (Int32 × am_M)) (hk5 : ∀ q : (Nat × Int32 × Int32 × Int32 × Int32 × am_M), (match q with | (x0, x1, x2, x3, x4, M) => am_sh M x0 14) → match q with | (x0, x1, x2, x3, x4, M) => am_S am_ei G 0 yX10_isWhole.cls yX10_isWhole.name cX10_isWhole 5 (some FieldType.boolean) 5 [(0, .ref x0), (1, .int x1), (2, .int x2), (3, .int x3), (4, .int x4)] [] M (k5 (x0, x1, x2, x3, x4, M))) (x0 : Nat) (x1 : Int32) (x2 : Int32) (x4 : Int32) (s0 : Int32) (M : am_M) (h_x0 : am_sh M x0 14) : am_S am_ei G 0 yX10_isWhole.cls yX10_isWhole.name cX10_isWhole 5 (some FieldType.boolean) 33 [(0, .ref x0), (1, .int x1), (2, .int x2), (4, .int x4)] [.int s0] M (fX10_isWhole_33 k5 x0 x1 x2 x4 s0 M) := by
  show am_S am_ei G 0 yX10_isWhole.cls yX10_isWhole.name cX10_isWhole 5 (some FieldType.boolean) 33 [(0, .ref x0), (1, .int x1), (2, .int x2), (4, .int x4)] [.int s0] M (k5 (x0, x1, x2, s0, x4 + 1, M))
  refine am_istore_n (L' := [(3, .int s0), (0, .ref x0), (1, .int x1), (2, .int x2), (4, .int x4)]) dX10_isWhole_33 rfl (by decide) rfl ?_
  refine am_iinc (L' := [(4, .int (x4 + 1)), (3, .int s0), (0, .ref x0), (1, .int x1), (2, .int x2)]) 4 dX10_isWhole_34 rfl (by rfl) (by decide) rfl ?_
  refine am_goto (tgt := 5) dX10_isWhole_37 (by decide) ?_
  refine am_sub [2, 3, 4, 1, 0] rfl ?_
  exact hk5 (x0, x1, x2, s0, x4 + 1, M) h_x0
set_option maxRecDepth 100000 in
set_option maxHeartbeats 4000000 in
theorem sX10_isWhole_5 (G : am_G) (k5 : (Nat × Int32 × Int32 × Int32 × Int32 × am_M) → Option (Int32 × am_M)) (hk5 : ∀ q : (Nat × Int32 × Int32 × Int32 × Int32 × am_M), (match q with | (x0, x1, x2, x3, x4, M) => am_sh M x0 14) → match q with | (x0, x1, x2, x3, x4, M) => am_S am_ei G 0 yX10_isWhole.cls yX10_isWhole.name cX10_isWhole 5 (some FieldType.boolean) 5 [(0, .ref x0), (1, .int x1), (2, .int x2), (3, .int x3), (4, .int x4)] [] M (k5 (x0, x1, x2, x3, x4, M))) (x0 : Nat) (x1 : Int32) (x2 : Int32) (x3 : Int32) (x4 : Int32) (M : am_M) (h_x0 : am_sh M x0 14) : am_S am_ei G 0 yX10_isWhole.cls yX10_isWhole.name cX10_isWhole 5 (some FieldType.boolean) 5 [(0, .ref x0), (1, .int x1), (2, .int x2), (3, .int x3), (4, .int x4)] [] M (fX10_isWhole_5 k5 (x0, x1, x2, x3, x4, M)) := by
  show am_S am_ei G 0 yX10_isWhole.cls yX10_isWhole.name cX10_isWhole 5 (some FieldType.boolean) 5 [(0, .ref x0), (1, .int x1), (2, .int x2), (3, .int x3), (4, .int x4)] [] M (if x1 + x2 ≤ x4 then some (x3 &&& 1, M) else if x3 = 0 then some (x3 &&& 1, M) else (M.2.2.1 x0 22).bind fun r3 => if x4 < 0 ∨ am_len M r3 ≤ x4.toNatClampNeg then none else if M.1 r3 (x4.toNatClampNeg) = 1 then fX10_isWhole_33 k5 x0 x1 x2 x4 1 M else fX10_isWhole_33 k5 x0 x1 x2 x4 0 M)
  refine am_iload 4 dX10_isWhole_5 rfl ?_
  refine am_iload_n 1 dX10_isWhole_7 rfl rfl ?_
  refine am_iload_n 2 dX10_isWhole_8 rfl rfl ?_
  refine am_iadd dX10_isWhole_9 ?_
  refine am_icmp_ge (tgt := 40) dX10_isWhole_10 (by decide) (fun c1 => ?_) (fun c1 => ?_)
  · refine am_iload_n 3 dX10_isWhole_40 rfl rfl ?_
    exact am_zret dX10_isWhole_41
  · refine am_iload_n 3 dX10_isWhole_13 rfl rfl ?_
    refine am_if_eq (tgt := 40) dX10_isWhole_14 (by decide) (fun c2 => ?_) (fun c2 => ?_)
    · refine am_iload_n 3 dX10_isWhole_40 rfl rfl ?_
      exact am_zret dX10_isWhole_41
    · refine am_aload_n 0 dX10_isWhole_17 rfl rfl ?_
      refine am_getR 9 dX10_isWhole_18 fl_RX10_47 h_x0 rfl (fun r3 e4 h5 => ?_)
      refine am_iload 4 dX10_isWhole_21 rfl ?_
      refine am_iald dX10_isWhole_23 h5 (fun b6 => ?_)
      refine am_iconst dX10_isWhole_24 am_kc_1 ?_
      refine am_icmp_ne (tgt := 32) dX10_isWhole_25 (by decide) (fun c7 => ?_) (fun c7 => ?_)
      · refine am_iconst dX10_isWhole_32 am_kc_0 ?_
        refine am_sub [0, 1, 2, 4] rfl ?_
        exact sX10_isWhole_33 G k5 hk5 x0 x1 x2 x4 0 M h_x0
      · refine am_iconst dX10_isWhole_28 am_kc_1 ?_
        refine am_goto (tgt := 33) dX10_isWhole_29 (by decide) ?_
        refine am_sub [0, 1, 2, 4] rfl ?_
        exact sX10_isWhole_33 G k5 hk5 x0 x1 x2 x4 1 M h_x0
set_option maxRecDepth 100000 in
set_option maxHeartbeats 4000000 in
theorem lX10_isWhole_5 (G : am_G) (n : Nat) (q : (Nat × Int32 × Int32 × Int32 × Int32 × am_M)) (hq : match q with | (x0, x1, x2, x3, x4, M) => am_sh M x0 14) : match q with | (x0, x1, x2, x3, x4, M) => am_S am_ei G 0 yX10_isWhole.cls yX10_isWhole.name cX10_isWhole 5 (some FieldType.boolean) 5 [(0, .ref x0), (1, .int x1), (2, .int x2), (3, .int x3), (4, .int x4)] [] M (am_loop (fX10_isWhole_5) n (x0, x1, x2, x3, x4, M)) := by
  exact am_loop_ok (fun q : (Nat × Int32 × Int32 × Int32 × Int32 × am_M) => match q with | (x0, x1, x2, x3, x4, M) => am_sh M x0 14) (fun q X => match q with | (x0, x1, x2, x3, x4, M) => am_S am_ei G 0 yX10_isWhole.cls yX10_isWhole.name cX10_isWhole 5 (some FieldType.boolean) 5 [(0, .ref x0), (1, .int x1), (2, .int x2), (3, .int x3), (4, .int x4)] [] M X) (fun _ => am_none) (fun k5 hk5 q hq => match q, hq with | (x0, x1, x2, x3, x4, M), h_x0 => sX10_isWhole_5 G k5 hk5 x0 x1 x2 x3 x4 M h_x0) n q hq
set_option maxRecDepth 100000 in
set_option maxHeartbeats 4000000 in
theorem sX10_isWhole_0 (G : am_G) (a0 : Nat) (a1 : Int32) (a2 : Int32) (M : am_M) (h_a0 : am_sh M a0 14) : am_S am_ei G 0 yX10_isWhole.cls yX10_isWhole.name cX10_isWhole 5 (some FieldType.boolean) 0 [(0, .ref a0), (1, .int a1), (2, .int a2)] [] M (fX10_isWhole a0 a1 a2 M) := by
  show am_S am_ei G 0 yX10_isWhole.cls yX10_isWhole.name cX10_isWhole 5 (some FieldType.boolean) 0 [(0, .ref a0), (1, .int a1), (2, .int a2)] [] M (am_loop (fX10_isWhole_5) 100000 (a0, a1, a2, 1, a1, M))
  refine am_iconst dX10_isWhole_0 am_kc_1 ?_
  refine am_istore_n (L' := [(3, .int 1), (0, .ref a0), (1, .int a1), (2, .int a2)]) dX10_isWhole_1 rfl (by decide) rfl ?_
  refine am_iload_n 2 dX10_isWhole_2 rfl rfl ?_
  refine am_istore (L' := [(4, .int a1), (3, .int 1), (0, .ref a0), (1, .int a1), (2, .int a2)]) dX10_isWhole_3 (by decide) rfl ?_
  refine am_sub [2, 3, 4, 1, 0] rfl ?_
  exact lX10_isWhole_5 G 100000 (a0, a1, a2, 1, a1, M) h_a0
theorem CX10_isWhole (G : am_G) (a0 : Nat) (a1 : Int32) (a2 : Int32) (M : am_M) (h_a0 : am_sh M a0 14) : am_C am_ei G 0 yX10_isWhole cX10_isWhole 5 (some FieldType.boolean) [.ref a0, .int a1, .int a2] M (fX10_isWhole a0 a1 a2 M) :=
  am_meth (by decide) rfl (Nat.le_of_ble_eq_true rfl) (sX10_isWhole_0 G a0 a1 a2 M h_a0)
def fX10_levelAt_28 (k5 : (Nat × Int32 × Int32 × am_M) → Option (Int32 × am_M)) (x0 : Nat) (x1 : Int32) (x2 : Int32) (M : am_M) : Option (Int32 × am_M) := k5 (x0, x1, x2 + 1, M)
def fX10_levelAt_5 : ((Nat × Int32 × Int32 × am_M) → Option (Int32 × am_M)) → (Nat × Int32 × Int32 × am_M) → Option (Int32 × am_M) := fun k5 q0 => match q0 with
  | (x0, x1, x2, M) => (fX10_sizeOf x0 x2 M).bind fun p6 => if p6.1 = 0 then none else if x1 - x1 / p6.1 * p6.1 = 0 then (fX10_sizeOf x0 x2 p6.2).bind fun p14 => (fX10_isWhole x0 x1 p14.1 p14.2).bind fun p20 => if p20.1 = 0 then fX10_levelAt_28 k5 x0 x1 x2 p20.2 else some (x2, p20.2) else fX10_levelAt_28 k5 x0 x1 x2 p6.2
def fX10_levelAt (a0 : Nat) (a1 : Int32) (M : am_M) : Option (Int32 × am_M) := am_loop (fX10_levelAt_5) 100000 (a0, a1, M.1 a0 2, M)
set_option maxRecDepth 100000 in
set_option maxHeartbeats 4000000 in
theorem sX10_levelAt_28 (G : am_G) (k5 : (Nat × Int32 × Int32 × am_M) → Option (Int32 × am_M)) (hk5 : ∀ q : (Nat × Int32 × Int32 × am_M), (match q with | (x0, x1, x2, M) => am_sh M x0 14) → match q with | (x0, x1, x2, M) => am_S am_ei G 1 yX10_levelAt.cls yX10_levelAt.name cX10_levelAt 3 (some FieldType.int) 5 [(0, .ref x0), (1, .int x1), (2, .int x2)] [] M (k5 (x0, x1, x2, M))) (x0 : Nat) (x1 : Int32) (x2 : Int32) (M : am_M) (h_x0 : am_sh M x0 14) : am_S am_ei G 1 yX10_levelAt.cls yX10_levelAt.name cX10_levelAt 3 (some FieldType.int) 28 [(0, .ref x0), (1, .int x1), (2, .int x2)] [] M (fX10_levelAt_28 k5 x0 x1 x2 M) := by
  show am_S am_ei G 1 yX10_levelAt.cls yX10_levelAt.name cX10_levelAt 3 (some FieldType.int) 28 [(0, .ref x0), (1, .int x1), (2, .int x2)] [] M (k5 (x0, x1, x2 + 1, M))
  refine am_iinc (L' := [(2, .int (x2 + 1)), (0, .ref x0), (1, .int x1)]) 2 dX10_levelAt_28 rfl (by rfl) (by decide) rfl ?_
  refine am_goto (tgt := 5) dX10_levelAt_31 (by decide) ?_
  refine am_sub [1, 2, 0] rfl ?_
  exact hk5 (x0, x1, x2 + 1, M) h_x0
set_option maxRecDepth 100000 in
set_option maxHeartbeats 4000000 in
theorem sX10_levelAt_5 (G : am_G) (k5 : (Nat × Int32 × Int32 × am_M) → Option (Int32 × am_M)) (hk5 : ∀ q : (Nat × Int32 × Int32 × am_M), (match q with | (x0, x1, x2, M) => am_sh M x0 14) → match q with | (x0, x1, x2, M) => am_S am_ei G 1 yX10_levelAt.cls yX10_levelAt.name cX10_levelAt 3 (some FieldType.int) 5 [(0, .ref x0), (1, .int x1), (2, .int x2)] [] M (k5 (x0, x1, x2, M))) (x0 : Nat) (x1 : Int32) (x2 : Int32) (M : am_M) (h_x0 : am_sh M x0 14) : am_S am_ei G 1 yX10_levelAt.cls yX10_levelAt.name cX10_levelAt 3 (some FieldType.int) 5 [(0, .ref x0), (1, .int x1), (2, .int x2)] [] M (fX10_levelAt_5 k5 (x0, x1, x2, M)) := by
  show am_S am_ei G 1 yX10_levelAt.cls yX10_levelAt.name cX10_levelAt 3 (some FieldType.int) 5 [(0, .ref x0), (1, .int x1), (2, .int x2)] [] M ((fX10_sizeOf x0 x2 M).bind fun p6 => if p6.1 = 0 then none else if x1 - x1 / p6.1 * p6.1 = 0 then (fX10_sizeOf x0 x2 p6.2).bind fun p14 => (fX10_isWhole x0 x1 p14.1 p14.2).bind fun p20 => if p20.1 = 0 then fX10_levelAt_28 k5 x0 x1 x2 p20.2 else some (x2, p20.2) else fX10_levelAt_28 k5 x0 x1 x2 p6.2)
  refine am_iload_n 1 dX10_levelAt_5 rfl rfl ?_
  refine am_aload_n 0 dX10_levelAt_6 rfl rfl ?_
  refine am_iload_n 2 dX10_levelAt_7 rfl rfl ?_
  refine am_callVi 9 [.int x2] (CX10_sizeOf G x0 x2 M h_x0) dX10_levelAt_8 mb_yX10_sizeOf ⟨ml_RX10_170, im_yX10_sizeOf, se_yX10_sizeOf⟩ rfl h_x0 (by decide) rfl rfl (Nat.le_of_ble_eq_true rfl) (fun v5 M2 q1 w4 l3 => ?_)
  refine am_irem dX10_levelAt_11 (fun hz7 => ?_)
  refine am_if_ne (tgt := 28) dX10_levelAt_12 (by decide) (fun c8 => ?_) (fun c8 => ?_)
  · exact sX10_levelAt_28 G k5 hk5 x0 x1 x2 M2 (am_sh.mono l3 h_x0)
  · refine am_aload_n 0 dX10_levelAt_15 rfl rfl ?_
    refine am_iload_n 1 dX10_levelAt_16 rfl rfl ?_
    refine am_aload_n 0 dX10_levelAt_17 rfl rfl ?_
    refine am_iload_n 2 dX10_levelAt_18 rfl rfl ?_
    refine am_callVi 9 [.int x2] (CX10_sizeOf G x0 x2 M2 (am_sh.mono l3 h_x0)) dX10_levelAt_19 mb_yX10_sizeOf ⟨ml_RX10_170, im_yX10_sizeOf, se_yX10_sizeOf⟩ rfl (am_sh.mono l3 h_x0) (by decide) rfl rfl (Nat.le_of_ble_eq_true rfl) (fun v13 M10 q9 w12 l11 => ?_)
    refine am_callVi 9 [.int x1, .int v13] (CX10_isWhole G x0 x1 v13 M10 (am_sh.mono l11 (am_sh.mono l3 h_x0))) dX10_levelAt_22 mb_yX10_isWhole ⟨ml_RX10_189, im_yX10_isWhole, se_yX10_isWhole⟩ rfl (am_sh.mono l11 (am_sh.mono l3 h_x0)) (by decide) rfl rfl (Nat.le_of_ble_eq_true rfl) (fun v19 M16 q15 w18 l17 => ?_)
    refine am_if_ne (tgt := 34) dX10_levelAt_25 (by decide) (fun c21 => ?_) (fun c21 => ?_)
    · refine am_iload_n 2 dX10_levelAt_34 rfl rfl ?_
      exact am_iret dX10_levelAt_35
    · exact sX10_levelAt_28 G k5 hk5 x0 x1 x2 M16 (am_sh.mono l17 (am_sh.mono l11 (am_sh.mono l3 h_x0)))
set_option maxRecDepth 100000 in
set_option maxHeartbeats 4000000 in
theorem lX10_levelAt_5 (G : am_G) (n : Nat) (q : (Nat × Int32 × Int32 × am_M)) (hq : match q with | (x0, x1, x2, M) => am_sh M x0 14) : match q with | (x0, x1, x2, M) => am_S am_ei G 1 yX10_levelAt.cls yX10_levelAt.name cX10_levelAt 3 (some FieldType.int) 5 [(0, .ref x0), (1, .int x1), (2, .int x2)] [] M (am_loop (fX10_levelAt_5) n (x0, x1, x2, M)) := by
  exact am_loop_ok (fun q : (Nat × Int32 × Int32 × am_M) => match q with | (x0, x1, x2, M) => am_sh M x0 14) (fun q X => match q with | (x0, x1, x2, M) => am_S am_ei G 1 yX10_levelAt.cls yX10_levelAt.name cX10_levelAt 3 (some FieldType.int) 5 [(0, .ref x0), (1, .int x1), (2, .int x2)] [] M X) (fun _ => am_none) (fun k5 hk5 q hq => match q, hq with | (x0, x1, x2, M), h_x0 => sX10_levelAt_5 G k5 hk5 x0 x1 x2 M h_x0) n q hq
set_option maxRecDepth 100000 in
set_option maxHeartbeats 4000000 in
theorem sX10_levelAt_0 (G : am_G) (a0 : Nat) (a1 : Int32) (M : am_M) (h_a0 : am_sh M a0 14) : am_S am_ei G 1 yX10_levelAt.cls yX10_levelAt.name cX10_levelAt 3 (some FieldType.int) 0 [(0, .ref a0), (1, .int a1)] [] M (fX10_levelAt a0 a1 M) := by
  show am_S am_ei G 1 yX10_levelAt.cls yX10_levelAt.name cX10_levelAt 3 (some FieldType.int) 0 [(0, .ref a0), (1, .int a1)] [] M (am_loop (fX10_levelAt_5) 100000 (a0, a1, M.1 a0 2, M))
  refine am_aload_n 0 dX10_levelAt_0 rfl rfl ?_
  refine am_getI 9 dX10_levelAt_1 fl_RX10_105 h_a0 rfl ?_
  refine am_istore_n (L' := [(2, .int (M.1 a0 2)), (0, .ref a0), (1, .int a1)]) dX10_levelAt_4 rfl (by decide) rfl ?_
  refine am_sub [1, 2, 0] rfl ?_
  exact lX10_levelAt_5 G 100000 (a0, a1, M.1 a0 2, M) h_a0
theorem CX10_levelAt (G : am_G) (a0 : Nat) (a1 : Int32) (M : am_M) (h_a0 : am_sh M a0 14) : am_C am_ei G 1 yX10_levelAt cX10_levelAt 3 (some FieldType.int) [.ref a0, .int a1] M (fX10_levelAt a0 a1 M) :=
  am_meth (by decide) rfl (Nat.le_of_ble_eq_true rfl) (sX10_levelAt_0 G a0 a1 M h_a0)
def fX10_tiles_65 (k4 : (Nat × Int32 × Int32 × Int32 × am_M) → Option (Int32 × am_M)) (x0 : Nat) (x1 : Int32) (x2 : Int32) (x3 : Int32) (x4 : Int32) (M : am_M) : Option (Int32 × am_M) := (fX10_sizeOf x0 x4 M).bind fun p25 => k4 (x0, x1, x2 + 1, x3 + p25.1, p25.2)
def fX10_tiles_4 : ((Nat × Int32 × Int32 × Int32 × am_M) → Option (Int32 × am_M)) → (Nat × Int32 × Int32 × Int32 × am_M) → Option (Int32 × am_M) := fun k4 q0 => match q0 with
  | (x0, x1, x2, x3, M) => (fX10_cells x0 M).bind fun p6 => if p6.1 ≤ x3 then some (x2, p6.2) else (p6.2.2.2.1 x0 22).bind fun r8 => if x3 < 0 ∨ am_len p6.2 r8 ≤ x3.toNatClampNeg then none else if p6.2.1 r8 (x3.toNatClampNeg) = 0 then (fX10_sizeOf x0 (p6.2.1 x0 3) p6.2).bind fun p38 => k4 (x0, x1, x2, x3 + p38.1, p38.2) else (fX10_levelAt x0 x3 p6.2).bind fun p18 => if x2 = x1 then (fX10_sizeOf x0 p18.1 (am_pI p18.2 x0 23 p18.1)).bind fun p31 => if p31.1 = 0 then none else fX10_tiles_65 k4 x0 x1 x2 x3 p18.1 (am_pI p31.2 x0 24 (x3 / p31.1)) else fX10_tiles_65 k4 x0 x1 x2 x3 p18.1 p18.2
def fX10_tiles (a0 : Nat) (a1 : Int32) (M : am_M) : Option (Int32 × am_M) := am_loop (fX10_tiles_4) 100000 (a0, a1, 0, 0, M)
set_option maxRecDepth 100000 in
set_option maxHeartbeats 4000000 in
theorem sX10_tiles_65 (G : am_G) (k4 : (Nat × Int32 × Int32 × Int32 × am_M) → Option (Int32 × am_M)) (hk4 : ∀ q : (Nat × Int32 × Int32 × Int32 × am_M), (match q with | (x0, x1, x2, x3, M) => am_sh M x0 14) → match q with | (x0, x1, x2, x3, M) => am_S am_ei G 2 yX10_tiles.cls yX10_tiles.name cX10_tiles 5 (some FieldType.int) 4 [(0, .ref x0), (1, .int x1), (2, .int x2), (3, .int x3)] [] M (k4 (x0, x1, x2, x3, M))) (x0 : Nat) (x1 : Int32) (x2 : Int32) (x3 : Int32) (x4 : Int32) (M : am_M) (h_x0 : am_sh M x0 14) : am_S am_ei G 2 yX10_tiles.cls yX10_tiles.name cX10_tiles 5 (some FieldType.int) 65 [(0, .ref x0), (1, .int x1), (2, .int x2), (3, .int x3), (4, .int x4)] [] M (fX10_tiles_65 k4 x0 x1 x2 x3 x4 M) := by
  show am_S am_ei G 2 yX10_tiles.cls yX10_tiles.name cX10_tiles 5 (some FieldType.int) 65 [(0, .ref x0), (1, .int x1), (2, .int x2), (3, .int x3), (4, .int x4)] [] M ((fX10_sizeOf x0 x4 M).bind fun p25 => k4 (x0, x1, x2 + 1, x3 + p25.1, p25.2))
  refine am_iload_n 3 dX10_tiles_65 rfl rfl ?_
  refine am_aload_n 0 dX10_tiles_66 rfl rfl ?_
  refine am_iload 4 dX10_tiles_67 rfl ?_
  refine am_callVi 9 [.int x4] (CX10_sizeOf G x0 x4 M h_x0) dX10_tiles_69 mb_yX10_sizeOf ⟨ml_RX10_170, im_yX10_sizeOf, se_yX10_sizeOf⟩ rfl h_x0 (by decide) rfl rfl (Nat.le_of_ble_eq_true rfl) (fun v24 M21 q20 w23 l22 => ?_)
  refine am_iadd dX10_tiles_72 ?_
  refine am_istore_n (L' := [(3, .int (x3 + v24)), (0, .ref x0), (1, .int x1), (2, .int x2), (4, .int x4)]) dX10_tiles_73 rfl (by decide) rfl ?_
  refine am_iinc (L' := [(2, .int (x2 + 1)), (3, .int (x3 + v24)), (0, .ref x0), (1, .int x1), (4, .int x4)]) 3 dX10_tiles_74 rfl (by rfl) (by decide) rfl ?_
  refine am_goto (tgt := 4) dX10_tiles_77 (by decide) ?_
  refine am_sub [2, 3, 0, 1] rfl ?_
  exact hk4 (x0, x1, x2 + 1, x3 + v24, M21) (am_sh.mono l22 h_x0)
set_option maxRecDepth 100000 in
set_option maxHeartbeats 4000000 in
theorem sX10_tiles_4 (G : am_G) (k4 : (Nat × Int32 × Int32 × Int32 × am_M) → Option (Int32 × am_M)) (hk4 : ∀ q : (Nat × Int32 × Int32 × Int32 × am_M), (match q with | (x0, x1, x2, x3, M) => am_sh M x0 14) → match q with | (x0, x1, x2, x3, M) => am_S am_ei G 2 yX10_tiles.cls yX10_tiles.name cX10_tiles 5 (some FieldType.int) 4 [(0, .ref x0), (1, .int x1), (2, .int x2), (3, .int x3)] [] M (k4 (x0, x1, x2, x3, M))) (x0 : Nat) (x1 : Int32) (x2 : Int32) (x3 : Int32) (M : am_M) (h_x0 : am_sh M x0 14) : am_S am_ei G 2 yX10_tiles.cls yX10_tiles.name cX10_tiles 5 (some FieldType.int) 4 [(0, .ref x0), (1, .int x1), (2, .int x2), (3, .int x3)] [] M (fX10_tiles_4 k4 (x0, x1, x2, x3, M)) := by
  show am_S am_ei G 2 yX10_tiles.cls yX10_tiles.name cX10_tiles 5 (some FieldType.int) 4 [(0, .ref x0), (1, .int x1), (2, .int x2), (3, .int x3)] [] M ((fX10_cells x0 M).bind fun p6 => if p6.1 ≤ x3 then some (x2, p6.2) else (p6.2.2.2.1 x0 22).bind fun r8 => if x3 < 0 ∨ am_len p6.2 r8 ≤ x3.toNatClampNeg then none else if p6.2.1 r8 (x3.toNatClampNeg) = 0 then (fX10_sizeOf x0 (p6.2.1 x0 3) p6.2).bind fun p38 => k4 (x0, x1, x2, x3 + p38.1, p38.2) else (fX10_levelAt x0 x3 p6.2).bind fun p18 => if x2 = x1 then (fX10_sizeOf x0 p18.1 (am_pI p18.2 x0 23 p18.1)).bind fun p31 => if p31.1 = 0 then none else fX10_tiles_65 k4 x0 x1 x2 x3 p18.1 (am_pI p31.2 x0 24 (x3 / p31.1)) else fX10_tiles_65 k4 x0 x1 x2 x3 p18.1 p18.2)
  refine am_iload_n 3 dX10_tiles_4 rfl rfl ?_
  refine am_aload_n 0 dX10_tiles_5 rfl rfl ?_
  refine am_callVi 9 [] (CX10_cells G x0 M h_x0) dX10_tiles_6 mb_yX10_cells ⟨ml_RX10_157, im_yX10_cells, se_yX10_cells⟩ rfl h_x0 (by decide) rfl rfl (Nat.le_of_ble_eq_true rfl) (fun v5 M2 q1 w4 l3 => ?_)
  refine am_icmp_ge (tgt := 80) dX10_tiles_9 (by decide) (fun c7 => ?_) (fun c7 => ?_)
  · refine am_iload_n 2 dX10_tiles_80 rfl rfl ?_
    exact am_iret dX10_tiles_81
  · refine am_aload_n 0 dX10_tiles_12 rfl rfl ?_
    refine am_getR 9 dX10_tiles_13 fl_RX10_47 (am_sh.mono l3 h_x0) rfl (fun r8 e9 h10 => ?_)
    refine am_iload_n 3 dX10_tiles_16 rfl rfl ?_
    refine am_iald dX10_tiles_17 h10 (fun b11 => ?_)
    refine am_if_ne (tgt := 35) dX10_tiles_18 (by decide) (fun c12 => ?_) (fun c12 => ?_)
    · refine am_aload_n 0 dX10_tiles_35 rfl rfl ?_
      refine am_iload_n 3 dX10_tiles_36 rfl rfl ?_
      refine am_callVi 9 [.int x3] (CX10_levelAt G x0 x3 M2 (am_sh.mono l3 h_x0)) dX10_tiles_37 mb_yX10_levelAt ⟨ml_RX10_192, im_yX10_levelAt, se_yX10_levelAt⟩ rfl (am_sh.mono l3 h_x0) (by decide) rfl rfl (Nat.le_of_ble_eq_true rfl) (fun v17 M14 q13 w16 l15 => ?_)
      refine am_istore (L' := [(4, .int v17), (0, .ref x0), (1, .int x1), (2, .int x2), (3, .int x3)]) dX10_tiles_40 (by decide) rfl ?_
      refine am_iload_n 3 dX10_tiles_42 rfl rfl ?_
      refine am_iload_n 2 dX10_tiles_43 rfl rfl ?_
      refine am_icmp_ne (tgt := 65) dX10_tiles_44 (by decide) (fun c19 => ?_) (fun c19 => ?_)
      · refine am_sub [1, 2, 3, 4, 0] rfl ?_
        exact sX10_tiles_65 G k4 hk4 x0 x1 x2 x3 v17 M14 (am_sh.mono l15 (am_sh.mono l3 h_x0))
      · refine am_aload_n 1 dX10_tiles_47 rfl rfl ?_
        refine am_iload 0 dX10_tiles_48 rfl ?_
        refine am_putI 9 dX10_tiles_50 fl_RX10_195 (am_sh.mono l15 (am_sh.mono l3 h_x0)) rfl rfl rfl rfl ?_
        refine am_aload_n 1 dX10_tiles_53 rfl rfl ?_
        refine am_iload_n 4 dX10_tiles_54 rfl rfl ?_
        refine am_aload_n 1 dX10_tiles_55 rfl rfl ?_
        refine am_iload 0 dX10_tiles_56 rfl ?_
        refine am_callVi 9 [.int v17] (CX10_sizeOf G x0 v17 (am_pI M14 x0 23 v17) (am_sh.of (am_sh.mono l15 (am_sh.mono l3 h_x0)) rfl)) dX10_tiles_58 mb_yX10_sizeOf ⟨ml_RX10_170, im_yX10_sizeOf, se_yX10_sizeOf⟩ rfl (am_sh.of (am_sh.mono l15 (am_sh.mono l3 h_x0)) rfl) (by decide) rfl rfl (Nat.le_of_ble_eq_true rfl) (fun v30 M27 q26 w29 l28 => ?_)
        refine am_idiv dX10_tiles_61 (fun hz32 => ?_)
        refine am_putI 9 dX10_tiles_62 fl_RX10_198 (am_sh.mono l28 (am_sh.of (am_sh.mono l15 (am_sh.mono l3 h_x0)) rfl)) rfl rfl rfl rfl ?_
        refine am_sub [1, 2, 3, 4, 0] rfl ?_
        exact sX10_tiles_65 G k4 hk4 x0 x1 x2 x3 v17 (am_pI M27 x0 24 (x3 / v30)) (am_sh.of (am_sh.mono l28 (am_sh.of (am_sh.mono l15 (am_sh.mono l3 h_x0)) rfl)) rfl)
    · refine am_iload_n 3 dX10_tiles_21 rfl rfl ?_
      refine am_aload_n 0 dX10_tiles_22 rfl rfl ?_
      refine am_aload_n 0 dX10_tiles_23 rfl rfl ?_
      refine am_getI 9 dX10_tiles_24 fl_RX10_16 (am_sh.mono l3 h_x0) rfl ?_
      refine am_callVi 9 [.int (M2.1 x0 3)] (CX10_sizeOf G x0 (M2.1 x0 3) M2 (am_sh.mono l3 h_x0)) dX10_tiles_27 mb_yX10_sizeOf ⟨ml_RX10_170, im_yX10_sizeOf, se_yX10_sizeOf⟩ rfl (am_sh.mono l3 h_x0) (by decide) rfl rfl (Nat.le_of_ble_eq_true rfl) (fun v37 M34 q33 w36 l35 => ?_)
      refine am_iadd dX10_tiles_30 ?_
      refine am_istore_n (L' := [(3, .int (x3 + v37)), (0, .ref x0), (1, .int x1), (2, .int x2)]) dX10_tiles_31 rfl (by decide) rfl ?_
      refine am_goto (tgt := 4) dX10_tiles_32 (by decide) ?_
      refine am_sub [1, 2, 3, 0] rfl ?_
      exact hk4 (x0, x1, x2, x3 + v37, M34) (am_sh.mono l35 (am_sh.mono l3 h_x0))
set_option maxRecDepth 100000 in
set_option maxHeartbeats 4000000 in
theorem lX10_tiles_4 (G : am_G) (n : Nat) (q : (Nat × Int32 × Int32 × Int32 × am_M)) (hq : match q with | (x0, x1, x2, x3, M) => am_sh M x0 14) : match q with | (x0, x1, x2, x3, M) => am_S am_ei G 2 yX10_tiles.cls yX10_tiles.name cX10_tiles 5 (some FieldType.int) 4 [(0, .ref x0), (1, .int x1), (2, .int x2), (3, .int x3)] [] M (am_loop (fX10_tiles_4) n (x0, x1, x2, x3, M)) := by
  exact am_loop_ok (fun q : (Nat × Int32 × Int32 × Int32 × am_M) => match q with | (x0, x1, x2, x3, M) => am_sh M x0 14) (fun q X => match q with | (x0, x1, x2, x3, M) => am_S am_ei G 2 yX10_tiles.cls yX10_tiles.name cX10_tiles 5 (some FieldType.int) 4 [(0, .ref x0), (1, .int x1), (2, .int x2), (3, .int x3)] [] M X) (fun _ => am_none) (fun k4 hk4 q hq => match q, hq with | (x0, x1, x2, x3, M), h_x0 => sX10_tiles_4 G k4 hk4 x0 x1 x2 x3 M h_x0) n q hq
set_option maxRecDepth 100000 in
set_option maxHeartbeats 4000000 in
theorem sX10_tiles_0 (G : am_G) (a0 : Nat) (a1 : Int32) (M : am_M) (h_a0 : am_sh M a0 14) : am_S am_ei G 2 yX10_tiles.cls yX10_tiles.name cX10_tiles 5 (some FieldType.int) 0 [(0, .ref a0), (1, .int a1)] [] M (fX10_tiles a0 a1 M) := by
  show am_S am_ei G 2 yX10_tiles.cls yX10_tiles.name cX10_tiles 5 (some FieldType.int) 0 [(0, .ref a0), (1, .int a1)] [] M (am_loop (fX10_tiles_4) 100000 (a0, a1, 0, 0, M))
  refine am_iconst dX10_tiles_0 am_kc_0 ?_
  refine am_istore_n (L' := [(2, .int 0), (0, .ref a0), (1, .int a1)]) dX10_tiles_1 rfl (by decide) rfl ?_
  refine am_iconst dX10_tiles_2 am_kc_0 ?_
  refine am_istore_n (L' := [(3, .int 0), (2, .int 0), (0, .ref a0), (1, .int a1)]) dX10_tiles_3 rfl (by decide) rfl ?_
  refine am_sub [2, 3, 1, 0] rfl ?_
  exact lX10_tiles_4 G 100000 (a0, a1, 0, 0, M) h_a0
theorem CX10_tiles (G : am_G) (a0 : Nat) (a1 : Int32) (M : am_M) (h_a0 : am_sh M a0 14) : am_C am_ei G 2 yX10_tiles cX10_tiles 5 (some FieldType.int) [.ref a0, .int a1] M (fX10_tiles a0 a1 M) :=
  am_meth (by decide) rfl (Nat.le_of_ble_eq_true rfl) (sX10_tiles_0 G a0 a1 M h_a0)
def fX10_isAsked (a0 : Int32) (a1 : Int32) (a2 : Int32) (M : am_M) : Option (Int32 × am_M) := (fX10_isIn a0 0 1 M).bind fun p6 => if p6.1 = 0 then some (0, p6.2) else if a1 < (-1) then some (0, p6.2) else (fX10_isIn a2 0 1 p6.2).bind fun p14 => if p14.1 = 0 then some (0, p14.2) else some (1, p14.2)
set_option maxRecDepth 100000 in
set_option maxHeartbeats 4000000 in
theorem sX10_isAsked_0 (G : am_G) (a0 : Int32) (a1 : Int32) (a2 : Int32) (M : am_M) : am_S am_ei G 1 yX10_isAsked.cls yX10_isAsked.name cX10_isAsked 3 (some FieldType.boolean) 0 [(0, .int a0), (1, .int a1), (2, .int a2)] [] M (fX10_isAsked a0 a1 a2 M) := by
  show am_S am_ei G 1 yX10_isAsked.cls yX10_isAsked.name cX10_isAsked 3 (some FieldType.boolean) 0 [(0, .int a0), (1, .int a1), (2, .int a2)] [] M ((fX10_isIn a0 0 1 M).bind fun p6 => if p6.1 = 0 then some (0, p6.2) else if a1 < (-1) then some (0, p6.2) else (fX10_isIn a2 0 1 p6.2).bind fun p14 => if p14.1 = 0 then some (0, p14.2) else some (1, p14.2))
  refine am_iload_n 0 dX10_isAsked_0 rfl rfl ?_
  refine am_iconst dX10_isAsked_1 am_kc_0 ?_
  refine am_iconst dX10_isAsked_2 am_kc_1 ?_
  refine am_callSi [.int a0, .int 0, .int 1] (CX10_isIn G a0 0 1 M) dX10_isAsked_3 mb_yX10_isIn ⟨ml_RX10_66, sm_yX10_isIn⟩ (by decide) rfl rfl (Nat.le_of_ble_eq_true rfl) (fun v5 M2 q1 w4 l3 => ?_)
  refine am_if_eq (tgt := 27) dX10_isAsked_6 (by decide) (fun c7 => ?_) (fun c7 => ?_)
  · refine am_iconst dX10_isAsked_27 am_kc_0 ?_
    exact am_zret0 dX10_isAsked_28
  · refine am_iload_n 1 dX10_isAsked_9 rfl rfl ?_
    refine am_iconst dX10_isAsked_10 am_kc_m1 ?_
    refine am_icmp_lt (tgt := 27) dX10_isAsked_11 (by decide) (fun c8 => ?_) (fun c8 => ?_)
    · refine am_iconst dX10_isAsked_27 am_kc_0 ?_
      exact am_zret0 dX10_isAsked_28
    · refine am_iload_n 2 dX10_isAsked_14 rfl rfl ?_
      refine am_iconst dX10_isAsked_15 am_kc_0 ?_
      refine am_iconst dX10_isAsked_16 am_kc_1 ?_
      refine am_callSi [.int a2, .int 0, .int 1] (CX10_isIn G a2 0 1 M2) dX10_isAsked_17 mb_yX10_isIn ⟨ml_RX10_66, sm_yX10_isIn⟩ (by decide) rfl rfl (Nat.le_of_ble_eq_true rfl) (fun v13 M10 q9 w12 l11 => ?_)
      refine am_if_eq (tgt := 27) dX10_isAsked_20 (by decide) (fun c15 => ?_) (fun c15 => ?_)
      · refine am_iconst dX10_isAsked_27 am_kc_0 ?_
        exact am_zret0 dX10_isAsked_28
      · refine am_iconst dX10_isAsked_23 am_kc_1 ?_
        refine am_goto (tgt := 28) dX10_isAsked_24 (by decide) ?_
        exact am_zret1 dX10_isAsked_28
theorem CX10_isAsked (G : am_G) (a0 : Int32) (a1 : Int32) (a2 : Int32) (M : am_M) : am_C am_ei G 1 yX10_isAsked cX10_isAsked 3 (some FieldType.boolean) [.int a0, .int a1, .int a2] M (fX10_isAsked a0 a1 a2 M) :=
  am_meth (by decide) rfl (Nat.le_of_ble_eq_true rfl) (sX10_isAsked_0 G a0 a1 a2 M)
def fX10_cover (a0 : Nat) (a1 : Int32) (a2 : Int32) (a3 : Int32) (M : am_M) : Option (Int32 × am_M) := (fX10_isAsked a1 a2 a3 M).bind fun p6 => if p6.1 = 0 then some ((-1), p6.2) else (fX10_setCover a0 a1 p6.2).bind fun M9 => (fX10_tiles a0 a2 M9).bind fun p18 => if a2 = (-1) then some (p18.1, p18.2) else if a2 < p18.1 then if a3 = 0 then some (p18.2.1 a0 23, p18.2) else some (p18.2.1 a0 24, p18.2) else some ((-4), p18.2)
set_option maxRecDepth 100000 in
set_option maxHeartbeats 4000000 in
theorem sX10_cover_0 (G : am_G) (a0 : Nat) (a1 : Int32) (a2 : Int32) (a3 : Int32) (M : am_M) (h_a0 : am_sh M a0 14) : am_S am_ei G 5 yX10_cover.cls yX10_cover.name cX10_cover 5 (some FieldType.int) 0 [(0, .ref a0), (1, .int a1), (2, .int a2), (3, .int a3)] [] M (fX10_cover a0 a1 a2 a3 M) := by
  show am_S am_ei G 5 yX10_cover.cls yX10_cover.name cX10_cover 5 (some FieldType.int) 0 [(0, .ref a0), (1, .int a1), (2, .int a2), (3, .int a3)] [] M ((fX10_isAsked a1 a2 a3 M).bind fun p6 => if p6.1 = 0 then some ((-1), p6.2) else (fX10_setCover a0 a1 p6.2).bind fun M9 => (fX10_tiles a0 a2 M9).bind fun p18 => if a2 = (-1) then some (p18.1, p18.2) else if a2 < p18.1 then if a3 = 0 then some (p18.2.1 a0 23, p18.2) else some (p18.2.1 a0 24, p18.2) else some ((-4), p18.2))
  refine am_iload_n 1 dX10_cover_0 rfl rfl ?_
  refine am_iload_n 2 dX10_cover_1 rfl rfl ?_
  refine am_iload_n 3 dX10_cover_2 rfl rfl ?_
  refine am_callSi [.int a1, .int a2, .int a3] (CX10_isAsked G a1 a2 a3 M) dX10_cover_3 mb_yX10_isAsked ⟨ml_RX10_201, sm_yX10_isAsked⟩ (by decide) rfl rfl (Nat.le_of_ble_eq_true rfl) (fun v5 M2 q1 w4 l3 => ?_)
  refine am_if_ne (tgt := 11) dX10_cover_6 (by decide) (fun c7 => ?_) (fun c7 => ?_)
  · refine am_aload_n 0 dX10_cover_11 rfl rfl ?_
    refine am_iload_n 1 dX10_cover_12 rfl rfl ?_
    refine am_callVv 9 [.int a1] (CX10_setCover G a0 a1 M2 (am_sh.mono l3 h_a0)) dX10_cover_13 mb_yX10_setCover ⟨ml_RX10_204, im_yX10_setCover, se_yX10_setCover⟩ rfl (am_sh.mono l3 h_a0) (by decide) rfl rfl (Nat.le_of_ble_eq_true rfl) (fun M9 q8 w11 l10 => ?_)
    refine am_aload_n 0 dX10_cover_16 rfl rfl ?_
    refine am_iload_n 2 dX10_cover_17 rfl rfl ?_
    refine am_callVi 9 [.int a2] (CX10_tiles G a0 a2 M9 (am_sh.mono l10 (am_sh.mono l3 h_a0))) dX10_cover_18 mb_yX10_tiles ⟨ml_RX10_207, im_yX10_tiles, se_yX10_tiles⟩ rfl (am_sh.mono l10 (am_sh.mono l3 h_a0)) (by decide) rfl rfl (Nat.le_of_ble_eq_true rfl) (fun v17 M14 q13 w16 l15 => ?_)
    refine am_istore (L' := [(4, .int v17), (0, .ref a0), (1, .int a1), (2, .int a2), (3, .int a3)]) dX10_cover_21 (by decide) rfl ?_
    refine am_iload_n 3 dX10_cover_23 rfl rfl ?_
    refine am_iconst dX10_cover_24 am_kc_m1 ?_
    refine am_icmp_ne (tgt := 33) dX10_cover_25 (by decide) (fun c19 => ?_) (fun c19 => ?_)
    · refine am_iload_n 3 dX10_cover_33 rfl rfl ?_
      refine am_iload 0 dX10_cover_34 rfl ?_
      refine am_icmp_lt (tgt := 44) dX10_cover_36 (by decide) (fun c20 => ?_) (fun c20 => ?_)
      · refine am_iload_n 4 dX10_cover_44 rfl rfl ?_
        refine am_if_ne (tgt := 55) dX10_cover_45 (by decide) (fun c21 => ?_) (fun c21 => ?_)
        · refine am_aload_n 1 dX10_cover_55 rfl rfl ?_
          refine am_getI 9 dX10_cover_56 fl_RX10_198 (am_sh.mono l15 (am_sh.mono l10 (am_sh.mono l3 h_a0))) rfl ?_
          exact am_iret dX10_cover_59
        · refine am_aload_n 1 dX10_cover_48 rfl rfl ?_
          refine am_getI 9 dX10_cover_49 fl_RX10_195 (am_sh.mono l15 (am_sh.mono l10 (am_sh.mono l3 h_a0))) rfl ?_
          refine am_goto (tgt := 59) dX10_cover_52 (by decide) ?_
          exact am_iret dX10_cover_59
      · refine am_bipush (x := -4) dX10_cover_39 (by decide) ?_
        refine am_goto (tgt := 59) dX10_cover_41 (by decide) ?_
        exact am_iret dX10_cover_59
    · refine am_iload 0 dX10_cover_28 rfl ?_
      refine am_goto (tgt := 59) dX10_cover_30 (by decide) ?_
      exact am_iret dX10_cover_59
  · refine am_iconst dX10_cover_9 am_kc_m1 ?_
    exact am_iret dX10_cover_10
theorem CX10_cover (G : am_G) (a0 : Nat) (a1 : Int32) (a2 : Int32) (a3 : Int32) (M : am_M) (h_a0 : am_sh M a0 14) : am_C am_ei G 5 yX10_cover cX10_cover 5 (some FieldType.int) [.ref a0, .int a1, .int a2, .int a3] M (fX10_cover a0 a1 a2 a3 M) :=
  am_meth (by decide) rfl (Nat.le_of_ble_eq_true rfl) (sX10_cover_0 G a0 a1 a2 a3 M h_a0)
def fX10_rest_49 (k20 : (Nat × Int32 × Int32 × am_M) → Option (Int32 × am_M)) (x0 : Nat) (x3 : Int32) (s0 : Int32) (s1 : Int32) (M : am_M) : Option (Int32 × am_M) := k20 (x0, s1 + s0, x3 + 1, M)
def fX10_rest_20 : ((Nat × Int32 × Int32 × am_M) → Option (Int32 × am_M)) → (Nat × Int32 × Int32 × am_M) → Option (Int32 × am_M) := fun k20 q0 => match q0 with
  | (x0, x2, x3, M) => (fX10_cells x0 M).bind fun p18 => if p18.1 ≤ x3 then some (x2, p18.2) else (p18.2.2.2.1 x0 22).bind fun r20 => if x3 < 0 ∨ am_len p18.2 r20 ≤ x3.toNatClampNeg then none else (p18.2.2.2.1 x0 21).bind fun r24 => if x3 < 0 ∨ am_len p18.2 r24 ≤ x3.toNatClampNeg then none else if p18.2.1 r20 (x3.toNatClampNeg) = p18.2.1 r24 (x3.toNatClampNeg) then fX10_rest_49 k20 x0 x3 0 x2 p18.2 else fX10_rest_49 k20 x0 x3 1 x2 p18.2
def fX10_rest (a0 : Nat) (a1 : Int32) (M : am_M) : Option (Int32 × am_M) := (fX10_isIn a1 0 1 M).bind fun p6 => if p6.1 = 0 then some ((-1), p6.2) else (fX10_setCover a0 a1 p6.2).bind fun M9 => am_loop (fX10_rest_20) 100000 (a0, 0, 0, M9)
set_option maxRecDepth 100000 in
set_option maxHeartbeats 4000000 in
theorem sX10_rest_49 (G : am_G) (k20 : (Nat × Int32 × Int32 × am_M) → Option (Int32 × am_M)) (hk20 : ∀ q : (Nat × Int32 × Int32 × am_M), (match q with | (x0, x2, x3, M) => am_sh M x0 14) → match q with | (x0, x2, x3, M) => am_S am_ei G 5 yX10_rest.cls yX10_rest.name cX10_rest 4 (some FieldType.int) 20 [(0, .ref x0), (2, .int x2), (3, .int x3)] [] M (k20 (x0, x2, x3, M))) (x0 : Nat) (x3 : Int32) (s0 : Int32) (s1 : Int32) (M : am_M) (h_x0 : am_sh M x0 14) : am_S am_ei G 5 yX10_rest.cls yX10_rest.name cX10_rest 4 (some FieldType.int) 49 [(0, .ref x0), (3, .int x3)] [.int s0, .int s1] M (fX10_rest_49 k20 x0 x3 s0 s1 M) := by
  show am_S am_ei G 5 yX10_rest.cls yX10_rest.name cX10_rest 4 (some FieldType.int) 49 [(0, .ref x0), (3, .int x3)] [.int s0, .int s1] M (k20 (x0, s1 + s0, x3 + 1, M))
  refine am_iadd dX10_rest_49 ?_
  refine am_istore_n (L' := [(2, .int (s1 + s0)), (0, .ref x0), (3, .int x3)]) dX10_rest_50 rfl (by decide) rfl ?_
  refine am_iinc (L' := [(3, .int (x3 + 1)), (2, .int (s1 + s0)), (0, .ref x0)]) 2 dX10_rest_51 rfl (by rfl) (by decide) rfl ?_
  refine am_goto (tgt := 20) dX10_rest_54 (by decide) ?_
  refine am_sub [2, 1, 0] rfl ?_
  exact hk20 (x0, s1 + s0, x3 + 1, M) h_x0
set_option maxRecDepth 100000 in
set_option maxHeartbeats 4000000 in
theorem sX10_rest_20 (G : am_G) (k20 : (Nat × Int32 × Int32 × am_M) → Option (Int32 × am_M)) (hk20 : ∀ q : (Nat × Int32 × Int32 × am_M), (match q with | (x0, x2, x3, M) => am_sh M x0 14) → match q with | (x0, x2, x3, M) => am_S am_ei G 5 yX10_rest.cls yX10_rest.name cX10_rest 4 (some FieldType.int) 20 [(0, .ref x0), (2, .int x2), (3, .int x3)] [] M (k20 (x0, x2, x3, M))) (x0 : Nat) (x2 : Int32) (x3 : Int32) (M : am_M) (h_x0 : am_sh M x0 14) : am_S am_ei G 5 yX10_rest.cls yX10_rest.name cX10_rest 4 (some FieldType.int) 20 [(0, .ref x0), (2, .int x2), (3, .int x3)] [] M (fX10_rest_20 k20 (x0, x2, x3, M)) := by
  show am_S am_ei G 5 yX10_rest.cls yX10_rest.name cX10_rest 4 (some FieldType.int) 20 [(0, .ref x0), (2, .int x2), (3, .int x3)] [] M ((fX10_cells x0 M).bind fun p18 => if p18.1 ≤ x3 then some (x2, p18.2) else (p18.2.2.2.1 x0 22).bind fun r20 => if x3 < 0 ∨ am_len p18.2 r20 ≤ x3.toNatClampNeg then none else (p18.2.2.2.1 x0 21).bind fun r24 => if x3 < 0 ∨ am_len p18.2 r24 ≤ x3.toNatClampNeg then none else if p18.2.1 r20 (x3.toNatClampNeg) = p18.2.1 r24 (x3.toNatClampNeg) then fX10_rest_49 k20 x0 x3 0 x2 p18.2 else fX10_rest_49 k20 x0 x3 1 x2 p18.2)
  refine am_iload_n 2 dX10_rest_20 rfl rfl ?_
  refine am_aload_n 0 dX10_rest_21 rfl rfl ?_
  refine am_callVi 9 [] (CX10_cells G x0 M h_x0) dX10_rest_22 mb_yX10_cells ⟨ml_RX10_157, im_yX10_cells, se_yX10_cells⟩ rfl h_x0 (by decide) rfl rfl (Nat.le_of_ble_eq_true rfl) (fun v17 M14 q13 w16 l15 => ?_)
  refine am_icmp_ge (tgt := 57) dX10_rest_25 (by decide) (fun c19 => ?_) (fun c19 => ?_)
  · refine am_iload_n 1 dX10_rest_57 rfl rfl ?_
    exact am_iret dX10_rest_58
  · refine am_iload_n 1 dX10_rest_28 rfl rfl ?_
    refine am_aload_n 0 dX10_rest_29 rfl rfl ?_
    refine am_getR 9 dX10_rest_30 fl_RX10_47 (am_sh.mono l15 h_x0) rfl (fun r20 e21 h22 => ?_)
    refine am_iload_n 2 dX10_rest_33 rfl rfl ?_
    refine am_iald dX10_rest_34 h22 (fun b23 => ?_)
    refine am_aload_n 0 dX10_rest_35 rfl rfl ?_
    refine am_getR 9 dX10_rest_36 fl_RX10_44 (am_sh.mono l15 h_x0) rfl (fun r24 e25 h26 => ?_)
    refine am_iload_n 2 dX10_rest_39 rfl rfl ?_
    refine am_iald dX10_rest_40 h26 (fun b27 => ?_)
    refine am_icmp_eq (tgt := 48) dX10_rest_41 (by decide) (fun c28 => ?_) (fun c28 => ?_)
    · refine am_iconst dX10_rest_48 am_kc_0 ?_
      refine am_sub [0, 2] rfl ?_
      exact sX10_rest_49 G k20 hk20 x0 x3 0 x2 M14 (am_sh.mono l15 h_x0)
    · refine am_iconst dX10_rest_44 am_kc_1 ?_
      refine am_goto (tgt := 49) dX10_rest_45 (by decide) ?_
      refine am_sub [0, 2] rfl ?_
      exact sX10_rest_49 G k20 hk20 x0 x3 1 x2 M14 (am_sh.mono l15 h_x0)
set_option maxRecDepth 100000 in
set_option maxHeartbeats 4000000 in
theorem lX10_rest_20 (G : am_G) (n : Nat) (q : (Nat × Int32 × Int32 × am_M)) (hq : match q with | (x0, x2, x3, M) => am_sh M x0 14) : match q with | (x0, x2, x3, M) => am_S am_ei G 5 yX10_rest.cls yX10_rest.name cX10_rest 4 (some FieldType.int) 20 [(0, .ref x0), (2, .int x2), (3, .int x3)] [] M (am_loop (fX10_rest_20) n (x0, x2, x3, M)) := by
  exact am_loop_ok (fun q : (Nat × Int32 × Int32 × am_M) => match q with | (x0, x2, x3, M) => am_sh M x0 14) (fun q X => match q with | (x0, x2, x3, M) => am_S am_ei G 5 yX10_rest.cls yX10_rest.name cX10_rest 4 (some FieldType.int) 20 [(0, .ref x0), (2, .int x2), (3, .int x3)] [] M X) (fun _ => am_none) (fun k20 hk20 q hq => match q, hq with | (x0, x2, x3, M), h_x0 => sX10_rest_20 G k20 hk20 x0 x2 x3 M h_x0) n q hq
set_option maxRecDepth 100000 in
set_option maxHeartbeats 4000000 in
theorem sX10_rest_0 (G : am_G) (a0 : Nat) (a1 : Int32) (M : am_M) (h_a0 : am_sh M a0 14) : am_S am_ei G 5 yX10_rest.cls yX10_rest.name cX10_rest 4 (some FieldType.int) 0 [(0, .ref a0), (1, .int a1)] [] M (fX10_rest a0 a1 M) := by
  show am_S am_ei G 5 yX10_rest.cls yX10_rest.name cX10_rest 4 (some FieldType.int) 0 [(0, .ref a0), (1, .int a1)] [] M ((fX10_isIn a1 0 1 M).bind fun p6 => if p6.1 = 0 then some ((-1), p6.2) else (fX10_setCover a0 a1 p6.2).bind fun M9 => am_loop (fX10_rest_20) 100000 (a0, 0, 0, M9))
  refine am_iload_n 1 dX10_rest_0 rfl rfl ?_
  refine am_iconst dX10_rest_1 am_kc_0 ?_
  refine am_iconst dX10_rest_2 am_kc_1 ?_
  refine am_callSi [.int a1, .int 0, .int 1] (CX10_isIn G a1 0 1 M) dX10_rest_3 mb_yX10_isIn ⟨ml_RX10_66, sm_yX10_isIn⟩ (by decide) rfl rfl (Nat.le_of_ble_eq_true rfl) (fun v5 M2 q1 w4 l3 => ?_)
  refine am_if_ne (tgt := 11) dX10_rest_6 (by decide) (fun c7 => ?_) (fun c7 => ?_)
  · refine am_aload_n 0 dX10_rest_11 rfl rfl ?_
    refine am_iload_n 1 dX10_rest_12 rfl rfl ?_
    refine am_callVv 9 [.int a1] (CX10_setCover G a0 a1 M2 (am_sh.mono l3 h_a0)) dX10_rest_13 mb_yX10_setCover ⟨ml_RX10_204, im_yX10_setCover, se_yX10_setCover⟩ rfl (am_sh.mono l3 h_a0) (by decide) rfl rfl (Nat.le_of_ble_eq_true rfl) (fun M9 q8 w11 l10 => ?_)
    refine am_iconst dX10_rest_16 am_kc_0 ?_
    refine am_istore_n (L' := [(2, .int 0), (0, .ref a0), (1, .int a1)]) dX10_rest_17 rfl (by decide) rfl ?_
    refine am_iconst dX10_rest_18 am_kc_0 ?_
    refine am_istore_n (L' := [(3, .int 0), (2, .int 0), (0, .ref a0), (1, .int a1)]) dX10_rest_19 rfl (by decide) rfl ?_
    refine am_sub [2, 1, 0] rfl ?_
    exact lX10_rest_20 G 100000 (a0, 0, 0, M9) (am_sh.mono l10 (am_sh.mono l3 h_a0))
  · refine am_iconst dX10_rest_9 am_kc_m1 ?_
    exact am_iret dX10_rest_10
theorem CX10_rest (G : am_G) (a0 : Nat) (a1 : Int32) (M : am_M) (h_a0 : am_sh M a0 14) : am_C am_ei G 5 yX10_rest cX10_rest 4 (some FieldType.int) [.ref a0, .int a1] M (fX10_rest a0 a1 M) :=
  am_meth (by decide) rfl (Nat.le_of_ble_eq_true rfl) (sX10_rest_0 G a0 a1 M h_a0)
def fX10_clears_2 : ((Nat × Int32 × Int32 × am_M) → Option am_M) → (Nat × Int32 × Int32 × am_M) → Option am_M := fun k2 q0 => match q0 with
  | (x0, x1, x2, M) => if (13 : Int32) ≤ x2 then some M else (M.2.2.1 x0 25).bind fun r2 => if (13 * x1) + x2 < 0 ∨ am_len M r2 ≤ ((13 * x1) + x2).toNatClampNeg then none else k2 (x0, x1, x2 + 1, am_pI M r2 ((13 * x1) + x2).toNatClampNeg 0)
def fX10_clears (a0 : Nat) (a1 : Int32) (M : am_M) : Option am_M := am_loop (fX10_clears_2) 100000 (a0, a1, 0, M)
set_option maxRecDepth 100000 in
set_option maxHeartbeats 4000000 in
theorem sX10_clears_2 (G : am_G) (k2 : (Nat × Int32 × Int32 × am_M) → Option am_M) (hk2 : ∀ q : (Nat × Int32 × Int32 × am_M), (match q with | (x0, x1, x2, M) => am_sh M x0 14) → match q with | (x0, x1, x2, M) => am_S am_ev G 0 yX10_clears.cls yX10_clears.name cX10_clears 3 none 2 [(0, .ref x0), (1, .int x1), (2, .int x2)] [] M (k2 (x0, x1, x2, M))) (x0 : Nat) (x1 : Int32) (x2 : Int32) (M : am_M) (h_x0 : am_sh M x0 14) : am_S am_ev G 0 yX10_clears.cls yX10_clears.name cX10_clears 3 none 2 [(0, .ref x0), (1, .int x1), (2, .int x2)] [] M (fX10_clears_2 k2 (x0, x1, x2, M)) := by
  show am_S am_ev G 0 yX10_clears.cls yX10_clears.name cX10_clears 3 none 2 [(0, .ref x0), (1, .int x1), (2, .int x2)] [] M (if (13 : Int32) ≤ x2 then some M else (M.2.2.1 x0 25).bind fun r2 => if (13 * x1) + x2 < 0 ∨ am_len M r2 ≤ ((13 * x1) + x2).toNatClampNeg then none else k2 (x0, x1, x2 + 1, am_pI M r2 ((13 * x1) + x2).toNatClampNeg 0))
  refine am_iload_n 2 dX10_clears_2 rfl rfl ?_
  refine am_bipush (x := 13) dX10_clears_3 (by decide) ?_
  refine am_icmp_ge (tgt := 26) dX10_clears_5 (by decide) (fun c1 => ?_) (fun c1 => ?_)
  · exact am_vret dX10_clears_26
  · refine am_aload_n 0 dX10_clears_8 rfl rfl ?_
    refine am_getR 9 dX10_clears_9 fl_RX10_50 h_x0 rfl (fun r2 e3 h4 => ?_)
    refine am_bipush (x := 13) dX10_clears_12 (by decide) ?_
    refine am_iload_n 1 dX10_clears_14 rfl rfl ?_
    refine am_imul dX10_clears_15 ?_
    refine am_iload_n 2 dX10_clears_16 rfl rfl ?_
    refine am_iadd dX10_clears_17 ?_
    refine am_iconst dX10_clears_18 am_kc_0 ?_
    refine am_iast dX10_clears_19 h4 (fun b5 => ?_)
    refine am_iinc (L' := [(2, .int (x2 + 1)), (0, .ref x0), (1, .int x1)]) 2 dX10_clears_20 rfl (by rfl) (by decide) rfl ?_
    refine am_goto (tgt := 2) dX10_clears_23 (by decide) ?_
    refine am_sub [1, 2, 0] rfl ?_
    exact hk2 (x0, x1, x2 + 1, am_pI M r2 ((13 * x1) + x2).toNatClampNeg 0) (am_sh.of h_x0 rfl)
set_option maxRecDepth 100000 in
set_option maxHeartbeats 4000000 in
theorem lX10_clears_2 (G : am_G) (n : Nat) (q : (Nat × Int32 × Int32 × am_M)) (hq : match q with | (x0, x1, x2, M) => am_sh M x0 14) : match q with | (x0, x1, x2, M) => am_S am_ev G 0 yX10_clears.cls yX10_clears.name cX10_clears 3 none 2 [(0, .ref x0), (1, .int x1), (2, .int x2)] [] M (am_loop (fX10_clears_2) n (x0, x1, x2, M)) := by
  exact am_loop_ok (fun q : (Nat × Int32 × Int32 × am_M) => match q with | (x0, x1, x2, M) => am_sh M x0 14) (fun q X => match q with | (x0, x1, x2, M) => am_S am_ev G 0 yX10_clears.cls yX10_clears.name cX10_clears 3 none 2 [(0, .ref x0), (1, .int x1), (2, .int x2)] [] M X) (fun _ => am_none) (fun k2 hk2 q hq => match q, hq with | (x0, x1, x2, M), h_x0 => sX10_clears_2 G k2 hk2 x0 x1 x2 M h_x0) n q hq
set_option maxRecDepth 100000 in
set_option maxHeartbeats 4000000 in
theorem sX10_clears_0 (G : am_G) (a0 : Nat) (a1 : Int32) (M : am_M) (h_a0 : am_sh M a0 14) : am_S am_ev G 0 yX10_clears.cls yX10_clears.name cX10_clears 3 none 0 [(0, .ref a0), (1, .int a1)] [] M (fX10_clears a0 a1 M) := by
  show am_S am_ev G 0 yX10_clears.cls yX10_clears.name cX10_clears 3 none 0 [(0, .ref a0), (1, .int a1)] [] M (am_loop (fX10_clears_2) 100000 (a0, a1, 0, M))
  refine am_iconst dX10_clears_0 am_kc_0 ?_
  refine am_istore_n (L' := [(2, .int 0), (0, .ref a0), (1, .int a1)]) dX10_clears_1 rfl (by decide) rfl ?_
  refine am_sub [1, 2, 0] rfl ?_
  exact lX10_clears_2 G 100000 (a0, a1, 0, M) h_a0
theorem CX10_clears (G : am_G) (a0 : Nat) (a1 : Int32) (M : am_M) (h_a0 : am_sh M a0 14) : am_C am_ev G 0 yX10_clears cX10_clears 3 none [.ref a0, .int a1] M (fX10_clears a0 a1 M) :=
  am_meth (by decide) rfl (Nat.le_of_ble_eq_true rfl) (sX10_clears_0 G a0 a1 M h_a0)
def fX10_comes_125 (k87 : (Nat × Int32 × Int32 × am_M) → Option am_M) (x0 : Nat) (x1 : Int32) (x2 : Int32) (s0 : Int32) (s1 : Int32) (s2 : Nat) (M : am_M) : Option am_M := if s1 < 0 ∨ am_len M s2 ≤ s1.toNatClampNeg then none else k87 (x0, x1, x2 + 1, am_pI M s2 s1.toNatClampNeg s0)
def fX10_comes_87 : ((Nat × Int32 × Int32 × am_M) → Option am_M) → (Nat × Int32 × Int32 × am_M) → Option am_M := fun k87 q0 => match q0 with
  | (x0, x1, x2, M) => if (13 : Int32) ≤ x2 then some M else (M.2.2.1 x0 25).bind fun r3 => (M.2.2.1 x0 26).bind fun r6 => if x2 < 0 ∨ am_len M r6 ≤ x2.toNatClampNeg then none else if (1000000 : Int32) ≤ M.1 r6 (x2.toNatClampNeg) then fX10_comes_125 k87 x0 x1 x2 1000000 ((13 * x1) + x2) r3 M else (M.2.2.1 x0 26).bind fun r12 => if x2 < 0 ∨ am_len M r12 ≤ x2.toNatClampNeg then none else fX10_comes_125 k87 x0 x1 x2 (M.1 r12 (x2.toNatClampNeg)) ((13 * x1) + x2) r3 M
def fX10_comes_72 (k2 : (Nat × Int32 × Int32 × am_M) → Option am_M) (k18 : (Nat × Int32 × Int32 × Int32 × am_M) → Option am_M) (x0 : Nat) (x1 : Int32) (x2 : Int32) (x3 : Int32) (s0 : Int32) (s1 : Int32) (s2 : Nat) (M : am_M) : Option am_M := if s1 < 0 ∨ am_len M s2 ≤ s1.toNatClampNeg then none else k18 (x0, x1, x2, x3 + 1, am_pI M s2 s1.toNatClampNeg s0)
def fX10_comes_18 (k2 : (Nat × Int32 × Int32 × am_M) → Option am_M) : ((Nat × Int32 × Int32 × Int32 × am_M) → Option am_M) → (Nat × Int32 × Int32 × Int32 × am_M) → Option am_M := fun k18 q0 => match q0 with
  | (x0, x1, x2, x3, M) => if x2 < x3 then k2 (x0, x1, x2 + 1, M) else (M.2.2.1 x0 25).bind fun r21 => if (13 * x1) + x3 < 0 ∨ am_len M r21 ≤ ((13 * x1) + x3).toNatClampNeg then none else (M.2.2.1 x0 27).bind fun r25 => if x2 - x3 < 0 ∨ am_len M r25 ≤ (x2 - x3).toNatClampNeg then none else (M.2.2.1 x0 26).bind fun r29 => (M.2.2.1 x0 26).bind fun r32 => if x2 < 0 ∨ am_len M r32 ≤ x2.toNatClampNeg then none else if M.1 r32 (x2.toNatClampNeg) ≤ (M.1 r21 (((13 * x1) + x3).toNatClampNeg)) + (M.1 r25 ((x2 - x3).toNatClampNeg)) then (M.2.2.1 x0 26).bind fun r37 => if x2 < 0 ∨ am_len M r37 ≤ x2.toNatClampNeg then none else fX10_comes_72 k2 k18 x0 x1 x2 x3 (M.1 r37 (x2.toNatClampNeg)) x2 r29 M else fX10_comes_72 k2 k18 x0 x1 x2 x3 ((M.1 r21 (((13 * x1) + x3).toNatClampNeg)) + (M.1 r25 ((x2 - x3).toNatClampNeg))) x2 r29 M
def fX10_comes_2 : ((Nat × Int32 × Int32 × am_M) → Option am_M) → (Nat × Int32 × Int32 × am_M) → Option am_M := fun k2 q0 => match q0 with
  | (x0, x1, x2, M) => if (13 : Int32) ≤ x2 then am_loop (fX10_comes_87) 100000 (x0, x1, 0, M) else (M.2.2.1 x0 26).bind fun r16 => if x2 < 0 ∨ am_len M r16 ≤ x2.toNatClampNeg then none else am_loop (fX10_comes_18 k2) 100000 (x0, x1, x2, 0, am_pI M r16 x2.toNatClampNeg 1000000)
def fX10_comes (a0 : Nat) (a1 : Int32) (M : am_M) : Option am_M := am_loop (fX10_comes_2) 100000 (a0, a1, 0, M)
set_option maxRecDepth 100000 in
set_option maxHeartbeats 4000000 in
theorem sX10_comes_125 (G : am_G) (k87 : (Nat × Int32 × Int32 × am_M) → Option am_M) (hk87 : ∀ q : (Nat × Int32 × Int32 × am_M), (match q with | (x0, x1, x2, M) => am_sh M x0 14) → match q with | (x0, x1, x2, M) => am_S am_ev G 0 yX10_comes.cls yX10_comes.name cX10_comes 5 none 87 [(0, .ref x0), (1, .int x1), (2, .int x2)] [] M (k87 (x0, x1, x2, M))) (x0 : Nat) (x1 : Int32) (x2 : Int32) (s0 : Int32) (s1 : Int32) (s2 : Nat) (M : am_M) (h_x0 : am_sh M x0 14) (h_s2 : am_sh M s2 0) : am_S am_ev G 0 yX10_comes.cls yX10_comes.name cX10_comes 5 none 125 [(0, .ref x0), (1, .int x1), (2, .int x2)] [.int s0, .int s1, .ref s2] M (fX10_comes_125 k87 x0 x1 x2 s0 s1 s2 M) := by
  show am_S am_ev G 0 yX10_comes.cls yX10_comes.name cX10_comes 5 none 125 [(0, .ref x0), (1, .int x1), (2, .int x2)] [.int s0, .int s1, .ref s2] M (if s1 < 0 ∨ am_len M s2 ≤ s1.toNatClampNeg then none else k87 (x0, x1, x2 + 1, am_pI M s2 s1.toNatClampNeg s0))
  refine am_iast dX10_comes_125 h_s2 (fun b11 => ?_)
  refine am_iinc (L' := [(2, .int (x2 + 1)), (0, .ref x0), (1, .int x1)]) 2 dX10_comes_126 rfl (by rfl) (by decide) rfl ?_
  refine am_goto (tgt := 87) dX10_comes_129 (by decide) ?_
  refine am_sub [1, 2, 0] rfl ?_
  exact hk87 (x0, x1, x2 + 1, am_pI M s2 s1.toNatClampNeg s0) (am_sh.of h_x0 rfl)
set_option maxRecDepth 100000 in
set_option maxHeartbeats 4000000 in
theorem sX10_comes_87 (G : am_G) (k87 : (Nat × Int32 × Int32 × am_M) → Option am_M) (hk87 : ∀ q : (Nat × Int32 × Int32 × am_M), (match q with | (x0, x1, x2, M) => am_sh M x0 14) → match q with | (x0, x1, x2, M) => am_S am_ev G 0 yX10_comes.cls yX10_comes.name cX10_comes 5 none 87 [(0, .ref x0), (1, .int x1), (2, .int x2)] [] M (k87 (x0, x1, x2, M))) (x0 : Nat) (x1 : Int32) (x2 : Int32) (M : am_M) (h_x0 : am_sh M x0 14) : am_S am_ev G 0 yX10_comes.cls yX10_comes.name cX10_comes 5 none 87 [(0, .ref x0), (1, .int x1), (2, .int x2)] [] M (fX10_comes_87 k87 (x0, x1, x2, M)) := by
  show am_S am_ev G 0 yX10_comes.cls yX10_comes.name cX10_comes 5 none 87 [(0, .ref x0), (1, .int x1), (2, .int x2)] [] M (if (13 : Int32) ≤ x2 then some M else (M.2.2.1 x0 25).bind fun r3 => (M.2.2.1 x0 26).bind fun r6 => if x2 < 0 ∨ am_len M r6 ≤ x2.toNatClampNeg then none else if (1000000 : Int32) ≤ M.1 r6 (x2.toNatClampNeg) then fX10_comes_125 k87 x0 x1 x2 1000000 ((13 * x1) + x2) r3 M else (M.2.2.1 x0 26).bind fun r12 => if x2 < 0 ∨ am_len M r12 ≤ x2.toNatClampNeg then none else fX10_comes_125 k87 x0 x1 x2 (M.1 r12 (x2.toNatClampNeg)) ((13 * x1) + x2) r3 M)
  refine am_iload_n 2 dX10_comes_87 rfl rfl ?_
  refine am_bipush (x := 13) dX10_comes_88 (by decide) ?_
  refine am_icmp_ge (tgt := 132) dX10_comes_90 (by decide) (fun c2 => ?_) (fun c2 => ?_)
  · exact am_vret dX10_comes_132
  · refine am_aload_n 0 dX10_comes_93 rfl rfl ?_
    refine am_getR 9 dX10_comes_94 fl_RX10_50 h_x0 rfl (fun r3 e4 h5 => ?_)
    refine am_bipush (x := 13) dX10_comes_97 (by decide) ?_
    refine am_iload_n 1 dX10_comes_99 rfl rfl ?_
    refine am_imul dX10_comes_100 ?_
    refine am_iload_n 2 dX10_comes_101 rfl rfl ?_
    refine am_iadd dX10_comes_102 ?_
    refine am_aload_n 0 dX10_comes_103 rfl rfl ?_
    refine am_getR 9 dX10_comes_104 fl_RX10_53 h_x0 rfl (fun r6 e7 h8 => ?_)
    refine am_iload_n 2 dX10_comes_107 rfl rfl ?_
    refine am_iald dX10_comes_108 h8 (fun b9 => ?_)
    refine am_ldc dX10_comes_109 kc_RX10_210 ?_
    refine am_icmp_ge (tgt := 123) dX10_comes_111 (by decide) (fun c10 => ?_) (fun c10 => ?_)
    · refine am_ldc dX10_comes_123 kc_RX10_210 ?_
      exact sX10_comes_125 G k87 hk87 x0 x1 x2 1000000 ((13 * x1) + x2) r3 M h_x0 h5
    · refine am_aload_n 0 dX10_comes_114 rfl rfl ?_
      refine am_getR 9 dX10_comes_115 fl_RX10_53 h_x0 rfl (fun r12 e13 h14 => ?_)
      refine am_iload_n 2 dX10_comes_118 rfl rfl ?_
      refine am_iald dX10_comes_119 h14 (fun b15 => ?_)
      refine am_goto (tgt := 125) dX10_comes_120 (by decide) ?_
      exact sX10_comes_125 G k87 hk87 x0 x1 x2 (M.1 r12 (x2.toNatClampNeg)) ((13 * x1) + x2) r3 M h_x0 h5
set_option maxRecDepth 100000 in
set_option maxHeartbeats 4000000 in
theorem lX10_comes_87 (G : am_G) (n : Nat) (q : (Nat × Int32 × Int32 × am_M)) (hq : match q with | (x0, x1, x2, M) => am_sh M x0 14) : match q with | (x0, x1, x2, M) => am_S am_ev G 0 yX10_comes.cls yX10_comes.name cX10_comes 5 none 87 [(0, .ref x0), (1, .int x1), (2, .int x2)] [] M (am_loop (fX10_comes_87) n (x0, x1, x2, M)) := by
  exact am_loop_ok (fun q : (Nat × Int32 × Int32 × am_M) => match q with | (x0, x1, x2, M) => am_sh M x0 14) (fun q X => match q with | (x0, x1, x2, M) => am_S am_ev G 0 yX10_comes.cls yX10_comes.name cX10_comes 5 none 87 [(0, .ref x0), (1, .int x1), (2, .int x2)] [] M X) (fun _ => am_none) (fun k87 hk87 q hq => match q, hq with | (x0, x1, x2, M), h_x0 => sX10_comes_87 G k87 hk87 x0 x1 x2 M h_x0) n q hq
set_option maxRecDepth 100000 in
set_option maxHeartbeats 4000000 in
theorem sX10_comes_72 (G : am_G) (k2 : (Nat × Int32 × Int32 × am_M) → Option am_M) (hk2 : ∀ q : (Nat × Int32 × Int32 × am_M), (match q with | (x0, x1, x2, M) => am_sh M x0 14) → match q with | (x0, x1, x2, M) => am_S am_ev G 0 yX10_comes.cls yX10_comes.name cX10_comes 5 none 2 [(0, .ref x0), (1, .int x1), (2, .int x2)] [] M (k2 (x0, x1, x2, M))) (k18 : (Nat × Int32 × Int32 × Int32 × am_M) → Option am_M) (hk18 : ∀ q : (Nat × Int32 × Int32 × Int32 × am_M), (match q with | (x0, x1, x2, x3, M) => am_sh M x0 14) → match q with | (x0, x1, x2, x3, M) => am_S am_ev G 0 yX10_comes.cls yX10_comes.name cX10_comes 5 none 18 [(0, .ref x0), (1, .int x1), (2, .int x2), (3, .int x3)] [] M (k18 (x0, x1, x2, x3, M))) (x0 : Nat) (x1 : Int32) (x2 : Int32) (x3 : Int32) (s0 : Int32) (s1 : Int32) (s2 : Nat) (M : am_M) (h_x0 : am_sh M x0 14) (h_s2 : am_sh M s2 0) : am_S am_ev G 0 yX10_comes.cls yX10_comes.name cX10_comes 5 none 72 [(0, .ref x0), (1, .int x1), (2, .int x2), (3, .int x3)] [.int s0, .int s1, .ref s2] M (fX10_comes_72 k2 k18 x0 x1 x2 x3 s0 s1 s2 M) := by
  show am_S am_ev G 0 yX10_comes.cls yX10_comes.name cX10_comes 5 none 72 [(0, .ref x0), (1, .int x1), (2, .int x2), (3, .int x3)] [.int s0, .int s1, .ref s2] M (if s1 < 0 ∨ am_len M s2 ≤ s1.toNatClampNeg then none else k18 (x0, x1, x2, x3 + 1, am_pI M s2 s1.toNatClampNeg s0))
  refine am_iast dX10_comes_72 h_s2 (fun b41 => ?_)
  refine am_iinc (L' := [(3, .int (x3 + 1)), (0, .ref x0), (1, .int x1), (2, .int x2)]) 3 dX10_comes_73 rfl (by rfl) (by decide) rfl ?_
  refine am_goto (tgt := 18) dX10_comes_76 (by decide) ?_
  refine am_sub [1, 2, 3, 0] rfl ?_
  exact hk18 (x0, x1, x2, x3 + 1, am_pI M s2 s1.toNatClampNeg s0) (am_sh.of h_x0 rfl)
set_option maxRecDepth 100000 in
set_option maxHeartbeats 4000000 in
theorem sX10_comes_18 (G : am_G) (k2 : (Nat × Int32 × Int32 × am_M) → Option am_M) (hk2 : ∀ q : (Nat × Int32 × Int32 × am_M), (match q with | (x0, x1, x2, M) => am_sh M x0 14) → match q with | (x0, x1, x2, M) => am_S am_ev G 0 yX10_comes.cls yX10_comes.name cX10_comes 5 none 2 [(0, .ref x0), (1, .int x1), (2, .int x2)] [] M (k2 (x0, x1, x2, M))) (k18 : (Nat × Int32 × Int32 × Int32 × am_M) → Option am_M) (hk18 : ∀ q : (Nat × Int32 × Int32 × Int32 × am_M), (match q with | (x0, x1, x2, x3, M) => am_sh M x0 14) → match q with | (x0, x1, x2, x3, M) => am_S am_ev G 0 yX10_comes.cls yX10_comes.name cX10_comes 5 none 18 [(0, .ref x0), (1, .int x1), (2, .int x2), (3, .int x3)] [] M (k18 (x0, x1, x2, x3, M))) (x0 : Nat) (x1 : Int32) (x2 : Int32) (x3 : Int32) (M : am_M) (h_x0 : am_sh M x0 14) : am_S am_ev G 0 yX10_comes.cls yX10_comes.name cX10_comes 5 none 18 [(0, .ref x0), (1, .int x1), (2, .int x2), (3, .int x3)] [] M (fX10_comes_18 k2 k18 (x0, x1, x2, x3, M)) := by
  show am_S am_ev G 0 yX10_comes.cls yX10_comes.name cX10_comes 5 none 18 [(0, .ref x0), (1, .int x1), (2, .int x2), (3, .int x3)] [] M (if x2 < x3 then k2 (x0, x1, x2 + 1, M) else (M.2.2.1 x0 25).bind fun r21 => if (13 * x1) + x3 < 0 ∨ am_len M r21 ≤ ((13 * x1) + x3).toNatClampNeg then none else (M.2.2.1 x0 27).bind fun r25 => if x2 - x3 < 0 ∨ am_len M r25 ≤ (x2 - x3).toNatClampNeg then none else (M.2.2.1 x0 26).bind fun r29 => (M.2.2.1 x0 26).bind fun r32 => if x2 < 0 ∨ am_len M r32 ≤ x2.toNatClampNeg then none else if M.1 r32 (x2.toNatClampNeg) ≤ (M.1 r21 (((13 * x1) + x3).toNatClampNeg)) + (M.1 r25 ((x2 - x3).toNatClampNeg)) then (M.2.2.1 x0 26).bind fun r37 => if x2 < 0 ∨ am_len M r37 ≤ x2.toNatClampNeg then none else fX10_comes_72 k2 k18 x0 x1 x2 x3 (M.1 r37 (x2.toNatClampNeg)) x2 r29 M else fX10_comes_72 k2 k18 x0 x1 x2 x3 ((M.1 r21 (((13 * x1) + x3).toNatClampNeg)) + (M.1 r25 ((x2 - x3).toNatClampNeg))) x2 r29 M)
  refine am_iload_n 3 dX10_comes_18 rfl rfl ?_
  refine am_iload_n 2 dX10_comes_19 rfl rfl ?_
  refine am_icmp_gt (tgt := 79) dX10_comes_20 (by decide) (fun c20 => ?_) (fun c20 => ?_)
  · refine am_iinc (L' := [(2, .int (x2 + 1)), (0, .ref x0), (1, .int x1), (3, .int x3)]) 2 dX10_comes_79 rfl (by rfl) (by decide) rfl ?_
    refine am_goto (tgt := 2) dX10_comes_82 (by decide) ?_
    refine am_sub [1, 2, 0] rfl ?_
    exact hk2 (x0, x1, x2 + 1, M) h_x0
  · refine am_aload_n 0 dX10_comes_23 rfl rfl ?_
    refine am_getR 9 dX10_comes_24 fl_RX10_50 h_x0 rfl (fun r21 e22 h23 => ?_)
    refine am_bipush (x := 13) dX10_comes_27 (by decide) ?_
    refine am_iload_n 1 dX10_comes_29 rfl rfl ?_
    refine am_imul dX10_comes_30 ?_
    refine am_iload_n 3 dX10_comes_31 rfl rfl ?_
    refine am_iadd dX10_comes_32 ?_
    refine am_iald dX10_comes_33 h23 (fun b24 => ?_)
    refine am_aload_n 0 dX10_comes_34 rfl rfl ?_
    refine am_getR 9 dX10_comes_35 fl_RX10_56 h_x0 rfl (fun r25 e26 h27 => ?_)
    refine am_iload_n 2 dX10_comes_38 rfl rfl ?_
    refine am_iload_n 3 dX10_comes_39 rfl rfl ?_
    refine am_isub dX10_comes_40 ?_
    refine am_iald dX10_comes_41 h27 (fun b28 => ?_)
    refine am_iadd dX10_comes_42 ?_
    refine am_istore (L' := [(4, .int ((M.1 r21 (((13 * x1) + x3).toNatClampNeg)) + (M.1 r25 ((x2 - x3).toNatClampNeg)))), (0, .ref x0), (1, .int x1), (2, .int x2), (3, .int x3)]) dX10_comes_43 (by decide) rfl ?_
    refine am_aload_n 1 dX10_comes_45 rfl rfl ?_
    refine am_getR 9 dX10_comes_46 fl_RX10_53 h_x0 rfl (fun r29 e30 h31 => ?_)
    refine am_iload_n 3 dX10_comes_49 rfl rfl ?_
    refine am_iload 0 dX10_comes_50 rfl ?_
    refine am_aload_n 1 dX10_comes_52 rfl rfl ?_
    refine am_getR 9 dX10_comes_53 fl_RX10_53 h_x0 rfl (fun r32 e33 h34 => ?_)
    refine am_iload_n 3 dX10_comes_56 rfl rfl ?_
    refine am_iald dX10_comes_57 h34 (fun b35 => ?_)
    refine am_icmp_ge (tgt := 66) dX10_comes_58 (by decide) (fun c36 => ?_) (fun c36 => ?_)
    · refine am_aload_n 1 dX10_comes_66 rfl rfl ?_
      refine am_getR 9 dX10_comes_67 fl_RX10_53 h_x0 rfl (fun r37 e38 h39 => ?_)
      refine am_iload_n 3 dX10_comes_70 rfl rfl ?_
      refine am_iald dX10_comes_71 h39 (fun b40 => ?_)
      refine am_sub [1, 2, 3, 4] rfl ?_
      exact sX10_comes_72 G k2 hk2 k18 hk18 x0 x1 x2 x3 (M.1 r37 (x2.toNatClampNeg)) x2 r29 M h_x0 h31
    · refine am_iload 0 dX10_comes_61 rfl ?_
      refine am_goto (tgt := 72) dX10_comes_63 (by decide) ?_
      refine am_sub [1, 2, 3, 4] rfl ?_
      exact sX10_comes_72 G k2 hk2 k18 hk18 x0 x1 x2 x3 ((M.1 r21 (((13 * x1) + x3).toNatClampNeg)) + (M.1 r25 ((x2 - x3).toNatClampNeg))) x2 r29 M h_x0 h31
set_option maxRecDepth 100000 in
set_option maxHeartbeats 4000000 in
theorem lX10_comes_18 (G : am_G) (k2 : (Nat × Int32 × Int32 × am_M) → Option am_M) (hk2 : ∀ q : (Nat × Int32 × Int32 × am_M), (match q with | (x0, x1, x2, M) => am_sh M x0 14) → match q with | (x0, x1, x2, M) => am_S am_ev G 0 yX10_comes.cls yX10_comes.name cX10_comes 5 none 2 [(0, .ref x0), (1, .int x1), (2, .int x2)] [] M (k2 (x0, x1, x2, M))) (n : Nat) (q : (Nat × Int32 × Int32 × Int32 × am_M)) (hq : match q with | (x0, x1, x2, x3, M) => am_sh M x0 14) : match q with | (x0, x1, x2, x3, M) => am_S am_ev G 0 yX10_comes.cls yX10_comes.name cX10_comes 5 none 18 [(0, .ref x0), (1, .int x1), (2, .int x2), (3, .int x3)] [] M (am_loop (fX10_comes_18 k2) n (x0, x1, x2, x3, M)) := by
  exact am_loop_ok (fun q : (Nat × Int32 × Int32 × Int32 × am_M) => match q with | (x0, x1, x2, x3, M) => am_sh M x0 14) (fun q X => match q with | (x0, x1, x2, x3, M) => am_S am_ev G 0 yX10_comes.cls yX10_comes.name cX10_comes 5 none 18 [(0, .ref x0), (1, .int x1), (2, .int x2), (3, .int x3)] [] M X) (fun _ => am_none) (fun k18 hk18 q hq => match q, hq with | (x0, x1, x2, x3, M), h_x0 => sX10_comes_18 G k2 hk2 k18 hk18 x0 x1 x2 x3 M h_x0) n q hq
set_option maxRecDepth 100000 in
set_option maxHeartbeats 4000000 in
theorem sX10_comes_2 (G : am_G) (k2 : (Nat × Int32 × Int32 × am_M) → Option am_M) (hk2 : ∀ q : (Nat × Int32 × Int32 × am_M), (match q with | (x0, x1, x2, M) => am_sh M x0 14) → match q with | (x0, x1, x2, M) => am_S am_ev G 0 yX10_comes.cls yX10_comes.name cX10_comes 5 none 2 [(0, .ref x0), (1, .int x1), (2, .int x2)] [] M (k2 (x0, x1, x2, M))) (x0 : Nat) (x1 : Int32) (x2 : Int32) (M : am_M) (h_x0 : am_sh M x0 14) : am_S am_ev G 0 yX10_comes.cls yX10_comes.name cX10_comes 5 none 2 [(0, .ref x0), (1, .int x1), (2, .int x2)] [] M (fX10_comes_2 k2 (x0, x1, x2, M)) := by
  show am_S am_ev G 0 yX10_comes.cls yX10_comes.name cX10_comes 5 none 2 [(0, .ref x0), (1, .int x1), (2, .int x2)] [] M (if (13 : Int32) ≤ x2 then am_loop (fX10_comes_87) 100000 (x0, x1, 0, M) else (M.2.2.1 x0 26).bind fun r16 => if x2 < 0 ∨ am_len M r16 ≤ x2.toNatClampNeg then none else am_loop (fX10_comes_18 k2) 100000 (x0, x1, x2, 0, am_pI M r16 x2.toNatClampNeg 1000000))
  refine am_iload_n 2 dX10_comes_2 rfl rfl ?_
  refine am_bipush (x := 13) dX10_comes_3 (by decide) ?_
  refine am_icmp_ge (tgt := 85) dX10_comes_5 (by decide) (fun c1 => ?_) (fun c1 => ?_)
  · refine am_iconst dX10_comes_85 am_kc_0 ?_
    refine am_istore_n (L' := [(2, .int 0), (0, .ref x0), (1, .int x1)]) dX10_comes_86 rfl (by decide) rfl ?_
    refine am_sub [1, 2, 0] rfl ?_
    exact lX10_comes_87 G 100000 (x0, x1, 0, M) h_x0
  · refine am_aload_n 0 dX10_comes_8 rfl rfl ?_
    refine am_getR 9 dX10_comes_9 fl_RX10_53 h_x0 rfl (fun r16 e17 h18 => ?_)
    refine am_iload_n 2 dX10_comes_12 rfl rfl ?_
    refine am_ldc dX10_comes_13 kc_RX10_210 ?_
    refine am_iast dX10_comes_15 h18 (fun b19 => ?_)
    refine am_iconst dX10_comes_16 am_kc_0 ?_
    refine am_istore_n (L' := [(3, .int 0), (0, .ref x0), (1, .int x1), (2, .int x2)]) dX10_comes_17 rfl (by decide) rfl ?_
    refine am_sub [1, 2, 3, 0] rfl ?_
    exact lX10_comes_18 G k2 hk2 100000 (x0, x1, x2, 0, am_pI M r16 x2.toNatClampNeg 1000000) (am_sh.of h_x0 rfl)
set_option maxRecDepth 100000 in
set_option maxHeartbeats 4000000 in
theorem lX10_comes_2 (G : am_G) (n : Nat) (q : (Nat × Int32 × Int32 × am_M)) (hq : match q with | (x0, x1, x2, M) => am_sh M x0 14) : match q with | (x0, x1, x2, M) => am_S am_ev G 0 yX10_comes.cls yX10_comes.name cX10_comes 5 none 2 [(0, .ref x0), (1, .int x1), (2, .int x2)] [] M (am_loop (fX10_comes_2) n (x0, x1, x2, M)) := by
  exact am_loop_ok (fun q : (Nat × Int32 × Int32 × am_M) => match q with | (x0, x1, x2, M) => am_sh M x0 14) (fun q X => match q with | (x0, x1, x2, M) => am_S am_ev G 0 yX10_comes.cls yX10_comes.name cX10_comes 5 none 2 [(0, .ref x0), (1, .int x1), (2, .int x2)] [] M X) (fun _ => am_none) (fun k2 hk2 q hq => match q, hq with | (x0, x1, x2, M), h_x0 => sX10_comes_2 G k2 hk2 x0 x1 x2 M h_x0) n q hq
set_option maxRecDepth 100000 in
set_option maxHeartbeats 4000000 in
theorem sX10_comes_0 (G : am_G) (a0 : Nat) (a1 : Int32) (M : am_M) (h_a0 : am_sh M a0 14) : am_S am_ev G 0 yX10_comes.cls yX10_comes.name cX10_comes 5 none 0 [(0, .ref a0), (1, .int a1)] [] M (fX10_comes a0 a1 M) := by
  show am_S am_ev G 0 yX10_comes.cls yX10_comes.name cX10_comes 5 none 0 [(0, .ref a0), (1, .int a1)] [] M (am_loop (fX10_comes_2) 100000 (a0, a1, 0, M))
  refine am_iconst dX10_comes_0 am_kc_0 ?_
  refine am_istore_n (L' := [(2, .int 0), (0, .ref a0), (1, .int a1)]) dX10_comes_1 rfl (by decide) rfl ?_
  refine am_sub [1, 2, 0] rfl ?_
  exact lX10_comes_2 G 100000 (a0, a1, 0, M) h_a0
theorem CX10_comes (G : am_G) (a0 : Nat) (a1 : Int32) (M : am_M) (h_a0 : am_sh M a0 14) : am_C am_ev G 0 yX10_comes cX10_comes 5 none [.ref a0, .int a1] M (fX10_comes a0 a1 M) :=
  am_meth (by decide) rfl (Nat.le_of_ble_eq_true rfl) (sX10_comes_0 G a0 a1 M h_a0)
def fX10_closes_67 (k2 : (Nat × Int32 × Int32 × am_M) → Option am_M) (x0 : Nat) (x1 : Int32) (x2 : Int32) (s0 : Int32) (s1 : Int32) (s2 : Nat) (M : am_M) : Option am_M := if s1 < 0 ∨ am_len M s2 ≤ s1.toNatClampNeg then none else k2 (x0, x1, x2 + 1, am_pI M s2 s1.toNatClampNeg s0)
def fX10_closes_46 (k2 : (Nat × Int32 × Int32 × am_M) → Option am_M) (x0 : Nat) (x1 : Int32) (x2 : Int32) (x3 : Int32) (s0 : Int32) (M : am_M) : Option am_M := (M.2.2.1 x0 27).bind fun r7 => if s0 = 0 then fX10_closes_67 k2 x0 x1 x2 x3 x2 r7 M else (fX10_sizeOf x0 x1 M).bind fun p17 => fX10_closes_67 k2 x0 x1 x2 p17.1 x2 r7 p17.2
def fX10_closes_45 (k2 : (Nat × Int32 × Int32 × am_M) → Option am_M) (x0 : Nat) (x1 : Int32) (x2 : Int32) (x3 : Int32) (M : am_M) : Option am_M := fX10_closes_46 k2 x0 x1 x2 x3 0 M
def fX10_closes_2 : ((Nat × Int32 × Int32 × am_M) → Option am_M) → (Nat × Int32 × Int32 × am_M) → Option am_M := fun k2 q0 => match q0 with
  | (x0, x1, x2, M) => if (13 : Int32) ≤ x2 then some M else (M.2.2.1 x0 25).bind fun r2 => if (13 * x1) + x2 < 0 ∨ am_len M r2 ≤ ((13 * x1) + x2).toNatClampNeg then none else if x1 < M.1 x0 2 then fX10_closes_45 k2 x0 x1 x2 (M.1 r2 (((13 * x1) + x2).toNatClampNeg)) M else if x2 ≤ 0 then fX10_closes_45 k2 x0 x1 x2 (M.1 r2 (((13 * x1) + x2).toNatClampNeg)) M else (fX10_sizeOf x0 x1 M).bind fun p24 => if M.1 r2 (((13 * x1) + x2).toNatClampNeg) ≤ p24.1 then fX10_closes_45 k2 x0 x1 x2 (M.1 r2 (((13 * x1) + x2).toNatClampNeg)) p24.2 else fX10_closes_46 k2 x0 x1 x2 (M.1 r2 (((13 * x1) + x2).toNatClampNeg)) 1 p24.2
def fX10_closes (a0 : Nat) (a1 : Int32) (M : am_M) : Option am_M := am_loop (fX10_closes_2) 100000 (a0, a1, 0, M)
set_option maxRecDepth 100000 in
set_option maxHeartbeats 4000000 in
theorem sX10_closes_67 (G : am_G) (k2 : (Nat × Int32 × Int32 × am_M) → Option am_M) (hk2 : ∀ q : (Nat × Int32 × Int32 × am_M), (match q with | (x0, x1, x2, M) => am_sh M x0 14) → match q with | (x0, x1, x2, M) => am_S am_ev G 1 yX10_closes.cls yX10_closes.name cX10_closes 5 none 2 [(0, .ref x0), (1, .int x1), (2, .int x2)] [] M (k2 (x0, x1, x2, M))) (x0 : Nat) (x1 : Int32) (x2 : Int32) (s0 : Int32) (s1 : Int32) (s2 : Nat) (M : am_M) (h_x0 : am_sh M x0 14) (h_s2 : am_sh M s2 0) : am_S am_ev G 1 yX10_closes.cls yX10_closes.name cX10_closes 5 none 67 [(0, .ref x0), (1, .int x1), (2, .int x2)] [.int s0, .int s1, .ref s2] M (fX10_closes_67 k2 x0 x1 x2 s0 s1 s2 M) := by
  show am_S am_ev G 1 yX10_closes.cls yX10_closes.name cX10_closes 5 none 67 [(0, .ref x0), (1, .int x1), (2, .int x2)] [.int s0, .int s1, .ref s2] M (if s1 < 0 ∨ am_len M s2 ≤ s1.toNatClampNeg then none else k2 (x0, x1, x2 + 1, am_pI M s2 s1.toNatClampNeg s0))
  refine am_iast dX10_closes_67 h_s2 (fun b11 => ?_)
  refine am_iinc (L' := [(2, .int (x2 + 1)), (0, .ref x0), (1, .int x1)]) 2 dX10_closes_68 rfl (by rfl) (by decide) rfl ?_
  refine am_goto (tgt := 2) dX10_closes_71 (by decide) ?_
  refine am_sub [1, 2, 0] rfl ?_
  exact hk2 (x0, x1, x2 + 1, am_pI M s2 s1.toNatClampNeg s0) (am_sh.of h_x0 rfl)
set_option maxRecDepth 100000 in
set_option maxHeartbeats 4000000 in
theorem sX10_closes_46 (G : am_G) (k2 : (Nat × Int32 × Int32 × am_M) → Option am_M) (hk2 : ∀ q : (Nat × Int32 × Int32 × am_M), (match q with | (x0, x1, x2, M) => am_sh M x0 14) → match q with | (x0, x1, x2, M) => am_S am_ev G 1 yX10_closes.cls yX10_closes.name cX10_closes 5 none 2 [(0, .ref x0), (1, .int x1), (2, .int x2)] [] M (k2 (x0, x1, x2, M))) (x0 : Nat) (x1 : Int32) (x2 : Int32) (x3 : Int32) (s0 : Int32) (M : am_M) (h_x0 : am_sh M x0 14) : am_S am_ev G 1 yX10_closes.cls yX10_closes.name cX10_closes 5 none 46 [(0, .ref x0), (1, .int x1), (2, .int x2), (3, .int x3)] [.int s0] M (fX10_closes_46 k2 x0 x1 x2 x3 s0 M) := by
  show am_S am_ev G 1 yX10_closes.cls yX10_closes.name cX10_closes 5 none 46 [(0, .ref x0), (1, .int x1), (2, .int x2), (3, .int x3)] [.int s0] M ((M.2.2.1 x0 27).bind fun r7 => if s0 = 0 then fX10_closes_67 k2 x0 x1 x2 x3 x2 r7 M else (fX10_sizeOf x0 x1 M).bind fun p17 => fX10_closes_67 k2 x0 x1 x2 p17.1 x2 r7 p17.2)
  refine am_istore (L' := [(4, .int s0), (0, .ref x0), (1, .int x1), (2, .int x2), (3, .int x3)]) dX10_closes_46 (by decide) rfl ?_
  refine am_aload_n 1 dX10_closes_48 rfl rfl ?_
  refine am_getR 9 dX10_closes_49 fl_RX10_56 h_x0 rfl (fun r7 e8 h9 => ?_)
  refine am_iload_n 3 dX10_closes_52 rfl rfl ?_
  refine am_iload 0 dX10_closes_53 rfl ?_
  refine am_if_eq (tgt := 66) dX10_closes_55 (by decide) (fun c10 => ?_) (fun c10 => ?_)
  · refine am_iload_n 4 dX10_closes_66 rfl rfl ?_
    refine am_sub [1, 2, 3] rfl ?_
    exact sX10_closes_67 G k2 hk2 x0 x1 x2 x3 x2 r7 M h_x0 h9
  · refine am_aload_n 1 dX10_closes_58 rfl rfl ?_
    refine am_iload_n 2 dX10_closes_59 rfl rfl ?_
    refine am_callVi 9 [.int x1] (CX10_sizeOf G x0 x1 M h_x0) dX10_closes_60 mb_yX10_sizeOf ⟨ml_RX10_170, im_yX10_sizeOf, se_yX10_sizeOf⟩ rfl h_x0 (by decide) rfl rfl (Nat.le_of_ble_eq_true rfl) (fun v16 M13 q12 w15 l14 => ?_)
    refine am_goto (tgt := 67) dX10_closes_63 (by decide) ?_
    refine am_sub [1, 2, 3] rfl ?_
    exact sX10_closes_67 G k2 hk2 x0 x1 x2 v16 x2 r7 M13 (am_sh.mono l14 h_x0) (am_sh.mono l14 h9)
set_option maxRecDepth 100000 in
set_option maxHeartbeats 4000000 in
theorem sX10_closes_45 (G : am_G) (k2 : (Nat × Int32 × Int32 × am_M) → Option am_M) (hk2 : ∀ q : (Nat × Int32 × Int32 × am_M), (match q with | (x0, x1, x2, M) => am_sh M x0 14) → match q with | (x0, x1, x2, M) => am_S am_ev G 1 yX10_closes.cls yX10_closes.name cX10_closes 5 none 2 [(0, .ref x0), (1, .int x1), (2, .int x2)] [] M (k2 (x0, x1, x2, M))) (x0 : Nat) (x1 : Int32) (x2 : Int32) (x3 : Int32) (M : am_M) (h_x0 : am_sh M x0 14) : am_S am_ev G 1 yX10_closes.cls yX10_closes.name cX10_closes 5 none 45 [(0, .ref x0), (1, .int x1), (2, .int x2), (3, .int x3)] [] M (fX10_closes_45 k2 x0 x1 x2 x3 M) := by
  show am_S am_ev G 1 yX10_closes.cls yX10_closes.name cX10_closes 5 none 45 [(0, .ref x0), (1, .int x1), (2, .int x2), (3, .int x3)] [] M (fX10_closes_46 k2 x0 x1 x2 x3 0 M)
  refine am_iconst dX10_closes_45 am_kc_0 ?_
  exact sX10_closes_46 G k2 hk2 x0 x1 x2 x3 0 M h_x0
set_option maxRecDepth 100000 in
set_option maxHeartbeats 4000000 in
theorem sX10_closes_2 (G : am_G) (k2 : (Nat × Int32 × Int32 × am_M) → Option am_M) (hk2 : ∀ q : (Nat × Int32 × Int32 × am_M), (match q with | (x0, x1, x2, M) => am_sh M x0 14) → match q with | (x0, x1, x2, M) => am_S am_ev G 1 yX10_closes.cls yX10_closes.name cX10_closes 5 none 2 [(0, .ref x0), (1, .int x1), (2, .int x2)] [] M (k2 (x0, x1, x2, M))) (x0 : Nat) (x1 : Int32) (x2 : Int32) (M : am_M) (h_x0 : am_sh M x0 14) : am_S am_ev G 1 yX10_closes.cls yX10_closes.name cX10_closes 5 none 2 [(0, .ref x0), (1, .int x1), (2, .int x2)] [] M (fX10_closes_2 k2 (x0, x1, x2, M)) := by
  show am_S am_ev G 1 yX10_closes.cls yX10_closes.name cX10_closes 5 none 2 [(0, .ref x0), (1, .int x1), (2, .int x2)] [] M (if (13 : Int32) ≤ x2 then some M else (M.2.2.1 x0 25).bind fun r2 => if (13 * x1) + x2 < 0 ∨ am_len M r2 ≤ ((13 * x1) + x2).toNatClampNeg then none else if x1 < M.1 x0 2 then fX10_closes_45 k2 x0 x1 x2 (M.1 r2 (((13 * x1) + x2).toNatClampNeg)) M else if x2 ≤ 0 then fX10_closes_45 k2 x0 x1 x2 (M.1 r2 (((13 * x1) + x2).toNatClampNeg)) M else (fX10_sizeOf x0 x1 M).bind fun p24 => if M.1 r2 (((13 * x1) + x2).toNatClampNeg) ≤ p24.1 then fX10_closes_45 k2 x0 x1 x2 (M.1 r2 (((13 * x1) + x2).toNatClampNeg)) p24.2 else fX10_closes_46 k2 x0 x1 x2 (M.1 r2 (((13 * x1) + x2).toNatClampNeg)) 1 p24.2)
  refine am_iload_n 2 dX10_closes_2 rfl rfl ?_
  refine am_bipush (x := 13) dX10_closes_3 (by decide) ?_
  refine am_icmp_ge (tgt := 74) dX10_closes_5 (by decide) (fun c1 => ?_) (fun c1 => ?_)
  · exact am_vret dX10_closes_74
  · refine am_aload_n 0 dX10_closes_8 rfl rfl ?_
    refine am_getR 9 dX10_closes_9 fl_RX10_50 h_x0 rfl (fun r2 e3 h4 => ?_)
    refine am_bipush (x := 13) dX10_closes_12 (by decide) ?_
    refine am_iload_n 1 dX10_closes_14 rfl rfl ?_
    refine am_imul dX10_closes_15 ?_
    refine am_iload_n 2 dX10_closes_16 rfl rfl ?_
    refine am_iadd dX10_closes_17 ?_
    refine am_iald dX10_closes_18 h4 (fun b5 => ?_)
    refine am_istore_n (L' := [(3, .int (M.1 r2 (((13 * x1) + x2).toNatClampNeg))), (0, .ref x0), (1, .int x1), (2, .int x2)]) dX10_closes_19 rfl (by decide) rfl ?_
    refine am_iload_n 2 dX10_closes_20 rfl rfl ?_
    refine am_aload_n 1 dX10_closes_21 rfl rfl ?_
    refine am_getI 9 dX10_closes_22 fl_RX10_105 h_x0 rfl ?_
    refine am_icmp_lt (tgt := 45) dX10_closes_25 (by decide) (fun c6 => ?_) (fun c6 => ?_)
    · refine am_sub [1, 2, 3, 0] rfl ?_
      exact sX10_closes_45 G k2 hk2 x0 x1 x2 (M.1 r2 (((13 * x1) + x2).toNatClampNeg)) M h_x0
    · refine am_iload_n 3 dX10_closes_28 rfl rfl ?_
      refine am_if_le (tgt := 45) dX10_closes_29 (by decide) (fun c18 => ?_) (fun c18 => ?_)
      · refine am_sub [1, 2, 3, 0] rfl ?_
        exact sX10_closes_45 G k2 hk2 x0 x1 x2 (M.1 r2 (((13 * x1) + x2).toNatClampNeg)) M h_x0
      · refine am_aload_n 1 dX10_closes_32 rfl rfl ?_
        refine am_iload_n 2 dX10_closes_33 rfl rfl ?_
        refine am_callVi 9 [.int x1] (CX10_sizeOf G x0 x1 M h_x0) dX10_closes_34 mb_yX10_sizeOf ⟨ml_RX10_170, im_yX10_sizeOf, se_yX10_sizeOf⟩ rfl h_x0 (by decide) rfl rfl (Nat.le_of_ble_eq_true rfl) (fun v23 M20 q19 w22 l21 => ?_)
        refine am_iload_n 0 dX10_closes_37 rfl rfl ?_
        refine am_icmp_ge (tgt := 45) dX10_closes_38 (by decide) (fun c25 => ?_) (fun c25 => ?_)
        · refine am_sub [1, 2, 3, 0] rfl ?_
          exact sX10_closes_45 G k2 hk2 x0 x1 x2 (M.1 r2 (((13 * x1) + x2).toNatClampNeg)) M20 (am_sh.mono l21 h_x0)
        · refine am_iconst dX10_closes_41 am_kc_1 ?_
          refine am_goto (tgt := 46) dX10_closes_42 (by decide) ?_
          refine am_sub [1, 2, 3, 0] rfl ?_
          exact sX10_closes_46 G k2 hk2 x0 x1 x2 (M.1 r2 (((13 * x1) + x2).toNatClampNeg)) 1 M20 (am_sh.mono l21 h_x0)
set_option maxRecDepth 100000 in
set_option maxHeartbeats 4000000 in
theorem lX10_closes_2 (G : am_G) (n : Nat) (q : (Nat × Int32 × Int32 × am_M)) (hq : match q with | (x0, x1, x2, M) => am_sh M x0 14) : match q with | (x0, x1, x2, M) => am_S am_ev G 1 yX10_closes.cls yX10_closes.name cX10_closes 5 none 2 [(0, .ref x0), (1, .int x1), (2, .int x2)] [] M (am_loop (fX10_closes_2) n (x0, x1, x2, M)) := by
  exact am_loop_ok (fun q : (Nat × Int32 × Int32 × am_M) => match q with | (x0, x1, x2, M) => am_sh M x0 14) (fun q X => match q with | (x0, x1, x2, M) => am_S am_ev G 1 yX10_closes.cls yX10_closes.name cX10_closes 5 none 2 [(0, .ref x0), (1, .int x1), (2, .int x2)] [] M X) (fun _ => am_none) (fun k2 hk2 q hq => match q, hq with | (x0, x1, x2, M), h_x0 => sX10_closes_2 G k2 hk2 x0 x1 x2 M h_x0) n q hq
set_option maxRecDepth 100000 in
set_option maxHeartbeats 4000000 in
theorem sX10_closes_0 (G : am_G) (a0 : Nat) (a1 : Int32) (M : am_M) (h_a0 : am_sh M a0 14) : am_S am_ev G 1 yX10_closes.cls yX10_closes.name cX10_closes 5 none 0 [(0, .ref a0), (1, .int a1)] [] M (fX10_closes a0 a1 M) := by
  show am_S am_ev G 1 yX10_closes.cls yX10_closes.name cX10_closes 5 none 0 [(0, .ref a0), (1, .int a1)] [] M (am_loop (fX10_closes_2) 100000 (a0, a1, 0, M))
  refine am_iconst dX10_closes_0 am_kc_0 ?_
  refine am_istore_n (L' := [(2, .int 0), (0, .ref a0), (1, .int a1)]) dX10_closes_1 rfl (by decide) rfl ?_
  refine am_sub [1, 2, 0] rfl ?_
  exact lX10_closes_2 G 100000 (a0, a1, 0, M) h_a0
theorem CX10_closes (G : am_G) (a0 : Nat) (a1 : Int32) (M : am_M) (h_a0 : am_sh M a0 14) : am_C am_ev G 1 yX10_closes cX10_closes 5 none [.ref a0, .int a1] M (fX10_closes a0 a1 M) :=
  am_meth (by decide) rfl (Nat.le_of_ble_eq_true rfl) (sX10_closes_0 G a0 a1 M h_a0)
def fX10_setLeaf_56 (k20 : (Nat × Int32 × Int32 × am_M) → Option am_M) (x0 : Nat) (x2 : Int32) (x3 : Int32) (s0 : Int32) (s1 : Int32) (s2 : Nat) (M : am_M) : Option am_M := if s1 < 0 ∨ am_len M s2 ≤ s1.toNatClampNeg then none else k20 (x0, x2, x3 + 1, am_pI M s2 s1.toNatClampNeg s0)
def fX10_setLeaf_20 : ((Nat × Int32 × Int32 × am_M) → Option am_M) → (Nat × Int32 × Int32 × am_M) → Option am_M := fun k20 q0 => match q0 with
  | (x0, x2, x3, M) => if (13 : Int32) ≤ x3 then some M else (M.2.2.1 x0 27).bind fun r9 => if x2 = 0 then fX10_setLeaf_56 k20 x0 x2 x3 0 x3 r9 M else if x3 ≤ 0 then fX10_setLeaf_56 k20 x0 x2 x3 1000000 x3 r9 M else (fX10_sizeOf x0 (M.1 x0 3) M).bind fun p20 => fX10_setLeaf_56 k20 x0 x2 x3 p20.1 x3 r9 p20.2
def fX10_setLeaf_17 (x0 : Nat) (s0 : Int32) (M : am_M) : Option am_M := am_loop (fX10_setLeaf_20) 100000 (x0, s0, 0, M)
def fX10_setLeaf (a0 : Nat) (a1 : Int32) (M : am_M) : Option am_M := (fX10_shapeIn a0 (M.1 a0 3) a1 M).bind fun p6 => if p6.1 ≤ 0 then fX10_setLeaf_17 a0 0 p6.2 else fX10_setLeaf_17 a0 1 p6.2
set_option maxRecDepth 100000 in
set_option maxHeartbeats 4000000 in
theorem sX10_setLeaf_56 (G : am_G) (k20 : (Nat × Int32 × Int32 × am_M) → Option am_M) (hk20 : ∀ q : (Nat × Int32 × Int32 × am_M), (match q with | (x0, x2, x3, M) => am_sh M x0 14) → match q with | (x0, x2, x3, M) => am_S am_ev G 2 yX10_setLeaf.cls yX10_setLeaf.name cX10_setLeaf 4 none 20 [(0, .ref x0), (2, .int x2), (3, .int x3)] [] M (k20 (x0, x2, x3, M))) (x0 : Nat) (x2 : Int32) (x3 : Int32) (s0 : Int32) (s1 : Int32) (s2 : Nat) (M : am_M) (h_x0 : am_sh M x0 14) (h_s2 : am_sh M s2 0) : am_S am_ev G 2 yX10_setLeaf.cls yX10_setLeaf.name cX10_setLeaf 4 none 56 [(0, .ref x0), (2, .int x2), (3, .int x3)] [.int s0, .int s1, .ref s2] M (fX10_setLeaf_56 k20 x0 x2 x3 s0 s1 s2 M) := by
  show am_S am_ev G 2 yX10_setLeaf.cls yX10_setLeaf.name cX10_setLeaf 4 none 56 [(0, .ref x0), (2, .int x2), (3, .int x3)] [.int s0, .int s1, .ref s2] M (if s1 < 0 ∨ am_len M s2 ≤ s1.toNatClampNeg then none else k20 (x0, x2, x3 + 1, am_pI M s2 s1.toNatClampNeg s0))
  refine am_iast dX10_setLeaf_56 h_s2 (fun b14 => ?_)
  refine am_iinc (L' := [(3, .int (x3 + 1)), (0, .ref x0), (2, .int x2)]) 2 dX10_setLeaf_57 rfl (by rfl) (by decide) rfl ?_
  refine am_goto (tgt := 20) dX10_setLeaf_60 (by decide) ?_
  refine am_sub [1, 2, 0] rfl ?_
  exact hk20 (x0, x2, x3 + 1, am_pI M s2 s1.toNatClampNeg s0) (am_sh.of h_x0 rfl)
set_option maxRecDepth 100000 in
set_option maxHeartbeats 4000000 in
theorem sX10_setLeaf_20 (G : am_G) (k20 : (Nat × Int32 × Int32 × am_M) → Option am_M) (hk20 : ∀ q : (Nat × Int32 × Int32 × am_M), (match q with | (x0, x2, x3, M) => am_sh M x0 14) → match q with | (x0, x2, x3, M) => am_S am_ev G 2 yX10_setLeaf.cls yX10_setLeaf.name cX10_setLeaf 4 none 20 [(0, .ref x0), (2, .int x2), (3, .int x3)] [] M (k20 (x0, x2, x3, M))) (x0 : Nat) (x2 : Int32) (x3 : Int32) (M : am_M) (h_x0 : am_sh M x0 14) : am_S am_ev G 2 yX10_setLeaf.cls yX10_setLeaf.name cX10_setLeaf 4 none 20 [(0, .ref x0), (2, .int x2), (3, .int x3)] [] M (fX10_setLeaf_20 k20 (x0, x2, x3, M)) := by
  show am_S am_ev G 2 yX10_setLeaf.cls yX10_setLeaf.name cX10_setLeaf 4 none 20 [(0, .ref x0), (2, .int x2), (3, .int x3)] [] M (if (13 : Int32) ≤ x3 then some M else (M.2.2.1 x0 27).bind fun r9 => if x2 = 0 then fX10_setLeaf_56 k20 x0 x2 x3 0 x3 r9 M else if x3 ≤ 0 then fX10_setLeaf_56 k20 x0 x2 x3 1000000 x3 r9 M else (fX10_sizeOf x0 (M.1 x0 3) M).bind fun p20 => fX10_setLeaf_56 k20 x0 x2 x3 p20.1 x3 r9 p20.2)
  refine am_iload_n 2 dX10_setLeaf_20 rfl rfl ?_
  refine am_bipush (x := 13) dX10_setLeaf_21 (by decide) ?_
  refine am_icmp_ge (tgt := 63) dX10_setLeaf_23 (by decide) (fun c8 => ?_) (fun c8 => ?_)
  · exact am_vret dX10_setLeaf_63
  · refine am_aload_n 0 dX10_setLeaf_26 rfl rfl ?_
    refine am_getR 9 dX10_setLeaf_27 fl_RX10_56 h_x0 rfl (fun r9 e10 h11 => ?_)
    refine am_iload_n 2 dX10_setLeaf_30 rfl rfl ?_
    refine am_iload_n 1 dX10_setLeaf_31 rfl rfl ?_
    refine am_if_ne (tgt := 39) dX10_setLeaf_32 (by decide) (fun c12 => ?_) (fun c12 => ?_)
    · refine am_iload_n 2 dX10_setLeaf_39 rfl rfl ?_
      refine am_if_le (tgt := 54) dX10_setLeaf_40 (by decide) (fun c13 => ?_) (fun c13 => ?_)
      · refine am_ldc dX10_setLeaf_54 kc_RX10_210 ?_
        exact sX10_setLeaf_56 G k20 hk20 x0 x2 x3 1000000 x3 r9 M h_x0 h11
      · refine am_aload_n 0 dX10_setLeaf_43 rfl rfl ?_
        refine am_aload_n 0 dX10_setLeaf_44 rfl rfl ?_
        refine am_getI 9 dX10_setLeaf_45 fl_RX10_16 h_x0 rfl ?_
        refine am_callVi 9 [.int (M.1 x0 3)] (CX10_sizeOf G x0 (M.1 x0 3) M h_x0) dX10_setLeaf_48 mb_yX10_sizeOf ⟨ml_RX10_170, im_yX10_sizeOf, se_yX10_sizeOf⟩ rfl h_x0 (by decide) rfl rfl (Nat.le_of_ble_eq_true rfl) (fun v19 M16 q15 w18 l17 => ?_)
        refine am_goto (tgt := 56) dX10_setLeaf_51 (by decide) ?_
        exact sX10_setLeaf_56 G k20 hk20 x0 x2 x3 v19 x3 r9 M16 (am_sh.mono l17 h_x0) (am_sh.mono l17 h11)
    · refine am_iconst dX10_setLeaf_35 am_kc_0 ?_
      refine am_goto (tgt := 56) dX10_setLeaf_36 (by decide) ?_
      exact sX10_setLeaf_56 G k20 hk20 x0 x2 x3 0 x3 r9 M h_x0 h11
set_option maxRecDepth 100000 in
set_option maxHeartbeats 4000000 in
theorem lX10_setLeaf_20 (G : am_G) (n : Nat) (q : (Nat × Int32 × Int32 × am_M)) (hq : match q with | (x0, x2, x3, M) => am_sh M x0 14) : match q with | (x0, x2, x3, M) => am_S am_ev G 2 yX10_setLeaf.cls yX10_setLeaf.name cX10_setLeaf 4 none 20 [(0, .ref x0), (2, .int x2), (3, .int x3)] [] M (am_loop (fX10_setLeaf_20) n (x0, x2, x3, M)) := by
  exact am_loop_ok (fun q : (Nat × Int32 × Int32 × am_M) => match q with | (x0, x2, x3, M) => am_sh M x0 14) (fun q X => match q with | (x0, x2, x3, M) => am_S am_ev G 2 yX10_setLeaf.cls yX10_setLeaf.name cX10_setLeaf 4 none 20 [(0, .ref x0), (2, .int x2), (3, .int x3)] [] M X) (fun _ => am_none) (fun k20 hk20 q hq => match q, hq with | (x0, x2, x3, M), h_x0 => sX10_setLeaf_20 G k20 hk20 x0 x2 x3 M h_x0) n q hq
set_option maxRecDepth 100000 in
set_option maxHeartbeats 4000000 in
theorem sX10_setLeaf_17 (G : am_G) (x0 : Nat) (s0 : Int32) (M : am_M) (h_x0 : am_sh M x0 14) : am_S am_ev G 2 yX10_setLeaf.cls yX10_setLeaf.name cX10_setLeaf 4 none 17 [(0, .ref x0)] [.int s0] M (fX10_setLeaf_17 x0 s0 M) := by
  show am_S am_ev G 2 yX10_setLeaf.cls yX10_setLeaf.name cX10_setLeaf 4 none 17 [(0, .ref x0)] [.int s0] M (am_loop (fX10_setLeaf_20) 100000 (x0, s0, 0, M))
  refine am_istore_n (L' := [(2, .int s0), (0, .ref x0)]) dX10_setLeaf_17 rfl (by decide) rfl ?_
  refine am_iconst dX10_setLeaf_18 am_kc_0 ?_
  refine am_istore_n (L' := [(3, .int 0), (2, .int s0), (0, .ref x0)]) dX10_setLeaf_19 rfl (by decide) rfl ?_
  refine am_sub [2, 1, 0] rfl ?_
  exact lX10_setLeaf_20 G 100000 (x0, s0, 0, M) h_x0
set_option maxRecDepth 100000 in
set_option maxHeartbeats 4000000 in
theorem sX10_setLeaf_0 (G : am_G) (a0 : Nat) (a1 : Int32) (M : am_M) (h_a0 : am_sh M a0 14) : am_S am_ev G 2 yX10_setLeaf.cls yX10_setLeaf.name cX10_setLeaf 4 none 0 [(0, .ref a0), (1, .int a1)] [] M (fX10_setLeaf a0 a1 M) := by
  show am_S am_ev G 2 yX10_setLeaf.cls yX10_setLeaf.name cX10_setLeaf 4 none 0 [(0, .ref a0), (1, .int a1)] [] M ((fX10_shapeIn a0 (M.1 a0 3) a1 M).bind fun p6 => if p6.1 ≤ 0 then fX10_setLeaf_17 a0 0 p6.2 else fX10_setLeaf_17 a0 1 p6.2)
  refine am_aload_n 0 dX10_setLeaf_0 rfl rfl ?_
  refine am_aload_n 0 dX10_setLeaf_1 rfl rfl ?_
  refine am_getI 9 dX10_setLeaf_2 fl_RX10_16 h_a0 rfl ?_
  refine am_iload_n 1 dX10_setLeaf_5 rfl rfl ?_
  refine am_callVi 9 [.int (M.1 a0 3), .int a1] (CX10_shapeIn G a0 (M.1 a0 3) a1 M h_a0) dX10_setLeaf_6 mb_yX10_shapeIn ⟨ml_RX10_183, im_yX10_shapeIn, se_yX10_shapeIn⟩ rfl h_a0 (by decide) rfl rfl (Nat.le_of_ble_eq_true rfl) (fun v5 M2 q1 w4 l3 => ?_)
  refine am_if_le (tgt := 16) dX10_setLeaf_9 (by decide) (fun c7 => ?_) (fun c7 => ?_)
  · refine am_iconst dX10_setLeaf_16 am_kc_0 ?_
    refine am_sub [0] rfl ?_
    exact sX10_setLeaf_17 G a0 0 M2 (am_sh.mono l3 h_a0)
  · refine am_iconst dX10_setLeaf_12 am_kc_1 ?_
    refine am_goto (tgt := 17) dX10_setLeaf_13 (by decide) ?_
    refine am_sub [0] rfl ?_
    exact sX10_setLeaf_17 G a0 1 M2 (am_sh.mono l3 h_a0)
theorem CX10_setLeaf (G : am_G) (a0 : Nat) (a1 : Int32) (M : am_M) (h_a0 : am_sh M a0 14) : am_C am_ev G 2 yX10_setLeaf cX10_setLeaf 4 none [.ref a0, .int a1] M (fX10_setLeaf a0 a1 M) :=
  am_meth (by decide) rfl (Nat.le_of_ble_eq_true rfl) (sX10_setLeaf_0 G a0 a1 M h_a0)
def fX10_best_106 (k39 : (Nat × Int32 × Int32 × am_M) → Option (Int32 × am_M)) (x0 : Nat) (x1 : Int32) (x2 : Int32) (M : am_M) : Option (Int32 × am_M) := k39 (x0, x1, x2 + 1, M)
def fX10_best_64 (k39 : (Nat × Int32 × Int32 × am_M) → Option (Int32 × am_M)) : ((Nat × Int32 × Int32 × Int32 × Int32 × am_M) → Option (Int32 × am_M)) → (Nat × Int32 × Int32 × Int32 × Int32 × am_M) → Option (Int32 × am_M) := fun k64 q0 => match q0 with
  | (x0, x1, x2, x3, x4, M) => if x3 ≤ 0 then fX10_best_106 k39 x0 x1 x2 M else (fX10_comes x0 (x3 + (-1)) M).bind fun M37 => if (3 : Int32) ≤ x4 - x4 / 4 * 4 then (fX10_closes x0 (x3 + (-1)) M37).bind fun M43 => (fX10_clears x0 (x3 + (-1)) M43).bind fun M48 => k64 (x0, x1, x2, x3 + (-1), x4 / 4, M48) else fX10_best_106 k39 x0 x1 x2 M37
def fX10_best_39 : ((Nat × Int32 × Int32 × am_M) → Option (Int32 × am_M)) → (Nat × Int32 × Int32 × am_M) → Option (Int32 × am_M) := fun k39 q0 => match q0 with
  | (x0, x1, x2, M) => if 1 <<< ((2 * (M.1 x0 3)) &&& 31) ≤ x2 then (M.2.2.1 x0 27).bind fun r15 => if x1 < 0 ∨ am_len M r15 ≤ x1.toNatClampNeg then none else if M.1 r15 (x1.toNatClampNeg) < 1000000 then (M.2.2.1 x0 27).bind fun r20 => if x1 < 0 ∨ am_len M r20 ≤ x1.toNatClampNeg then none else (fX10_shapeIn x0 0 0 M).bind fun p29 => some ((M.1 r20 (x1.toNatClampNeg)) - p29.1, p29.2) else some ((-4), M) else (fX10_setLeaf x0 x2 M).bind fun M31 => am_loop (fX10_best_64 k39) 100000 (x0, x1, x2, M31.1 x0 3, x2, M31)
def fX10_best_18 : ((Nat × Int32 × Int32 × am_M) → Option (Int32 × am_M)) → (Nat × Int32 × Int32 × am_M) → Option (Int32 × am_M) := fun k18 q0 => match q0 with
  | (x0, x1, x2, M) => if M.1 x0 0 < x2 then am_loop (fX10_best_39) 100000 (x0, x1, 0, M) else (fX10_clears x0 x2 M).bind fun M53 => k18 (x0, x1, x2 + 1, M53)
def fX10_best (a0 : Nat) (a1 : Int32) (M : am_M) : Option (Int32 × am_M) := (fX10_isIn a1 1 12 M).bind fun p6 => if p6.1 = 0 then some ((-1), p6.2) else (fX10_setShape a0 p6.2).bind fun M9 => am_loop (fX10_best_18) 100000 (a0, a1, 0, M9)
set_option maxRecDepth 100000 in
set_option maxHeartbeats 4000000 in
theorem sX10_best_106 (G : am_G) (k39 : (Nat × Int32 × Int32 × am_M) → Option (Int32 × am_M)) (hk39 : ∀ q : (Nat × Int32 × Int32 × am_M), (match q with | (x0, x1, x2, M) => am_sh M x0 14) → match q with | (x0, x1, x2, M) => am_S am_ei G 4 yX10_best.cls yX10_best.name cX10_best 5 (some FieldType.int) 39 [(0, .ref x0), (1, .int x1), (2, .int x2)] [] M (k39 (x0, x1, x2, M))) (x0 : Nat) (x1 : Int32) (x2 : Int32) (M : am_M) (h_x0 : am_sh M x0 14) : am_S am_ei G 4 yX10_best.cls yX10_best.name cX10_best 5 (some FieldType.int) 106 [(0, .ref x0), (1, .int x1), (2, .int x2)] [] M (fX10_best_106 k39 x0 x1 x2 M) := by
  show am_S am_ei G 4 yX10_best.cls yX10_best.name cX10_best 5 (some FieldType.int) 106 [(0, .ref x0), (1, .int x1), (2, .int x2)] [] M (k39 (x0, x1, x2 + 1, M))
  refine am_iinc (L' := [(2, .int (x2 + 1)), (0, .ref x0), (1, .int x1)]) 2 dX10_best_106 rfl (by rfl) (by decide) rfl ?_
  refine am_goto (tgt := 39) dX10_best_109 (by decide) ?_
  refine am_sub [1, 2, 0] rfl ?_
  exact hk39 (x0, x1, x2 + 1, M) h_x0
set_option maxRecDepth 100000 in
set_option maxHeartbeats 4000000 in
theorem sX10_best_64 (G : am_G) (k39 : (Nat × Int32 × Int32 × am_M) → Option (Int32 × am_M)) (hk39 : ∀ q : (Nat × Int32 × Int32 × am_M), (match q with | (x0, x1, x2, M) => am_sh M x0 14) → match q with | (x0, x1, x2, M) => am_S am_ei G 4 yX10_best.cls yX10_best.name cX10_best 5 (some FieldType.int) 39 [(0, .ref x0), (1, .int x1), (2, .int x2)] [] M (k39 (x0, x1, x2, M))) (k64 : (Nat × Int32 × Int32 × Int32 × Int32 × am_M) → Option (Int32 × am_M)) (hk64 : ∀ q : (Nat × Int32 × Int32 × Int32 × Int32 × am_M), (match q with | (x0, x1, x2, x3, x4, M) => am_sh M x0 14) → match q with | (x0, x1, x2, x3, x4, M) => am_S am_ei G 4 yX10_best.cls yX10_best.name cX10_best 5 (some FieldType.int) 64 [(0, .ref x0), (1, .int x1), (2, .int x2), (3, .int x3), (4, .int x4)] [] M (k64 (x0, x1, x2, x3, x4, M))) (x0 : Nat) (x1 : Int32) (x2 : Int32) (x3 : Int32) (x4 : Int32) (M : am_M) (h_x0 : am_sh M x0 14) : am_S am_ei G 4 yX10_best.cls yX10_best.name cX10_best 5 (some FieldType.int) 64 [(0, .ref x0), (1, .int x1), (2, .int x2), (3, .int x3), (4, .int x4)] [] M (fX10_best_64 k39 k64 (x0, x1, x2, x3, x4, M)) := by
  show am_S am_ei G 4 yX10_best.cls yX10_best.name cX10_best 5 (some FieldType.int) 64 [(0, .ref x0), (1, .int x1), (2, .int x2), (3, .int x3), (4, .int x4)] [] M (if x3 ≤ 0 then fX10_best_106 k39 x0 x1 x2 M else (fX10_comes x0 (x3 + (-1)) M).bind fun M37 => if (3 : Int32) ≤ x4 - x4 / 4 * 4 then (fX10_closes x0 (x3 + (-1)) M37).bind fun M43 => (fX10_clears x0 (x3 + (-1)) M43).bind fun M48 => k64 (x0, x1, x2, x3 + (-1), x4 / 4, M48) else fX10_best_106 k39 x0 x1 x2 M37)
  refine am_iload_n 3 dX10_best_64 rfl rfl ?_
  refine am_if_le (tgt := 106) dX10_best_65 (by decide) (fun c35 => ?_) (fun c35 => ?_)
  · refine am_sub [0, 1, 2] rfl ?_
    exact sX10_best_106 G k39 hk39 x0 x1 x2 M h_x0
  · refine am_iinc (L' := [(3, .int (x3 + (-1))), (0, .ref x0), (1, .int x1), (2, .int x2), (4, .int x4)]) 3 dX10_best_68 rfl (by rfl) (by decide) rfl ?_
    refine am_aload_n 1 dX10_best_71 rfl rfl ?_
    refine am_iload_n 0 dX10_best_72 rfl rfl ?_
    refine am_callVv 9 [.int (x3 + (-1))] (CX10_comes G x0 (x3 + (-1)) M h_x0) dX10_best_73 mb_yX10_comes ⟨ml_RX10_217, im_yX10_comes, se_yX10_comes⟩ rfl h_x0 (by decide) rfl rfl (Nat.le_of_ble_eq_true rfl) (fun M37 q36 w39 l38 => ?_)
    refine am_iload 4 dX10_best_76 rfl ?_
    refine am_iconst dX10_best_78 am_kc_4 ?_
    refine am_iremk dX10_best_79 (by decide) ?_
    refine am_iconst dX10_best_80 am_kc_3 ?_
    refine am_icmp_ge (tgt := 87) dX10_best_81 (by decide) (fun c41 => ?_) (fun c41 => ?_)
    · refine am_aload_n 1 dX10_best_87 rfl rfl ?_
      refine am_iload_n 0 dX10_best_88 rfl rfl ?_
      refine am_callVv 9 [.int (x3 + (-1))] (CX10_closes G x0 (x3 + (-1)) M37 (am_sh.mono l38 h_x0)) dX10_best_89 mb_yX10_closes ⟨ml_RX10_220, im_yX10_closes, se_yX10_closes⟩ rfl (am_sh.mono l38 h_x0) (by decide) rfl rfl (Nat.le_of_ble_eq_true rfl) (fun M43 q42 w45 l44 => ?_)
      refine am_aload_n 1 dX10_best_92 rfl rfl ?_
      refine am_iload_n 0 dX10_best_93 rfl rfl ?_
      refine am_callVv 9 [.int (x3 + (-1))] (CX10_clears G x0 (x3 + (-1)) M43 (am_sh.mono l44 (am_sh.mono l38 h_x0))) dX10_best_94 mb_yX10_clears ⟨ml_RX10_211, im_yX10_clears, se_yX10_clears⟩ rfl (am_sh.mono l44 (am_sh.mono l38 h_x0)) (by decide) rfl rfl (Nat.le_of_ble_eq_true rfl) (fun M48 q47 w50 l49 => ?_)
      refine am_iload 4 dX10_best_97 rfl ?_
      refine am_iconst dX10_best_99 am_kc_4 ?_
      refine am_idivk dX10_best_100 (by decide) ?_
      refine am_istore (L' := [(4, .int (x4 / 4)), (3, .int (x3 + (-1))), (0, .ref x0), (1, .int x1), (2, .int x2)]) dX10_best_101 (by decide) rfl ?_
      refine am_goto (tgt := 64) dX10_best_103 (by decide) ?_
      refine am_sub [2, 3, 4, 1, 0] rfl ?_
      exact hk64 (x0, x1, x2, x3 + (-1), x4 / 4, M48) (am_sh.mono l49 (am_sh.mono l44 (am_sh.mono l38 h_x0)))
    · refine am_goto (tgt := 106) dX10_best_84 (by decide) ?_
      refine am_sub [1, 2, 3] rfl ?_
      exact sX10_best_106 G k39 hk39 x0 x1 x2 M37 (am_sh.mono l38 h_x0)
set_option maxRecDepth 100000 in
set_option maxHeartbeats 4000000 in
theorem lX10_best_64 (G : am_G) (k39 : (Nat × Int32 × Int32 × am_M) → Option (Int32 × am_M)) (hk39 : ∀ q : (Nat × Int32 × Int32 × am_M), (match q with | (x0, x1, x2, M) => am_sh M x0 14) → match q with | (x0, x1, x2, M) => am_S am_ei G 4 yX10_best.cls yX10_best.name cX10_best 5 (some FieldType.int) 39 [(0, .ref x0), (1, .int x1), (2, .int x2)] [] M (k39 (x0, x1, x2, M))) (n : Nat) (q : (Nat × Int32 × Int32 × Int32 × Int32 × am_M)) (hq : match q with | (x0, x1, x2, x3, x4, M) => am_sh M x0 14) : match q with | (x0, x1, x2, x3, x4, M) => am_S am_ei G 4 yX10_best.cls yX10_best.name cX10_best 5 (some FieldType.int) 64 [(0, .ref x0), (1, .int x1), (2, .int x2), (3, .int x3), (4, .int x4)] [] M (am_loop (fX10_best_64 k39) n (x0, x1, x2, x3, x4, M)) := by
  exact am_loop_ok (fun q : (Nat × Int32 × Int32 × Int32 × Int32 × am_M) => match q with | (x0, x1, x2, x3, x4, M) => am_sh M x0 14) (fun q X => match q with | (x0, x1, x2, x3, x4, M) => am_S am_ei G 4 yX10_best.cls yX10_best.name cX10_best 5 (some FieldType.int) 64 [(0, .ref x0), (1, .int x1), (2, .int x2), (3, .int x3), (4, .int x4)] [] M X) (fun _ => am_none) (fun k64 hk64 q hq => match q, hq with | (x0, x1, x2, x3, x4, M), h_x0 => sX10_best_64 G k39 hk39 k64 hk64 x0 x1 x2 x3 x4 M h_x0) n q hq
set_option maxRecDepth 100000 in
set_option maxHeartbeats 4000000 in
theorem sX10_best_39 (G : am_G) (k39 : (Nat × Int32 × Int32 × am_M) → Option (Int32 × am_M)) (hk39 : ∀ q : (Nat × Int32 × Int32 × am_M), (match q with | (x0, x1, x2, M) => am_sh M x0 14) → match q with | (x0, x1, x2, M) => am_S am_ei G 4 yX10_best.cls yX10_best.name cX10_best 5 (some FieldType.int) 39 [(0, .ref x0), (1, .int x1), (2, .int x2)] [] M (k39 (x0, x1, x2, M))) (x0 : Nat) (x1 : Int32) (x2 : Int32) (M : am_M) (h_x0 : am_sh M x0 14) : am_S am_ei G 4 yX10_best.cls yX10_best.name cX10_best 5 (some FieldType.int) 39 [(0, .ref x0), (1, .int x1), (2, .int x2)] [] M (fX10_best_39 k39 (x0, x1, x2, M)) := by
  show am_S am_ei G 4 yX10_best.cls yX10_best.name cX10_best 5 (some FieldType.int) 39 [(0, .ref x0), (1, .int x1), (2, .int x2)] [] M (if 1 <<< ((2 * (M.1 x0 3)) &&& 31) ≤ x2 then (M.2.2.1 x0 27).bind fun r15 => if x1 < 0 ∨ am_len M r15 ≤ x1.toNatClampNeg then none else if M.1 r15 (x1.toNatClampNeg) < 1000000 then (M.2.2.1 x0 27).bind fun r20 => if x1 < 0 ∨ am_len M r20 ≤ x1.toNatClampNeg then none else (fX10_shapeIn x0 0 0 M).bind fun p29 => some ((M.1 r20 (x1.toNatClampNeg)) - p29.1, p29.2) else some ((-4), M) else (fX10_setLeaf x0 x2 M).bind fun M31 => am_loop (fX10_best_64 k39) 100000 (x0, x1, x2, M31.1 x0 3, x2, M31))
  refine am_iload_n 2 dX10_best_39 rfl rfl ?_
  refine am_iconst dX10_best_40 am_kc_1 ?_
  refine am_iconst dX10_best_41 am_kc_2 ?_
  refine am_aload_n 0 dX10_best_42 rfl rfl ?_
  refine am_getI 9 dX10_best_43 fl_RX10_16 h_x0 rfl ?_
  refine am_imul dX10_best_46 ?_
  refine am_ishl dX10_best_47 ?_
  refine am_icmp_ge (tgt := 112) dX10_best_48 (by decide) (fun c14 => ?_) (fun c14 => ?_)
  · refine am_aload_n 0 dX10_best_112 rfl rfl ?_
    refine am_getR 9 dX10_best_113 fl_RX10_56 h_x0 rfl (fun r15 e16 h17 => ?_)
    refine am_iload_n 1 dX10_best_116 rfl rfl ?_
    refine am_iald dX10_best_117 h17 (fun b18 => ?_)
    refine am_ldc dX10_best_118 kc_RX10_210 ?_
    refine am_icmp_lt (tgt := 128) dX10_best_120 (by decide) (fun c19 => ?_) (fun c19 => ?_)
    · refine am_aload_n 0 dX10_best_128 rfl rfl ?_
      refine am_getR 9 dX10_best_129 fl_RX10_56 h_x0 rfl (fun r20 e21 h22 => ?_)
      refine am_iload_n 1 dX10_best_132 rfl rfl ?_
      refine am_iald dX10_best_133 h22 (fun b23 => ?_)
      refine am_aload_n 0 dX10_best_134 rfl rfl ?_
      refine am_iconst dX10_best_135 am_kc_0 ?_
      refine am_iconst dX10_best_136 am_kc_0 ?_
      refine am_callVi 9 [.int 0, .int 0] (CX10_shapeIn G x0 0 0 M h_x0) dX10_best_137 mb_yX10_shapeIn ⟨ml_RX10_183, im_yX10_shapeIn, se_yX10_shapeIn⟩ rfl h_x0 (by decide) rfl rfl (Nat.le_of_ble_eq_true rfl) (fun v28 M25 q24 w27 l26 => ?_)
      refine am_isub dX10_best_140 ?_
      exact am_iret dX10_best_141
    · refine am_bipush (x := -4) dX10_best_123 (by decide) ?_
      refine am_goto (tgt := 141) dX10_best_125 (by decide) ?_
      exact am_iret dX10_best_141
  · refine am_aload_n 0 dX10_best_51 rfl rfl ?_
    refine am_iload_n 2 dX10_best_52 rfl rfl ?_
    refine am_callVv 9 [.int x2] (CX10_setLeaf G x0 x2 M h_x0) dX10_best_53 mb_yX10_setLeaf ⟨ml_RX10_214, im_yX10_setLeaf, se_yX10_setLeaf⟩ rfl h_x0 (by decide) rfl rfl (Nat.le_of_ble_eq_true rfl) (fun M31 q30 w33 l32 => ?_)
    refine am_aload_n 0 dX10_best_56 rfl rfl ?_
    refine am_getI 9 dX10_best_57 fl_RX10_16 (am_sh.mono l32 h_x0) rfl ?_
    refine am_istore_n (L' := [(3, .int (M31.1 x0 3)), (0, .ref x0), (1, .int x1), (2, .int x2)]) dX10_best_60 rfl (by decide) rfl ?_
    refine am_iload_n 3 dX10_best_61 rfl rfl ?_
    refine am_istore (L' := [(4, .int x2), (3, .int (M31.1 x0 3)), (0, .ref x0), (1, .int x1), (2, .int x2)]) dX10_best_62 (by decide) rfl ?_
    refine am_sub [2, 3, 4, 1, 0] rfl ?_
    exact lX10_best_64 G k39 hk39 100000 (x0, x1, x2, M31.1 x0 3, x2, M31) (am_sh.mono l32 h_x0)
set_option maxRecDepth 100000 in
set_option maxHeartbeats 4000000 in
theorem lX10_best_39 (G : am_G) (n : Nat) (q : (Nat × Int32 × Int32 × am_M)) (hq : match q with | (x0, x1, x2, M) => am_sh M x0 14) : match q with | (x0, x1, x2, M) => am_S am_ei G 4 yX10_best.cls yX10_best.name cX10_best 5 (some FieldType.int) 39 [(0, .ref x0), (1, .int x1), (2, .int x2)] [] M (am_loop (fX10_best_39) n (x0, x1, x2, M)) := by
  exact am_loop_ok (fun q : (Nat × Int32 × Int32 × am_M) => match q with | (x0, x1, x2, M) => am_sh M x0 14) (fun q X => match q with | (x0, x1, x2, M) => am_S am_ei G 4 yX10_best.cls yX10_best.name cX10_best 5 (some FieldType.int) 39 [(0, .ref x0), (1, .int x1), (2, .int x2)] [] M X) (fun _ => am_none) (fun k39 hk39 q hq => match q, hq with | (x0, x1, x2, M), h_x0 => sX10_best_39 G k39 hk39 x0 x1 x2 M h_x0) n q hq
set_option maxRecDepth 100000 in
set_option maxHeartbeats 4000000 in
theorem sX10_best_18 (G : am_G) (k18 : (Nat × Int32 × Int32 × am_M) → Option (Int32 × am_M)) (hk18 : ∀ q : (Nat × Int32 × Int32 × am_M), (match q with | (x0, x1, x2, M) => am_sh M x0 14) → match q with | (x0, x1, x2, M) => am_S am_ei G 4 yX10_best.cls yX10_best.name cX10_best 5 (some FieldType.int) 18 [(0, .ref x0), (1, .int x1), (2, .int x2)] [] M (k18 (x0, x1, x2, M))) (x0 : Nat) (x1 : Int32) (x2 : Int32) (M : am_M) (h_x0 : am_sh M x0 14) : am_S am_ei G 4 yX10_best.cls yX10_best.name cX10_best 5 (some FieldType.int) 18 [(0, .ref x0), (1, .int x1), (2, .int x2)] [] M (fX10_best_18 k18 (x0, x1, x2, M)) := by
  show am_S am_ei G 4 yX10_best.cls yX10_best.name cX10_best 5 (some FieldType.int) 18 [(0, .ref x0), (1, .int x1), (2, .int x2)] [] M (if M.1 x0 0 < x2 then am_loop (fX10_best_39) 100000 (x0, x1, 0, M) else (fX10_clears x0 x2 M).bind fun M53 => k18 (x0, x1, x2 + 1, M53))
  refine am_iload_n 2 dX10_best_18 rfl rfl ?_
  refine am_aload_n 0 dX10_best_19 rfl rfl ?_
  refine am_getI 9 dX10_best_20 fl_RX10_7 h_x0 rfl ?_
  refine am_icmp_gt (tgt := 37) dX10_best_23 (by decide) (fun c13 => ?_) (fun c13 => ?_)
  · refine am_iconst dX10_best_37 am_kc_0 ?_
    refine am_istore_n (L' := [(2, .int 0), (0, .ref x0), (1, .int x1)]) dX10_best_38 rfl (by decide) rfl ?_
    refine am_sub [1, 2, 0] rfl ?_
    exact lX10_best_39 G 100000 (x0, x1, 0, M) h_x0
  · refine am_aload_n 0 dX10_best_26 rfl rfl ?_
    refine am_iload_n 2 dX10_best_27 rfl rfl ?_
    refine am_callVv 9 [.int x2] (CX10_clears G x0 x2 M h_x0) dX10_best_28 mb_yX10_clears ⟨ml_RX10_211, im_yX10_clears, se_yX10_clears⟩ rfl h_x0 (by decide) rfl rfl (Nat.le_of_ble_eq_true rfl) (fun M53 q52 w55 l54 => ?_)
    refine am_iinc (L' := [(2, .int (x2 + 1)), (0, .ref x0), (1, .int x1)]) 2 dX10_best_31 rfl (by rfl) (by decide) rfl ?_
    refine am_goto (tgt := 18) dX10_best_34 (by decide) ?_
    refine am_sub [1, 2, 0] rfl ?_
    exact hk18 (x0, x1, x2 + 1, M53) (am_sh.mono l54 h_x0)
set_option maxRecDepth 100000 in
set_option maxHeartbeats 4000000 in
theorem lX10_best_18 (G : am_G) (n : Nat) (q : (Nat × Int32 × Int32 × am_M)) (hq : match q with | (x0, x1, x2, M) => am_sh M x0 14) : match q with | (x0, x1, x2, M) => am_S am_ei G 4 yX10_best.cls yX10_best.name cX10_best 5 (some FieldType.int) 18 [(0, .ref x0), (1, .int x1), (2, .int x2)] [] M (am_loop (fX10_best_18) n (x0, x1, x2, M)) := by
  exact am_loop_ok (fun q : (Nat × Int32 × Int32 × am_M) => match q with | (x0, x1, x2, M) => am_sh M x0 14) (fun q X => match q with | (x0, x1, x2, M) => am_S am_ei G 4 yX10_best.cls yX10_best.name cX10_best 5 (some FieldType.int) 18 [(0, .ref x0), (1, .int x1), (2, .int x2)] [] M X) (fun _ => am_none) (fun k18 hk18 q hq => match q, hq with | (x0, x1, x2, M), h_x0 => sX10_best_18 G k18 hk18 x0 x1 x2 M h_x0) n q hq
set_option maxRecDepth 100000 in
set_option maxHeartbeats 4000000 in
theorem sX10_best_0 (G : am_G) (a0 : Nat) (a1 : Int32) (M : am_M) (h_a0 : am_sh M a0 14) : am_S am_ei G 4 yX10_best.cls yX10_best.name cX10_best 5 (some FieldType.int) 0 [(0, .ref a0), (1, .int a1)] [] M (fX10_best a0 a1 M) := by
  show am_S am_ei G 4 yX10_best.cls yX10_best.name cX10_best 5 (some FieldType.int) 0 [(0, .ref a0), (1, .int a1)] [] M ((fX10_isIn a1 1 12 M).bind fun p6 => if p6.1 = 0 then some ((-1), p6.2) else (fX10_setShape a0 p6.2).bind fun M9 => am_loop (fX10_best_18) 100000 (a0, a1, 0, M9))
  refine am_iload_n 1 dX10_best_0 rfl rfl ?_
  refine am_iconst dX10_best_1 am_kc_1 ?_
  refine am_bipush (x := 12) dX10_best_2 (by decide) ?_
  refine am_callSi [.int a1, .int 1, .int 12] (CX10_isIn G a1 1 12 M) dX10_best_4 mb_yX10_isIn ⟨ml_RX10_66, sm_yX10_isIn⟩ (by decide) rfl rfl (Nat.le_of_ble_eq_true rfl) (fun v5 M2 q1 w4 l3 => ?_)
  refine am_if_ne (tgt := 12) dX10_best_7 (by decide) (fun c7 => ?_) (fun c7 => ?_)
  · refine am_aload_n 0 dX10_best_12 rfl rfl ?_
    refine am_callVv 9 [] (CX10_setShape G a0 M2 (am_sh.mono l3 h_a0)) dX10_best_13 mb_yX10_setShape ⟨ml_RX10_180, im_yX10_setShape, se_yX10_setShape⟩ rfl (am_sh.mono l3 h_a0) (by decide) rfl rfl (Nat.le_of_ble_eq_true rfl) (fun M9 q8 w11 l10 => ?_)
    refine am_iconst dX10_best_16 am_kc_0 ?_
    refine am_istore_n (L' := [(2, .int 0), (0, .ref a0), (1, .int a1)]) dX10_best_17 rfl (by decide) rfl ?_
    refine am_sub [1, 2, 0] rfl ?_
    exact lX10_best_18 G 100000 (a0, a1, 0, M9) (am_sh.mono l10 (am_sh.mono l3 h_a0))
  · refine am_iconst dX10_best_10 am_kc_m1 ?_
    exact am_iret dX10_best_11
theorem CX10_best (G : am_G) (a0 : Nat) (a1 : Int32) (M : am_M) (h_a0 : am_sh M a0 14) : am_C am_ei G 4 yX10_best cX10_best 5 (some FieldType.int) [.ref a0, .int a1] M (fX10_best a0 a1 M) :=
  am_meth (by decide) rfl (Nat.le_of_ble_eq_true rfl) (sX10_best_0 G a0 a1 M h_a0)
def fX10_spans_122 (k13 : (Nat × Int32 × Int32 × Int32 × Int32 × am_M) → Option (Int32 × am_M)) (x0 : Nat) (x1 : Int32) (x2 : Int32) (x3 : Int32) (x4 : Int32) (M : am_M) : Option (Int32 × am_M) := k13 (x0, x1, x2, x3, x4 + 1, M)
def fX10_spans_116 (k13 : (Nat × Int32 × Int32 × Int32 × Int32 × am_M) → Option (Int32 × am_M)) (x0 : Nat) (x1 : Int32) (x2 : Int32) (x4 : Int32) (s0 : Int32) (s1 : Nat) (M : am_M) : Option (Int32 × am_M) := fX10_spans_122 k13 x0 x1 x2 x4 x4 (am_pI M s1 24 s0)
def fX10_spans_99 (k13 : (Nat × Int32 × Int32 × Int32 × Int32 × am_M) → Option (Int32 × am_M)) (x0 : Nat) (x1 : Int32) (x2 : Int32) (x4 : Int32) (M : am_M) : Option (Int32 × am_M) := if x2 = x1 + 1 then fX10_spans_116 k13 x0 x1 x2 x4 x4 x0 M else fX10_spans_116 k13 x0 x1 x2 x4 (M.1 x0 24) x0 M
def fX10_spans_93 (k13 : (Nat × Int32 × Int32 × Int32 × Int32 × am_M) → Option (Int32 × am_M)) (x0 : Nat) (x1 : Int32) (x2 : Int32) (x4 : Int32) (s0 : Int32) (s1 : Nat) (M : am_M) : Option (Int32 × am_M) := fX10_spans_99 k13 x0 x1 (x2 + 1) x4 (am_pI M s1 23 s0)
def fX10_spans_78 (k13 : (Nat × Int32 × Int32 × Int32 × Int32 × am_M) → Option (Int32 × am_M)) (x0 : Nat) (x1 : Int32) (x2 : Int32) (x4 : Int32) (M : am_M) : Option (Int32 × am_M) := if x2 = x1 then fX10_spans_93 k13 x0 x1 x2 x4 x4 x0 M else fX10_spans_93 k13 x0 x1 x2 x4 (M.1 x0 23) x0 M
def fX10_spans_47 (k13 : (Nat × Int32 × Int32 × Int32 × Int32 × am_M) → Option (Int32 × am_M)) (x0 : Nat) (x1 : Int32) (x2 : Int32) (x3 : Int32) (x4 : Int32) (M : am_M) : Option (Int32 × am_M) := if x3 = (-4) then fX10_spans_78 k13 x0 x1 x2 x4 M else (M.2.2.1 x0 28).bind fun r17 => if M.1 x0 29 < 0 ∨ am_len M r17 ≤ (M.1 x0 29).toNatClampNeg then none else fX10_spans_78 k13 x0 x1 x2 x4 (am_pI (am_pI M r17 (M.1 x0 29).toNatClampNeg ((x4 - 1) - x3)) x0 29 (((am_pI M r17 (M.1 x0 29).toNatClampNeg ((x4 - 1) - x3)).1 x0 29) + 1))
def fX10_spans_13 : ((Nat × Int32 × Int32 × Int32 × Int32 × am_M) → Option (Int32 × am_M)) → (Nat × Int32 × Int32 × Int32 × Int32 × am_M) → Option (Int32 × am_M) := fun k13 q0 => match q0 with
  | (x0, x1, x2, x3, x4, M) => (fX10_cells x0 M).bind fun p6 => if p6.1 ≤ x4 then some (x2, p6.2) else (p6.2.2.2.1 x0 22).bind fun r8 => if x4 < 0 ∨ am_len p6.2 r8 ≤ x4.toNatClampNeg then none else if p6.2.1 r8 (x4.toNatClampNeg) = 1 then if x3 = (-4) then fX10_spans_47 k13 x0 x1 x2 x3 x4 p6.2 else if x4 - 1 ≤ x3 then fX10_spans_99 k13 x0 x1 x2 x4 p6.2 else fX10_spans_47 k13 x0 x1 x2 x3 x4 p6.2 else fX10_spans_122 k13 x0 x1 x2 x3 x4 p6.2
def fX10_spans (a0 : Nat) (a1 : Int32) (M : am_M) : Option (Int32 × am_M) := am_loop (fX10_spans_13) 100000 (a0, a1, 0, (-4), 0, am_pI M a0 29 0)
set_option maxRecDepth 100000 in
set_option maxHeartbeats 4000000 in
theorem sX10_spans_122 (G : am_G) (k13 : (Nat × Int32 × Int32 × Int32 × Int32 × am_M) → Option (Int32 × am_M)) (hk13 : ∀ q : (Nat × Int32 × Int32 × Int32 × Int32 × am_M), (match q with | (x0, x1, x2, x3, x4, M) => am_sh M x0 14) → match q with | (x0, x1, x2, x3, x4, M) => am_S am_ei G 1 yX10_spans.cls yX10_spans.name cX10_spans 5 (some FieldType.int) 13 [(0, .ref x0), (1, .int x1), (2, .int x2), (3, .int x3), (4, .int x4)] [] M (k13 (x0, x1, x2, x3, x4, M))) (x0 : Nat) (x1 : Int32) (x2 : Int32) (x3 : Int32) (x4 : Int32) (M : am_M) (h_x0 : am_sh M x0 14) : am_S am_ei G 1 yX10_spans.cls yX10_spans.name cX10_spans 5 (some FieldType.int) 122 [(0, .ref x0), (1, .int x1), (2, .int x2), (3, .int x3), (4, .int x4)] [] M (fX10_spans_122 k13 x0 x1 x2 x3 x4 M) := by
  show am_S am_ei G 1 yX10_spans.cls yX10_spans.name cX10_spans 5 (some FieldType.int) 122 [(0, .ref x0), (1, .int x1), (2, .int x2), (3, .int x3), (4, .int x4)] [] M (k13 (x0, x1, x2, x3, x4 + 1, M))
  refine am_iinc (L' := [(4, .int (x4 + 1)), (0, .ref x0), (1, .int x1), (2, .int x2), (3, .int x3)]) 4 dX10_spans_122 rfl (by rfl) (by decide) rfl ?_
  refine am_goto (tgt := 13) dX10_spans_125 (by decide) ?_
  refine am_sub [1, 2, 3, 4, 0] rfl ?_
  exact hk13 (x0, x1, x2, x3, x4 + 1, M) h_x0
set_option maxRecDepth 100000 in
set_option maxHeartbeats 4000000 in
theorem sX10_spans_116 (G : am_G) (k13 : (Nat × Int32 × Int32 × Int32 × Int32 × am_M) → Option (Int32 × am_M)) (hk13 : ∀ q : (Nat × Int32 × Int32 × Int32 × Int32 × am_M), (match q with | (x0, x1, x2, x3, x4, M) => am_sh M x0 14) → match q with | (x0, x1, x2, x3, x4, M) => am_S am_ei G 1 yX10_spans.cls yX10_spans.name cX10_spans 5 (some FieldType.int) 13 [(0, .ref x0), (1, .int x1), (2, .int x2), (3, .int x3), (4, .int x4)] [] M (k13 (x0, x1, x2, x3, x4, M))) (x0 : Nat) (x1 : Int32) (x2 : Int32) (x4 : Int32) (s0 : Int32) (s1 : Nat) (M : am_M) (h_x0 : am_sh M x0 14) (h_s1 : am_sh M s1 14) : am_S am_ei G 1 yX10_spans.cls yX10_spans.name cX10_spans 5 (some FieldType.int) 116 [(0, .ref x0), (1, .int x1), (2, .int x2), (4, .int x4)] [.int s0, .ref s1] M (fX10_spans_116 k13 x0 x1 x2 x4 s0 s1 M) := by
  show am_S am_ei G 1 yX10_spans.cls yX10_spans.name cX10_spans 5 (some FieldType.int) 116 [(0, .ref x0), (1, .int x1), (2, .int x2), (4, .int x4)] [.int s0, .ref s1] M (fX10_spans_122 k13 x0 x1 x2 x4 x4 (am_pI M s1 24 s0))
  refine am_putI 9 dX10_spans_116 fl_RX10_198 h_s1 rfl rfl rfl rfl ?_
  refine am_iload 3 dX10_spans_119 rfl ?_
  refine am_istore_n (L' := [(3, .int x4), (0, .ref x0), (1, .int x1), (2, .int x2), (4, .int x4)]) dX10_spans_121 rfl (by decide) rfl ?_
  refine am_sub [1, 2, 3, 0, 4] rfl ?_
  exact sX10_spans_122 G k13 hk13 x0 x1 x2 x4 x4 (am_pI M s1 24 s0) (am_sh.of h_x0 rfl)
set_option maxRecDepth 100000 in
set_option maxHeartbeats 4000000 in
theorem sX10_spans_99 (G : am_G) (k13 : (Nat × Int32 × Int32 × Int32 × Int32 × am_M) → Option (Int32 × am_M)) (hk13 : ∀ q : (Nat × Int32 × Int32 × Int32 × Int32 × am_M), (match q with | (x0, x1, x2, x3, x4, M) => am_sh M x0 14) → match q with | (x0, x1, x2, x3, x4, M) => am_S am_ei G 1 yX10_spans.cls yX10_spans.name cX10_spans 5 (some FieldType.int) 13 [(0, .ref x0), (1, .int x1), (2, .int x2), (3, .int x3), (4, .int x4)] [] M (k13 (x0, x1, x2, x3, x4, M))) (x0 : Nat) (x1 : Int32) (x2 : Int32) (x4 : Int32) (M : am_M) (h_x0 : am_sh M x0 14) : am_S am_ei G 1 yX10_spans.cls yX10_spans.name cX10_spans 5 (some FieldType.int) 99 [(0, .ref x0), (1, .int x1), (2, .int x2), (4, .int x4)] [] M (fX10_spans_99 k13 x0 x1 x2 x4 M) := by
  show am_S am_ei G 1 yX10_spans.cls yX10_spans.name cX10_spans 5 (some FieldType.int) 99 [(0, .ref x0), (1, .int x1), (2, .int x2), (4, .int x4)] [] M (if x2 = x1 + 1 then fX10_spans_116 k13 x0 x1 x2 x4 x4 x0 M else fX10_spans_116 k13 x0 x1 x2 x4 (M.1 x0 24) x0 M)
  refine am_aload_n 0 dX10_spans_99 rfl rfl ?_
  refine am_iload_n 2 dX10_spans_100 rfl rfl ?_
  refine am_iload_n 1 dX10_spans_101 rfl rfl ?_
  refine am_iconst dX10_spans_102 am_kc_1 ?_
  refine am_iadd dX10_spans_103 ?_
  refine am_icmp_ne (tgt := 112) dX10_spans_104 (by decide) (fun c16 => ?_) (fun c16 => ?_)
  · refine am_aload_n 0 dX10_spans_112 rfl rfl ?_
    refine am_getI 9 dX10_spans_113 fl_RX10_198 h_x0 rfl ?_
    exact sX10_spans_116 G k13 hk13 x0 x1 x2 x4 (M.1 x0 24) x0 M h_x0 h_x0
  · refine am_iload 3 dX10_spans_107 rfl ?_
    refine am_goto (tgt := 116) dX10_spans_109 (by decide) ?_
    exact sX10_spans_116 G k13 hk13 x0 x1 x2 x4 x4 x0 M h_x0 h_x0
set_option maxRecDepth 100000 in
set_option maxHeartbeats 4000000 in
theorem sX10_spans_93 (G : am_G) (k13 : (Nat × Int32 × Int32 × Int32 × Int32 × am_M) → Option (Int32 × am_M)) (hk13 : ∀ q : (Nat × Int32 × Int32 × Int32 × Int32 × am_M), (match q with | (x0, x1, x2, x3, x4, M) => am_sh M x0 14) → match q with | (x0, x1, x2, x3, x4, M) => am_S am_ei G 1 yX10_spans.cls yX10_spans.name cX10_spans 5 (some FieldType.int) 13 [(0, .ref x0), (1, .int x1), (2, .int x2), (3, .int x3), (4, .int x4)] [] M (k13 (x0, x1, x2, x3, x4, M))) (x0 : Nat) (x1 : Int32) (x2 : Int32) (x4 : Int32) (s0 : Int32) (s1 : Nat) (M : am_M) (h_x0 : am_sh M x0 14) (h_s1 : am_sh M s1 14) : am_S am_ei G 1 yX10_spans.cls yX10_spans.name cX10_spans 5 (some FieldType.int) 93 [(0, .ref x0), (1, .int x1), (2, .int x2), (4, .int x4)] [.int s0, .ref s1] M (fX10_spans_93 k13 x0 x1 x2 x4 s0 s1 M) := by
  show am_S am_ei G 1 yX10_spans.cls yX10_spans.name cX10_spans 5 (some FieldType.int) 93 [(0, .ref x0), (1, .int x1), (2, .int x2), (4, .int x4)] [.int s0, .ref s1] M (fX10_spans_99 k13 x0 x1 (x2 + 1) x4 (am_pI M s1 23 s0))
  refine am_putI 9 dX10_spans_93 fl_RX10_195 h_s1 rfl rfl rfl rfl ?_
  refine am_iinc (L' := [(2, .int (x2 + 1)), (0, .ref x0), (1, .int x1), (4, .int x4)]) 2 dX10_spans_96 rfl (by rfl) (by decide) rfl ?_
  refine am_sub [1, 2, 0, 3] rfl ?_
  exact sX10_spans_99 G k13 hk13 x0 x1 (x2 + 1) x4 (am_pI M s1 23 s0) (am_sh.of h_x0 rfl)
set_option maxRecDepth 100000 in
set_option maxHeartbeats 4000000 in
theorem sX10_spans_78 (G : am_G) (k13 : (Nat × Int32 × Int32 × Int32 × Int32 × am_M) → Option (Int32 × am_M)) (hk13 : ∀ q : (Nat × Int32 × Int32 × Int32 × Int32 × am_M), (match q with | (x0, x1, x2, x3, x4, M) => am_sh M x0 14) → match q with | (x0, x1, x2, x3, x4, M) => am_S am_ei G 1 yX10_spans.cls yX10_spans.name cX10_spans 5 (some FieldType.int) 13 [(0, .ref x0), (1, .int x1), (2, .int x2), (3, .int x3), (4, .int x4)] [] M (k13 (x0, x1, x2, x3, x4, M))) (x0 : Nat) (x1 : Int32) (x2 : Int32) (x4 : Int32) (M : am_M) (h_x0 : am_sh M x0 14) : am_S am_ei G 1 yX10_spans.cls yX10_spans.name cX10_spans 5 (some FieldType.int) 78 [(0, .ref x0), (1, .int x1), (2, .int x2), (4, .int x4)] [] M (fX10_spans_78 k13 x0 x1 x2 x4 M) := by
  show am_S am_ei G 1 yX10_spans.cls yX10_spans.name cX10_spans 5 (some FieldType.int) 78 [(0, .ref x0), (1, .int x1), (2, .int x2), (4, .int x4)] [] M (if x2 = x1 then fX10_spans_93 k13 x0 x1 x2 x4 x4 x0 M else fX10_spans_93 k13 x0 x1 x2 x4 (M.1 x0 23) x0 M)
  refine am_aload_n 0 dX10_spans_78 rfl rfl ?_
  refine am_iload_n 2 dX10_spans_79 rfl rfl ?_
  refine am_iload_n 1 dX10_spans_80 rfl rfl ?_
  refine am_icmp_ne (tgt := 89) dX10_spans_81 (by decide) (fun c15 => ?_) (fun c15 => ?_)
  · refine am_aload_n 0 dX10_spans_89 rfl rfl ?_
    refine am_getI 9 dX10_spans_90 fl_RX10_195 h_x0 rfl ?_
    exact sX10_spans_93 G k13 hk13 x0 x1 x2 x4 (M.1 x0 23) x0 M h_x0 h_x0
  · refine am_iload 3 dX10_spans_84 rfl ?_
    refine am_goto (tgt := 93) dX10_spans_86 (by decide) ?_
    exact sX10_spans_93 G k13 hk13 x0 x1 x2 x4 x4 x0 M h_x0 h_x0
set_option maxRecDepth 100000 in
set_option maxHeartbeats 4000000 in
theorem sX10_spans_47 (G : am_G) (k13 : (Nat × Int32 × Int32 × Int32 × Int32 × am_M) → Option (Int32 × am_M)) (hk13 : ∀ q : (Nat × Int32 × Int32 × Int32 × Int32 × am_M), (match q with | (x0, x1, x2, x3, x4, M) => am_sh M x0 14) → match q with | (x0, x1, x2, x3, x4, M) => am_S am_ei G 1 yX10_spans.cls yX10_spans.name cX10_spans 5 (some FieldType.int) 13 [(0, .ref x0), (1, .int x1), (2, .int x2), (3, .int x3), (4, .int x4)] [] M (k13 (x0, x1, x2, x3, x4, M))) (x0 : Nat) (x1 : Int32) (x2 : Int32) (x3 : Int32) (x4 : Int32) (M : am_M) (h_x0 : am_sh M x0 14) : am_S am_ei G 1 yX10_spans.cls yX10_spans.name cX10_spans 5 (some FieldType.int) 47 [(0, .ref x0), (1, .int x1), (2, .int x2), (3, .int x3), (4, .int x4)] [] M (fX10_spans_47 k13 x0 x1 x2 x3 x4 M) := by
  show am_S am_ei G 1 yX10_spans.cls yX10_spans.name cX10_spans 5 (some FieldType.int) 47 [(0, .ref x0), (1, .int x1), (2, .int x2), (3, .int x3), (4, .int x4)] [] M (if x3 = (-4) then fX10_spans_78 k13 x0 x1 x2 x4 M else (M.2.2.1 x0 28).bind fun r17 => if M.1 x0 29 < 0 ∨ am_len M r17 ≤ (M.1 x0 29).toNatClampNeg then none else fX10_spans_78 k13 x0 x1 x2 x4 (am_pI (am_pI M r17 (M.1 x0 29).toNatClampNeg ((x4 - 1) - x3)) x0 29 (((am_pI M r17 (M.1 x0 29).toNatClampNeg ((x4 - 1) - x3)).1 x0 29) + 1)))
  refine am_iload_n 3 dX10_spans_47 rfl rfl ?_
  refine am_bipush (x := -4) dX10_spans_48 (by decide) ?_
  refine am_icmp_eq (tgt := 78) dX10_spans_50 (by decide) (fun c14 => ?_) (fun c14 => ?_)
  · refine am_sub [0, 1, 2, 4] rfl ?_
    exact sX10_spans_78 G k13 hk13 x0 x1 x2 x4 M h_x0
  · refine am_aload_n 0 dX10_spans_53 rfl rfl ?_
    refine am_getR 9 dX10_spans_54 fl_RX10_59 h_x0 rfl (fun r17 e18 h19 => ?_)
    refine am_aload_n 0 dX10_spans_57 rfl rfl ?_
    refine am_getI 9 dX10_spans_58 fl_RX10_223 h_x0 rfl ?_
    refine am_iload 4 dX10_spans_61 rfl ?_
    refine am_iconst dX10_spans_63 am_kc_1 ?_
    refine am_isub dX10_spans_64 ?_
    refine am_iload_n 3 dX10_spans_65 rfl rfl ?_
    refine am_isub dX10_spans_66 ?_
    refine am_iast dX10_spans_67 h19 (fun b20 => ?_)
    refine am_aload_n 0 dX10_spans_68 rfl rfl ?_
    refine am_dup dX10_spans_69 rfl ?_
    refine am_getI 9 dX10_spans_70 fl_RX10_223 (am_sh.of h_x0 rfl) rfl ?_
    refine am_iconst dX10_spans_73 am_kc_1 ?_
    refine am_iadd dX10_spans_74 ?_
    refine am_putI 9 dX10_spans_75 fl_RX10_223 (am_sh.of h_x0 rfl) rfl rfl rfl rfl ?_
    refine am_sub [0, 1, 2, 4] rfl ?_
    exact sX10_spans_78 G k13 hk13 x0 x1 x2 x4 (am_pI (am_pI M r17 (M.1 x0 29).toNatClampNeg ((x4 - 1) - x3)) x0 29 (((am_pI M r17 (M.1 x0 29).toNatClampNeg ((x4 - 1) - x3)).1 x0 29) + 1)) (am_sh.of h_x0 rfl)
set_option maxRecDepth 100000 in
set_option maxHeartbeats 4000000 in
theorem sX10_spans_13 (G : am_G) (k13 : (Nat × Int32 × Int32 × Int32 × Int32 × am_M) → Option (Int32 × am_M)) (hk13 : ∀ q : (Nat × Int32 × Int32 × Int32 × Int32 × am_M), (match q with | (x0, x1, x2, x3, x4, M) => am_sh M x0 14) → match q with | (x0, x1, x2, x3, x4, M) => am_S am_ei G 1 yX10_spans.cls yX10_spans.name cX10_spans 5 (some FieldType.int) 13 [(0, .ref x0), (1, .int x1), (2, .int x2), (3, .int x3), (4, .int x4)] [] M (k13 (x0, x1, x2, x3, x4, M))) (x0 : Nat) (x1 : Int32) (x2 : Int32) (x3 : Int32) (x4 : Int32) (M : am_M) (h_x0 : am_sh M x0 14) : am_S am_ei G 1 yX10_spans.cls yX10_spans.name cX10_spans 5 (some FieldType.int) 13 [(0, .ref x0), (1, .int x1), (2, .int x2), (3, .int x3), (4, .int x4)] [] M (fX10_spans_13 k13 (x0, x1, x2, x3, x4, M)) := by
  show am_S am_ei G 1 yX10_spans.cls yX10_spans.name cX10_spans 5 (some FieldType.int) 13 [(0, .ref x0), (1, .int x1), (2, .int x2), (3, .int x3), (4, .int x4)] [] M ((fX10_cells x0 M).bind fun p6 => if p6.1 ≤ x4 then some (x2, p6.2) else (p6.2.2.2.1 x0 22).bind fun r8 => if x4 < 0 ∨ am_len p6.2 r8 ≤ x4.toNatClampNeg then none else if p6.2.1 r8 (x4.toNatClampNeg) = 1 then if x3 = (-4) then fX10_spans_47 k13 x0 x1 x2 x3 x4 p6.2 else if x4 - 1 ≤ x3 then fX10_spans_99 k13 x0 x1 x2 x4 p6.2 else fX10_spans_47 k13 x0 x1 x2 x3 x4 p6.2 else fX10_spans_122 k13 x0 x1 x2 x3 x4 p6.2)
  refine am_iload 4 dX10_spans_13 rfl ?_
  refine am_aload_n 0 dX10_spans_15 rfl rfl ?_
  refine am_callVi 9 [] (CX10_cells G x0 M h_x0) dX10_spans_16 mb_yX10_cells ⟨ml_RX10_157, im_yX10_cells, se_yX10_cells⟩ rfl h_x0 (by decide) rfl rfl (Nat.le_of_ble_eq_true rfl) (fun v5 M2 q1 w4 l3 => ?_)
  refine am_icmp_ge (tgt := 128) dX10_spans_19 (by decide) (fun c7 => ?_) (fun c7 => ?_)
  · refine am_iload_n 2 dX10_spans_128 rfl rfl ?_
    exact am_iret dX10_spans_129
  · refine am_aload_n 0 dX10_spans_22 rfl rfl ?_
    refine am_getR 9 dX10_spans_23 fl_RX10_47 (am_sh.mono l3 h_x0) rfl (fun r8 e9 h10 => ?_)
    refine am_iload 4 dX10_spans_26 rfl ?_
    refine am_iald dX10_spans_28 h10 (fun b11 => ?_)
    refine am_iconst dX10_spans_29 am_kc_1 ?_
    refine am_icmp_ne (tgt := 122) dX10_spans_30 (by decide) (fun c12 => ?_) (fun c12 => ?_)
    · exact sX10_spans_122 G k13 hk13 x0 x1 x2 x3 x4 M2 (am_sh.mono l3 h_x0)
    · refine am_iload_n 3 dX10_spans_33 rfl rfl ?_
      refine am_bipush (x := -4) dX10_spans_34 (by decide) ?_
      refine am_icmp_eq (tgt := 47) dX10_spans_36 (by decide) (fun c13 => ?_) (fun c13 => ?_)
      · exact sX10_spans_47 G k13 hk13 x0 x1 x2 x3 x4 M2 (am_sh.mono l3 h_x0)
      · refine am_iload_n 3 dX10_spans_39 rfl rfl ?_
        refine am_iload 4 dX10_spans_40 rfl ?_
        refine am_iconst dX10_spans_42 am_kc_1 ?_
        refine am_isub dX10_spans_43 ?_
        refine am_icmp_ge (tgt := 99) dX10_spans_44 (by decide) (fun c21 => ?_) (fun c21 => ?_)
        · refine am_sub [0, 1, 2, 4] rfl ?_
          exact sX10_spans_99 G k13 hk13 x0 x1 x2 x4 M2 (am_sh.mono l3 h_x0)
        · exact sX10_spans_47 G k13 hk13 x0 x1 x2 x3 x4 M2 (am_sh.mono l3 h_x0)
set_option maxRecDepth 100000 in
set_option maxHeartbeats 4000000 in
theorem lX10_spans_13 (G : am_G) (n : Nat) (q : (Nat × Int32 × Int32 × Int32 × Int32 × am_M)) (hq : match q with | (x0, x1, x2, x3, x4, M) => am_sh M x0 14) : match q with | (x0, x1, x2, x3, x4, M) => am_S am_ei G 1 yX10_spans.cls yX10_spans.name cX10_spans 5 (some FieldType.int) 13 [(0, .ref x0), (1, .int x1), (2, .int x2), (3, .int x3), (4, .int x4)] [] M (am_loop (fX10_spans_13) n (x0, x1, x2, x3, x4, M)) := by
  exact am_loop_ok (fun q : (Nat × Int32 × Int32 × Int32 × Int32 × am_M) => match q with | (x0, x1, x2, x3, x4, M) => am_sh M x0 14) (fun q X => match q with | (x0, x1, x2, x3, x4, M) => am_S am_ei G 1 yX10_spans.cls yX10_spans.name cX10_spans 5 (some FieldType.int) 13 [(0, .ref x0), (1, .int x1), (2, .int x2), (3, .int x3), (4, .int x4)] [] M X) (fun _ => am_none) (fun k13 hk13 q hq => match q, hq with | (x0, x1, x2, x3, x4, M), h_x0 => sX10_spans_13 G k13 hk13 x0 x1 x2 x3 x4 M h_x0) n q hq
set_option maxRecDepth 100000 in
set_option maxHeartbeats 4000000 in
theorem sX10_spans_0 (G : am_G) (a0 : Nat) (a1 : Int32) (M : am_M) (h_a0 : am_sh M a0 14) : am_S am_ei G 1 yX10_spans.cls yX10_spans.name cX10_spans 5 (some FieldType.int) 0 [(0, .ref a0), (1, .int a1)] [] M (fX10_spans a0 a1 M) := by
  show am_S am_ei G 1 yX10_spans.cls yX10_spans.name cX10_spans 5 (some FieldType.int) 0 [(0, .ref a0), (1, .int a1)] [] M (am_loop (fX10_spans_13) 100000 (a0, a1, 0, (-4), 0, am_pI M a0 29 0))
  refine am_iconst dX10_spans_0 am_kc_0 ?_
  refine am_istore_n (L' := [(2, .int 0), (0, .ref a0), (1, .int a1)]) dX10_spans_1 rfl (by decide) rfl ?_
  refine am_bipush (x := -4) dX10_spans_2 (by decide) ?_
  refine am_istore_n (L' := [(3, .int (-4)), (2, .int 0), (0, .ref a0), (1, .int a1)]) dX10_spans_4 rfl (by decide) rfl ?_
  refine am_aload_n 2 dX10_spans_5 rfl rfl ?_
  refine am_iconst dX10_spans_6 am_kc_0 ?_
  refine am_putI 9 dX10_spans_7 fl_RX10_223 h_a0 rfl rfl rfl rfl ?_
  refine am_iconst dX10_spans_10 am_kc_0 ?_
  refine am_istore (L' := [(4, .int 0), (3, .int (-4)), (2, .int 0), (0, .ref a0), (1, .int a1)]) dX10_spans_11 (by decide) rfl ?_
  refine am_sub [3, 4, 2, 1, 0] rfl ?_
  exact lX10_spans_13 G 100000 (a0, a1, 0, (-4), 0, am_pI M a0 29 0) (am_sh.of h_a0 rfl)
theorem CX10_spans (G : am_G) (a0 : Nat) (a1 : Int32) (M : am_M) (h_a0 : am_sh M a0 14) : am_C am_ei G 1 yX10_spans cX10_spans 5 (some FieldType.int) [.ref a0, .int a1] M (fX10_spans a0 a1 M) :=
  am_meth (by decide) rfl (Nat.le_of_ble_eq_true rfl) (sX10_spans_0 G a0 a1 M h_a0)
def fX10_span (a0 : Nat) (a1 : Int32) (a2 : Int32) (a3 : Int32) (M : am_M) : Option (Int32 × am_M) := (fX10_isAsked a1 a2 a3 M).bind fun p6 => if p6.1 = 0 then some ((-1), p6.2) else (fX10_setCover a0 a1 p6.2).bind fun M9 => (fX10_spans a0 a2 M9).bind fun p18 => if a2 = (-1) then some (p18.1, p18.2) else if a2 < p18.1 then if a3 = 0 then some (p18.2.1 a0 23, p18.2) else some (p18.2.1 a0 24, p18.2) else some ((-4), p18.2)
set_option maxRecDepth 100000 in
set_option maxHeartbeats 4000000 in
theorem sX10_span_0 (G : am_G) (a0 : Nat) (a1 : Int32) (a2 : Int32) (a3 : Int32) (M : am_M) (h_a0 : am_sh M a0 14) : am_S am_ei G 5 yX10_span.cls yX10_span.name cX10_span 5 (some FieldType.int) 0 [(0, .ref a0), (1, .int a1), (2, .int a2), (3, .int a3)] [] M (fX10_span a0 a1 a2 a3 M) := by
  show am_S am_ei G 5 yX10_span.cls yX10_span.name cX10_span 5 (some FieldType.int) 0 [(0, .ref a0), (1, .int a1), (2, .int a2), (3, .int a3)] [] M ((fX10_isAsked a1 a2 a3 M).bind fun p6 => if p6.1 = 0 then some ((-1), p6.2) else (fX10_setCover a0 a1 p6.2).bind fun M9 => (fX10_spans a0 a2 M9).bind fun p18 => if a2 = (-1) then some (p18.1, p18.2) else if a2 < p18.1 then if a3 = 0 then some (p18.2.1 a0 23, p18.2) else some (p18.2.1 a0 24, p18.2) else some ((-4), p18.2))
  refine am_iload_n 1 dX10_span_0 rfl rfl ?_
  refine am_iload_n 2 dX10_span_1 rfl rfl ?_
  refine am_iload_n 3 dX10_span_2 rfl rfl ?_
  refine am_callSi [.int a1, .int a2, .int a3] (CX10_isAsked G a1 a2 a3 M) dX10_span_3 mb_yX10_isAsked ⟨ml_RX10_201, sm_yX10_isAsked⟩ (by decide) rfl rfl (Nat.le_of_ble_eq_true rfl) (fun v5 M2 q1 w4 l3 => ?_)
  refine am_if_ne (tgt := 11) dX10_span_6 (by decide) (fun c7 => ?_) (fun c7 => ?_)
  · refine am_aload_n 0 dX10_span_11 rfl rfl ?_
    refine am_iload_n 1 dX10_span_12 rfl rfl ?_
    refine am_callVv 9 [.int a1] (CX10_setCover G a0 a1 M2 (am_sh.mono l3 h_a0)) dX10_span_13 mb_yX10_setCover ⟨ml_RX10_204, im_yX10_setCover, se_yX10_setCover⟩ rfl (am_sh.mono l3 h_a0) (by decide) rfl rfl (Nat.le_of_ble_eq_true rfl) (fun M9 q8 w11 l10 => ?_)
    refine am_aload_n 0 dX10_span_16 rfl rfl ?_
    refine am_iload_n 2 dX10_span_17 rfl rfl ?_
    refine am_callVi 9 [.int a2] (CX10_spans G a0 a2 M9 (am_sh.mono l10 (am_sh.mono l3 h_a0))) dX10_span_18 mb_yX10_spans ⟨ml_RX10_226, im_yX10_spans, se_yX10_spans⟩ rfl (am_sh.mono l10 (am_sh.mono l3 h_a0)) (by decide) rfl rfl (Nat.le_of_ble_eq_true rfl) (fun v17 M14 q13 w16 l15 => ?_)
    refine am_istore (L' := [(4, .int v17), (0, .ref a0), (1, .int a1), (2, .int a2), (3, .int a3)]) dX10_span_21 (by decide) rfl ?_
    refine am_iload_n 3 dX10_span_23 rfl rfl ?_
    refine am_iconst dX10_span_24 am_kc_m1 ?_
    refine am_icmp_ne (tgt := 33) dX10_span_25 (by decide) (fun c19 => ?_) (fun c19 => ?_)
    · refine am_iload_n 3 dX10_span_33 rfl rfl ?_
      refine am_iload 0 dX10_span_34 rfl ?_
      refine am_icmp_lt (tgt := 44) dX10_span_36 (by decide) (fun c20 => ?_) (fun c20 => ?_)
      · refine am_iload_n 4 dX10_span_44 rfl rfl ?_
        refine am_if_ne (tgt := 55) dX10_span_45 (by decide) (fun c21 => ?_) (fun c21 => ?_)
        · refine am_aload_n 1 dX10_span_55 rfl rfl ?_
          refine am_getI 9 dX10_span_56 fl_RX10_198 (am_sh.mono l15 (am_sh.mono l10 (am_sh.mono l3 h_a0))) rfl ?_
          exact am_iret dX10_span_59
        · refine am_aload_n 1 dX10_span_48 rfl rfl ?_
          refine am_getI 9 dX10_span_49 fl_RX10_195 (am_sh.mono l15 (am_sh.mono l10 (am_sh.mono l3 h_a0))) rfl ?_
          refine am_goto (tgt := 59) dX10_span_52 (by decide) ?_
          exact am_iret dX10_span_59
      · refine am_bipush (x := -4) dX10_span_39 (by decide) ?_
        refine am_goto (tgt := 59) dX10_span_41 (by decide) ?_
        exact am_iret dX10_span_59
    · refine am_iload 0 dX10_span_28 rfl ?_
      refine am_goto (tgt := 59) dX10_span_30 (by decide) ?_
      exact am_iret dX10_span_59
  · refine am_iconst dX10_span_9 am_kc_m1 ?_
    exact am_iret dX10_span_10
theorem CX10_span (G : am_G) (a0 : Nat) (a1 : Int32) (a2 : Int32) (a3 : Int32) (M : am_M) (h_a0 : am_sh M a0 14) : am_C am_ei G 5 yX10_span cX10_span 5 (some FieldType.int) [.ref a0, .int a1, .int a2, .int a3] M (fX10_span a0 a1 a2 a3 M) :=
  am_meth (by decide) rfl (Nat.le_of_ble_eq_true rfl) (sX10_span_0 G a0 a1 a2 a3 M h_a0)
def fX10_joined_98 (k41 : (Nat × Int32 × Int32 × Int32 × am_M) → Option (Int32 × am_M)) (x0 : Nat) (x3 : Int32) (x4 : Int32) (x5 : Int32) (M : am_M) : Option (Int32 × am_M) := k41 (x0, x3, x4, x5 + 1, M)
def fX10_joined_92 (k41 : (Nat × Int32 × Int32 × Int32 × am_M) → Option (Int32 × am_M)) (k57 : (Nat × Int32 × Int32 × Int32 × Int32 × am_M) → Option (Int32 × am_M)) (x0 : Nat) (x3 : Int32) (x4 : Int32) (x5 : Int32) (x6 : Int32) (M : am_M) : Option (Int32 × am_M) := k57 (x0, x3, x4, x5, x6 + 1, M)
def fX10_joined_57 (k41 : (Nat × Int32 × Int32 × Int32 × am_M) → Option (Int32 × am_M)) : ((Nat × Int32 × Int32 × Int32 × Int32 × am_M) → Option (Int32 × am_M)) → (Nat × Int32 × Int32 × Int32 × Int32 × am_M) → Option (Int32 × am_M) := fun k57 q0 => match q0 with
  | (x0, x3, x4, x5, x6, M) => if M.1 x0 29 ≤ x6 then fX10_joined_98 k41 x0 x3 x4 x5 M else if x3 ≤ 0 then fX10_joined_98 k41 x0 x3 x4 x5 M else (M.2.2.1 x0 28).bind fun r36 => if x6 < 0 ∨ am_len M r36 ≤ x6.toNatClampNeg then none else if M.1 r36 (x6.toNatClampNeg) = x5 then fX10_joined_92 k41 k57 x0 (x3 + (-1)) (x4 + x5) x5 x6 M else fX10_joined_92 k41 k57 x0 x3 x4 x5 x6 M
def fX10_joined_41 : ((Nat × Int32 × Int32 × Int32 × am_M) → Option (Int32 × am_M)) → (Nat × Int32 × Int32 × Int32 × am_M) → Option (Int32 × am_M) := fun k41 q0 => match q0 with
  | (x0, x3, x4, x5, M) => (fX10_cells x0 M).bind fun p31 => if p31.1 ≤ x5 then some (x4, p31.2) else if x3 ≤ 0 then some (x4, p31.2) else am_loop (fX10_joined_57 k41) 100000 (x0, x3, x4, x5, 0, p31.2)
def fX10_joined (a0 : Nat) (a1 : Int32) (a2 : Int32) (M : am_M) : Option (Int32 × am_M) := (fX10_isIn a1 0 1 M).bind fun p6 => if p6.1 = 0 then some ((-1), p6.2) else (fX10_isIn a2 1 99 p6.2).bind fun p13 => if p13.1 = 0 then some ((-1), p13.2) else (fX10_setCover a0 a1 p13.2).bind fun M16 => (fX10_spans a0 (-4) M16).bind fun p25 => am_loop (fX10_joined_41) 100000 (a0, p25.1 - a2, 0, 1, p25.2)
set_option maxRecDepth 100000 in
set_option maxHeartbeats 4000000 in
theorem sX10_joined_98 (G : am_G) (k41 : (Nat × Int32 × Int32 × Int32 × am_M) → Option (Int32 × am_M)) (hk41 : ∀ q : (Nat × Int32 × Int32 × Int32 × am_M), (match q with | (x0, x3, x4, x5, M) => am_sh M x0 14) → match q with | (x0, x3, x4, x5, M) => am_S am_ei G 5 yX10_joined.cls yX10_joined.name cX10_joined 7 (some FieldType.int) 41 [(0, .ref x0), (3, .int x3), (4, .int x4), (5, .int x5)] [] M (k41 (x0, x3, x4, x5, M))) (x0 : Nat) (x3 : Int32) (x4 : Int32) (x5 : Int32) (M : am_M) (h_x0 : am_sh M x0 14) : am_S am_ei G 5 yX10_joined.cls yX10_joined.name cX10_joined 7 (some FieldType.int) 98 [(0, .ref x0), (3, .int x3), (4, .int x4), (5, .int x5)] [] M (fX10_joined_98 k41 x0 x3 x4 x5 M) := by
  show am_S am_ei G 5 yX10_joined.cls yX10_joined.name cX10_joined 7 (some FieldType.int) 98 [(0, .ref x0), (3, .int x3), (4, .int x4), (5, .int x5)] [] M (k41 (x0, x3, x4, x5 + 1, M))
  refine am_iinc (L' := [(5, .int (x5 + 1)), (0, .ref x0), (3, .int x3), (4, .int x4)]) 3 dX10_joined_98 rfl (by rfl) (by decide) rfl ?_
  refine am_goto (tgt := 41) dX10_joined_101 (by decide) ?_
  refine am_sub [1, 2, 3, 0] rfl ?_
  exact hk41 (x0, x3, x4, x5 + 1, M) h_x0
set_option maxRecDepth 100000 in
set_option maxHeartbeats 4000000 in
theorem sX10_joined_92 (G : am_G) (k41 : (Nat × Int32 × Int32 × Int32 × am_M) → Option (Int32 × am_M)) (hk41 : ∀ q : (Nat × Int32 × Int32 × Int32 × am_M), (match q with | (x0, x3, x4, x5, M) => am_sh M x0 14) → match q with | (x0, x3, x4, x5, M) => am_S am_ei G 5 yX10_joined.cls yX10_joined.name cX10_joined 7 (some FieldType.int) 41 [(0, .ref x0), (3, .int x3), (4, .int x4), (5, .int x5)] [] M (k41 (x0, x3, x4, x5, M))) (k57 : (Nat × Int32 × Int32 × Int32 × Int32 × am_M) → Option (Int32 × am_M)) (hk57 : ∀ q : (Nat × Int32 × Int32 × Int32 × Int32 × am_M), (match q with | (x0, x3, x4, x5, x6, M) => am_sh M x0 14) → match q with | (x0, x3, x4, x5, x6, M) => am_S am_ei G 5 yX10_joined.cls yX10_joined.name cX10_joined 7 (some FieldType.int) 57 [(0, .ref x0), (3, .int x3), (4, .int x4), (5, .int x5), (6, .int x6)] [] M (k57 (x0, x3, x4, x5, x6, M))) (x0 : Nat) (x3 : Int32) (x4 : Int32) (x5 : Int32) (x6 : Int32) (M : am_M) (h_x0 : am_sh M x0 14) : am_S am_ei G 5 yX10_joined.cls yX10_joined.name cX10_joined 7 (some FieldType.int) 92 [(0, .ref x0), (3, .int x3), (4, .int x4), (5, .int x5), (6, .int x6)] [] M (fX10_joined_92 k41 k57 x0 x3 x4 x5 x6 M) := by
  show am_S am_ei G 5 yX10_joined.cls yX10_joined.name cX10_joined 7 (some FieldType.int) 92 [(0, .ref x0), (3, .int x3), (4, .int x4), (5, .int x5), (6, .int x6)] [] M (k57 (x0, x3, x4, x5, x6 + 1, M))
  refine am_iinc (L' := [(6, .int (x6 + 1)), (0, .ref x0), (3, .int x3), (4, .int x4), (5, .int x5)]) 4 dX10_joined_92 rfl (by rfl) (by decide) rfl ?_
  refine am_goto (tgt := 57) dX10_joined_95 (by decide) ?_
  refine am_sub [1, 2, 3, 4, 0] rfl ?_
  exact hk57 (x0, x3, x4, x5, x6 + 1, M) h_x0
set_option maxRecDepth 100000 in
set_option maxHeartbeats 4000000 in
theorem sX10_joined_57 (G : am_G) (k41 : (Nat × Int32 × Int32 × Int32 × am_M) → Option (Int32 × am_M)) (hk41 : ∀ q : (Nat × Int32 × Int32 × Int32 × am_M), (match q with | (x0, x3, x4, x5, M) => am_sh M x0 14) → match q with | (x0, x3, x4, x5, M) => am_S am_ei G 5 yX10_joined.cls yX10_joined.name cX10_joined 7 (some FieldType.int) 41 [(0, .ref x0), (3, .int x3), (4, .int x4), (5, .int x5)] [] M (k41 (x0, x3, x4, x5, M))) (k57 : (Nat × Int32 × Int32 × Int32 × Int32 × am_M) → Option (Int32 × am_M)) (hk57 : ∀ q : (Nat × Int32 × Int32 × Int32 × Int32 × am_M), (match q with | (x0, x3, x4, x5, x6, M) => am_sh M x0 14) → match q with | (x0, x3, x4, x5, x6, M) => am_S am_ei G 5 yX10_joined.cls yX10_joined.name cX10_joined 7 (some FieldType.int) 57 [(0, .ref x0), (3, .int x3), (4, .int x4), (5, .int x5), (6, .int x6)] [] M (k57 (x0, x3, x4, x5, x6, M))) (x0 : Nat) (x3 : Int32) (x4 : Int32) (x5 : Int32) (x6 : Int32) (M : am_M) (h_x0 : am_sh M x0 14) : am_S am_ei G 5 yX10_joined.cls yX10_joined.name cX10_joined 7 (some FieldType.int) 57 [(0, .ref x0), (3, .int x3), (4, .int x4), (5, .int x5), (6, .int x6)] [] M (fX10_joined_57 k41 k57 (x0, x3, x4, x5, x6, M)) := by
  show am_S am_ei G 5 yX10_joined.cls yX10_joined.name cX10_joined 7 (some FieldType.int) 57 [(0, .ref x0), (3, .int x3), (4, .int x4), (5, .int x5), (6, .int x6)] [] M (if M.1 x0 29 ≤ x6 then fX10_joined_98 k41 x0 x3 x4 x5 M else if x3 ≤ 0 then fX10_joined_98 k41 x0 x3 x4 x5 M else (M.2.2.1 x0 28).bind fun r36 => if x6 < 0 ∨ am_len M r36 ≤ x6.toNatClampNeg then none else if M.1 r36 (x6.toNatClampNeg) = x5 then fX10_joined_92 k41 k57 x0 (x3 + (-1)) (x4 + x5) x5 x6 M else fX10_joined_92 k41 k57 x0 x3 x4 x5 x6 M)
  refine am_iload 4 dX10_joined_57 rfl ?_
  refine am_aload_n 0 dX10_joined_59 rfl rfl ?_
  refine am_getI 9 dX10_joined_60 fl_RX10_223 h_x0 rfl ?_
  refine am_icmp_ge (tgt := 98) dX10_joined_63 (by decide) (fun c34 => ?_) (fun c34 => ?_)
  · refine am_sub [0, 1, 2, 3] rfl ?_
    exact sX10_joined_98 G k41 hk41 x0 x3 x4 x5 M h_x0
  · refine am_iload_n 1 dX10_joined_66 rfl rfl ?_
    refine am_if_le (tgt := 98) dX10_joined_67 (by decide) (fun c35 => ?_) (fun c35 => ?_)
    · refine am_sub [0, 1, 2, 3] rfl ?_
      exact sX10_joined_98 G k41 hk41 x0 x3 x4 x5 M h_x0
    · refine am_aload_n 0 dX10_joined_70 rfl rfl ?_
      refine am_getR 9 dX10_joined_71 fl_RX10_59 h_x0 rfl (fun r36 e37 h38 => ?_)
      refine am_iload 4 dX10_joined_74 rfl ?_
      refine am_iald dX10_joined_76 h38 (fun b39 => ?_)
      refine am_iload 3 dX10_joined_77 rfl ?_
      refine am_icmp_ne (tgt := 92) dX10_joined_79 (by decide) (fun c40 => ?_) (fun c40 => ?_)
      · exact sX10_joined_92 G k41 hk41 k57 hk57 x0 x3 x4 x5 x6 M h_x0
      · refine am_iload 2 dX10_joined_82 rfl ?_
        refine am_iload 3 dX10_joined_84 rfl ?_
        refine am_iadd dX10_joined_86 ?_
        refine am_istore (L' := [(4, .int (x4 + x5)), (0, .ref x0), (3, .int x3), (5, .int x5), (6, .int x6)]) dX10_joined_87 (by decide) rfl ?_
        refine am_iinc (L' := [(3, .int (x3 + (-1))), (4, .int (x4 + x5)), (0, .ref x0), (5, .int x5), (6, .int x6)]) 2 dX10_joined_89 rfl (by rfl) (by decide) rfl ?_
        refine am_sub [2, 0, 1, 3, 4] rfl ?_
        exact sX10_joined_92 G k41 hk41 k57 hk57 x0 (x3 + (-1)) (x4 + x5) x5 x6 M h_x0
set_option maxRecDepth 100000 in
set_option maxHeartbeats 4000000 in
theorem lX10_joined_57 (G : am_G) (k41 : (Nat × Int32 × Int32 × Int32 × am_M) → Option (Int32 × am_M)) (hk41 : ∀ q : (Nat × Int32 × Int32 × Int32 × am_M), (match q with | (x0, x3, x4, x5, M) => am_sh M x0 14) → match q with | (x0, x3, x4, x5, M) => am_S am_ei G 5 yX10_joined.cls yX10_joined.name cX10_joined 7 (some FieldType.int) 41 [(0, .ref x0), (3, .int x3), (4, .int x4), (5, .int x5)] [] M (k41 (x0, x3, x4, x5, M))) (n : Nat) (q : (Nat × Int32 × Int32 × Int32 × Int32 × am_M)) (hq : match q with | (x0, x3, x4, x5, x6, M) => am_sh M x0 14) : match q with | (x0, x3, x4, x5, x6, M) => am_S am_ei G 5 yX10_joined.cls yX10_joined.name cX10_joined 7 (some FieldType.int) 57 [(0, .ref x0), (3, .int x3), (4, .int x4), (5, .int x5), (6, .int x6)] [] M (am_loop (fX10_joined_57 k41) n (x0, x3, x4, x5, x6, M)) := by
  exact am_loop_ok (fun q : (Nat × Int32 × Int32 × Int32 × Int32 × am_M) => match q with | (x0, x3, x4, x5, x6, M) => am_sh M x0 14) (fun q X => match q with | (x0, x3, x4, x5, x6, M) => am_S am_ei G 5 yX10_joined.cls yX10_joined.name cX10_joined 7 (some FieldType.int) 57 [(0, .ref x0), (3, .int x3), (4, .int x4), (5, .int x5), (6, .int x6)] [] M X) (fun _ => am_none) (fun k57 hk57 q hq => match q, hq with | (x0, x3, x4, x5, x6, M), h_x0 => sX10_joined_57 G k41 hk41 k57 hk57 x0 x3 x4 x5 x6 M h_x0) n q hq
set_option maxRecDepth 100000 in
set_option maxHeartbeats 4000000 in
theorem sX10_joined_41 (G : am_G) (k41 : (Nat × Int32 × Int32 × Int32 × am_M) → Option (Int32 × am_M)) (hk41 : ∀ q : (Nat × Int32 × Int32 × Int32 × am_M), (match q with | (x0, x3, x4, x5, M) => am_sh M x0 14) → match q with | (x0, x3, x4, x5, M) => am_S am_ei G 5 yX10_joined.cls yX10_joined.name cX10_joined 7 (some FieldType.int) 41 [(0, .ref x0), (3, .int x3), (4, .int x4), (5, .int x5)] [] M (k41 (x0, x3, x4, x5, M))) (x0 : Nat) (x3 : Int32) (x4 : Int32) (x5 : Int32) (M : am_M) (h_x0 : am_sh M x0 14) : am_S am_ei G 5 yX10_joined.cls yX10_joined.name cX10_joined 7 (some FieldType.int) 41 [(0, .ref x0), (3, .int x3), (4, .int x4), (5, .int x5)] [] M (fX10_joined_41 k41 (x0, x3, x4, x5, M)) := by
  show am_S am_ei G 5 yX10_joined.cls yX10_joined.name cX10_joined 7 (some FieldType.int) 41 [(0, .ref x0), (3, .int x3), (4, .int x4), (5, .int x5)] [] M ((fX10_cells x0 M).bind fun p31 => if p31.1 ≤ x5 then some (x4, p31.2) else if x3 ≤ 0 then some (x4, p31.2) else am_loop (fX10_joined_57 k41) 100000 (x0, x3, x4, x5, 0, p31.2))
  refine am_iload 3 dX10_joined_41 rfl ?_
  refine am_aload_n 0 dX10_joined_43 rfl rfl ?_
  refine am_callVi 9 [] (CX10_cells G x0 M h_x0) dX10_joined_44 mb_yX10_cells ⟨ml_RX10_157, im_yX10_cells, se_yX10_cells⟩ rfl h_x0 (by decide) rfl rfl (Nat.le_of_ble_eq_true rfl) (fun v30 M27 q26 w29 l28 => ?_)
  refine am_icmp_ge (tgt := 104) dX10_joined_47 (by decide) (fun c32 => ?_) (fun c32 => ?_)
  · refine am_iload 2 dX10_joined_104 rfl ?_
    exact am_iret dX10_joined_106
  · refine am_iload_n 1 dX10_joined_50 rfl rfl ?_
    refine am_if_le (tgt := 104) dX10_joined_51 (by decide) (fun c33 => ?_) (fun c33 => ?_)
    · refine am_iload 2 dX10_joined_104 rfl ?_
      exact am_iret dX10_joined_106
    · refine am_iconst dX10_joined_54 am_kc_0 ?_
      refine am_istore (L' := [(6, .int 0), (0, .ref x0), (3, .int x3), (4, .int x4), (5, .int x5)]) dX10_joined_55 (by decide) rfl ?_
      refine am_sub [1, 2, 3, 4, 0] rfl ?_
      exact lX10_joined_57 G k41 hk41 100000 (x0, x3, x4, x5, 0, M27) (am_sh.mono l28 h_x0)
set_option maxRecDepth 100000 in
set_option maxHeartbeats 4000000 in
theorem lX10_joined_41 (G : am_G) (n : Nat) (q : (Nat × Int32 × Int32 × Int32 × am_M)) (hq : match q with | (x0, x3, x4, x5, M) => am_sh M x0 14) : match q with | (x0, x3, x4, x5, M) => am_S am_ei G 5 yX10_joined.cls yX10_joined.name cX10_joined 7 (some FieldType.int) 41 [(0, .ref x0), (3, .int x3), (4, .int x4), (5, .int x5)] [] M (am_loop (fX10_joined_41) n (x0, x3, x4, x5, M)) := by
  exact am_loop_ok (fun q : (Nat × Int32 × Int32 × Int32 × am_M) => match q with | (x0, x3, x4, x5, M) => am_sh M x0 14) (fun q X => match q with | (x0, x3, x4, x5, M) => am_S am_ei G 5 yX10_joined.cls yX10_joined.name cX10_joined 7 (some FieldType.int) 41 [(0, .ref x0), (3, .int x3), (4, .int x4), (5, .int x5)] [] M X) (fun _ => am_none) (fun k41 hk41 q hq => match q, hq with | (x0, x3, x4, x5, M), h_x0 => sX10_joined_41 G k41 hk41 x0 x3 x4 x5 M h_x0) n q hq
set_option maxRecDepth 100000 in
set_option maxHeartbeats 4000000 in
theorem sX10_joined_0 (G : am_G) (a0 : Nat) (a1 : Int32) (a2 : Int32) (M : am_M) (h_a0 : am_sh M a0 14) : am_S am_ei G 5 yX10_joined.cls yX10_joined.name cX10_joined 7 (some FieldType.int) 0 [(0, .ref a0), (1, .int a1), (2, .int a2)] [] M (fX10_joined a0 a1 a2 M) := by
  show am_S am_ei G 5 yX10_joined.cls yX10_joined.name cX10_joined 7 (some FieldType.int) 0 [(0, .ref a0), (1, .int a1), (2, .int a2)] [] M ((fX10_isIn a1 0 1 M).bind fun p6 => if p6.1 = 0 then some ((-1), p6.2) else (fX10_isIn a2 1 99 p6.2).bind fun p13 => if p13.1 = 0 then some ((-1), p13.2) else (fX10_setCover a0 a1 p13.2).bind fun M16 => (fX10_spans a0 (-4) M16).bind fun p25 => am_loop (fX10_joined_41) 100000 (a0, p25.1 - a2, 0, 1, p25.2))
  refine am_iload_n 1 dX10_joined_0 rfl rfl ?_
  refine am_iconst dX10_joined_1 am_kc_0 ?_
  refine am_iconst dX10_joined_2 am_kc_1 ?_
  refine am_callSi [.int a1, .int 0, .int 1] (CX10_isIn G a1 0 1 M) dX10_joined_3 mb_yX10_isIn ⟨ml_RX10_66, sm_yX10_isIn⟩ (by decide) rfl rfl (Nat.le_of_ble_eq_true rfl) (fun v5 M2 q1 w4 l3 => ?_)
  refine am_if_eq (tgt := 19) dX10_joined_6 (by decide) (fun c7 => ?_) (fun c7 => ?_)
  · refine am_iconst dX10_joined_19 am_kc_m1 ?_
    exact am_iret dX10_joined_20
  · refine am_iload_n 2 dX10_joined_9 rfl rfl ?_
    refine am_iconst dX10_joined_10 am_kc_1 ?_
    refine am_bipush (x := 99) dX10_joined_11 (by decide) ?_
    refine am_callSi [.int a2, .int 1, .int 99] (CX10_isIn G a2 1 99 M2) dX10_joined_13 mb_yX10_isIn ⟨ml_RX10_66, sm_yX10_isIn⟩ (by decide) rfl rfl (Nat.le_of_ble_eq_true rfl) (fun v12 M9 q8 w11 l10 => ?_)
    refine am_if_ne (tgt := 21) dX10_joined_16 (by decide) (fun c14 => ?_) (fun c14 => ?_)
    · refine am_aload_n 0 dX10_joined_21 rfl rfl ?_
      refine am_iload_n 1 dX10_joined_22 rfl rfl ?_
      refine am_callVv 9 [.int a1] (CX10_setCover G a0 a1 M9 (am_sh.mono l10 (am_sh.mono l3 h_a0))) dX10_joined_23 mb_yX10_setCover ⟨ml_RX10_204, im_yX10_setCover, se_yX10_setCover⟩ rfl (am_sh.mono l10 (am_sh.mono l3 h_a0)) (by decide) rfl rfl (Nat.le_of_ble_eq_true rfl) (fun M16 q15 w18 l17 => ?_)
      refine am_aload_n 0 dX10_joined_26 rfl rfl ?_
      refine am_bipush (x := -4) dX10_joined_27 (by decide) ?_
      refine am_callVi 9 [.int (-4)] (CX10_spans G a0 (-4) M16 (am_sh.mono l17 (am_sh.mono l10 (am_sh.mono l3 h_a0)))) dX10_joined_29 mb_yX10_spans ⟨ml_RX10_226, im_yX10_spans, se_yX10_spans⟩ rfl (am_sh.mono l17 (am_sh.mono l10 (am_sh.mono l3 h_a0))) (by decide) rfl rfl (Nat.le_of_ble_eq_true rfl) (fun v24 M21 q20 w23 l22 => ?_)
      refine am_iload_n 2 dX10_joined_32 rfl rfl ?_
      refine am_isub dX10_joined_33 ?_
      refine am_istore_n (L' := [(3, .int (v24 - a2)), (0, .ref a0), (1, .int a1), (2, .int a2)]) dX10_joined_34 rfl (by decide) rfl ?_
      refine am_iconst dX10_joined_35 am_kc_0 ?_
      refine am_istore (L' := [(4, .int 0), (3, .int (v24 - a2)), (0, .ref a0), (1, .int a1), (2, .int a2)]) dX10_joined_36 (by decide) rfl ?_
      refine am_iconst dX10_joined_38 am_kc_1 ?_
      refine am_istore (L' := [(5, .int 1), (4, .int 0), (3, .int (v24 - a2)), (0, .ref a0), (1, .int a1), (2, .int a2)]) dX10_joined_39 (by decide) rfl ?_
      refine am_sub [3, 2, 1, 0] rfl ?_
      exact lX10_joined_41 G 100000 (a0, v24 - a2, 0, 1, M21) (am_sh.mono l22 (am_sh.mono l17 (am_sh.mono l10 (am_sh.mono l3 h_a0))))
    · refine am_iconst dX10_joined_19 am_kc_m1 ?_
      exact am_iret dX10_joined_20
theorem CX10_joined (G : am_G) (a0 : Nat) (a1 : Int32) (a2 : Int32) (M : am_M) (h_a0 : am_sh M a0 14) : am_C am_ei G 5 yX10_joined cX10_joined 7 (some FieldType.int) [.ref a0, .int a1, .int a2] M (fX10_joined a0 a1 a2 M) :=
  am_meth (by decide) rfl (Nat.le_of_ble_eq_true rfl) (sX10_joined_0 G a0 a1 a2 M h_a0)
def fX10_isPoint (a0 : Nat) (a1 : Int32) (M : am_M) : Option (Int32 × am_M) := (fX10_isIn a1 0 ((M.1 a0 6) - 1) M).bind fun p6 => some (p6.1 &&& 1, p6.2)
set_option maxRecDepth 100000 in
set_option maxHeartbeats 4000000 in
theorem sX10_isPoint_0 (G : am_G) (a0 : Nat) (a1 : Int32) (M : am_M) (h_a0 : am_sh M a0 14) : am_S am_ei G 1 yX10_isPoint.cls yX10_isPoint.name cX10_isPoint 2 (some FieldType.boolean) 0 [(0, .ref a0), (1, .int a1)] [] M (fX10_isPoint a0 a1 M) := by
  show am_S am_ei G 1 yX10_isPoint.cls yX10_isPoint.name cX10_isPoint 2 (some FieldType.boolean) 0 [(0, .ref a0), (1, .int a1)] [] M ((fX10_isIn a1 0 ((M.1 a0 6) - 1) M).bind fun p6 => some (p6.1 &&& 1, p6.2))
  refine am_iload_n 1 dX10_isPoint_0 rfl rfl ?_
  refine am_iconst dX10_isPoint_1 am_kc_0 ?_
  refine am_aload_n 0 dX10_isPoint_2 rfl rfl ?_
  refine am_getI 9 dX10_isPoint_3 fl_RX10_26 h_a0 rfl ?_
  refine am_iconst dX10_isPoint_6 am_kc_1 ?_
  refine am_isub dX10_isPoint_7 ?_
  refine am_callSi [.int a1, .int 0, .int ((M.1 a0 6) - 1)] (CX10_isIn G a1 0 ((M.1 a0 6) - 1) M) dX10_isPoint_8 mb_yX10_isIn ⟨ml_RX10_66, sm_yX10_isIn⟩ (by decide) rfl rfl (Nat.le_of_ble_eq_true rfl) (fun v5 M2 q1 w4 l3 => ?_)
  exact am_zret dX10_isPoint_11
theorem CX10_isPoint (G : am_G) (a0 : Nat) (a1 : Int32) (M : am_M) (h_a0 : am_sh M a0 14) : am_C am_ei G 1 yX10_isPoint cX10_isPoint 2 (some FieldType.boolean) [.ref a0, .int a1] M (fX10_isPoint a0 a1 M) :=
  am_meth (by decide) rfl (Nat.le_of_ble_eq_true rfl) (sX10_isPoint_0 G a0 a1 M h_a0)
def fX10_placeOf_75 (k22 : (Nat × Int32 × Int32 × Int32 × Int32 × am_M) → Option (Int32 × am_M)) (x0 : Nat) (x1 : Int32) (x2 : Int32) (x4 : Int32) (s0 : Int32) (s1 : Int32) (M : am_M) : Option (Int32 × am_M) := k22 (x0, x1, x2, s1 + s0, x4 + 1, M)
def fX10_placeOf_70 (k22 : (Nat × Int32 × Int32 × Int32 × Int32 × am_M) → Option (Int32 × am_M)) (x0 : Nat) (x1 : Int32) (x2 : Int32) (x4 : Int32) (s0 : Int32) (M : am_M) : Option (Int32 × am_M) := fX10_placeOf_75 k22 x0 x1 x2 x4 1 s0 M
def fX10_placeOf_74 (k22 : (Nat × Int32 × Int32 × Int32 × Int32 × am_M) → Option (Int32 × am_M)) (x0 : Nat) (x1 : Int32) (x2 : Int32) (x4 : Int32) (s0 : Int32) (M : am_M) : Option (Int32 × am_M) := fX10_placeOf_75 k22 x0 x1 x2 x4 0 s0 M
def fX10_placeOf_22 : ((Nat × Int32 × Int32 × Int32 × Int32 × am_M) → Option (Int32 × am_M)) → (Nat × Int32 × Int32 × Int32 × Int32 × am_M) → Option (Int32 × am_M) := fun k22 q0 => match q0 with
  | (x0, x1, x2, x3, x4, M) => if M.1 x0 6 ≤ x4 then some (x3, M) else (M.2.2.1 x0 7).bind fun r16 => if x4 < 0 ∨ am_len M r16 ≤ x4.toNatClampNeg then none else (M.2.2.1 x0 8).bind fun r20 => if x4 < 0 ∨ am_len M r20 ≤ x4.toNatClampNeg then none else (fX10_keyOf x0 (M.1 r16 (x4.toNatClampNeg)) (M.1 r20 (x4.toNatClampNeg)) M).bind fun p29 => if p29.1 < x2 then fX10_placeOf_70 k22 x0 x1 x2 x4 x3 p29.2 else if p29.1 = x2 then if x1 ≤ x4 then fX10_placeOf_74 k22 x0 x1 x2 x4 x3 p29.2 else fX10_placeOf_70 k22 x0 x1 x2 x4 x3 p29.2 else fX10_placeOf_74 k22 x0 x1 x2 x4 x3 p29.2
def fX10_placeOf (a0 : Nat) (a1 : Int32) (M : am_M) : Option (Int32 × am_M) := (M.2.2.1 a0 7).bind fun r1 => if a1 < 0 ∨ am_len M r1 ≤ a1.toNatClampNeg then none else (M.2.2.1 a0 8).bind fun r5 => if a1 < 0 ∨ am_len M r5 ≤ a1.toNatClampNeg then none else (fX10_keyOf a0 (M.1 r1 (a1.toNatClampNeg)) (M.1 r5 (a1.toNatClampNeg)) M).bind fun p14 => am_loop (fX10_placeOf_22) 100000 (a0, a1, p14.1, 0, 0, p14.2)
set_option maxRecDepth 100000 in
set_option maxHeartbeats 4000000 in
theorem sX10_placeOf_75 (G : am_G) (k22 : (Nat × Int32 × Int32 × Int32 × Int32 × am_M) → Option (Int32 × am_M)) (hk22 : ∀ q : (Nat × Int32 × Int32 × Int32 × Int32 × am_M), (match q with | (x0, x1, x2, x3, x4, M) => am_sh M x0 14) → match q with | (x0, x1, x2, x3, x4, M) => am_S am_ei G 2 yX10_placeOf.cls yX10_placeOf.name cX10_placeOf 6 (some FieldType.int) 22 [(0, .ref x0), (1, .int x1), (2, .int x2), (3, .int x3), (4, .int x4)] [] M (k22 (x0, x1, x2, x3, x4, M))) (x0 : Nat) (x1 : Int32) (x2 : Int32) (x4 : Int32) (s0 : Int32) (s1 : Int32) (M : am_M) (h_x0 : am_sh M x0 14) : am_S am_ei G 2 yX10_placeOf.cls yX10_placeOf.name cX10_placeOf 6 (some FieldType.int) 75 [(0, .ref x0), (1, .int x1), (2, .int x2), (4, .int x4)] [.int s0, .int s1] M (fX10_placeOf_75 k22 x0 x1 x2 x4 s0 s1 M) := by
  show am_S am_ei G 2 yX10_placeOf.cls yX10_placeOf.name cX10_placeOf 6 (some FieldType.int) 75 [(0, .ref x0), (1, .int x1), (2, .int x2), (4, .int x4)] [.int s0, .int s1] M (k22 (x0, x1, x2, s1 + s0, x4 + 1, M))
  refine am_iadd dX10_placeOf_75 ?_
  refine am_istore_n (L' := [(3, .int (s1 + s0)), (0, .ref x0), (1, .int x1), (2, .int x2), (4, .int x4)]) dX10_placeOf_76 rfl (by decide) rfl ?_
  refine am_iinc (L' := [(4, .int (x4 + 1)), (3, .int (s1 + s0)), (0, .ref x0), (1, .int x1), (2, .int x2)]) 4 dX10_placeOf_77 rfl (by rfl) (by decide) rfl ?_
  refine am_goto (tgt := 22) dX10_placeOf_80 (by decide) ?_
  refine am_sub [2, 3, 4, 1, 0] rfl ?_
  exact hk22 (x0, x1, x2, s1 + s0, x4 + 1, M) h_x0
set_option maxRecDepth 100000 in
set_option maxHeartbeats 4000000 in
theorem sX10_placeOf_70 (G : am_G) (k22 : (Nat × Int32 × Int32 × Int32 × Int32 × am_M) → Option (Int32 × am_M)) (hk22 : ∀ q : (Nat × Int32 × Int32 × Int32 × Int32 × am_M), (match q with | (x0, x1, x2, x3, x4, M) => am_sh M x0 14) → match q with | (x0, x1, x2, x3, x4, M) => am_S am_ei G 2 yX10_placeOf.cls yX10_placeOf.name cX10_placeOf 6 (some FieldType.int) 22 [(0, .ref x0), (1, .int x1), (2, .int x2), (3, .int x3), (4, .int x4)] [] M (k22 (x0, x1, x2, x3, x4, M))) (x0 : Nat) (x1 : Int32) (x2 : Int32) (x4 : Int32) (s0 : Int32) (M : am_M) (h_x0 : am_sh M x0 14) : am_S am_ei G 2 yX10_placeOf.cls yX10_placeOf.name cX10_placeOf 6 (some FieldType.int) 70 [(0, .ref x0), (1, .int x1), (2, .int x2), (4, .int x4)] [.int s0] M (fX10_placeOf_70 k22 x0 x1 x2 x4 s0 M) := by
  show am_S am_ei G 2 yX10_placeOf.cls yX10_placeOf.name cX10_placeOf 6 (some FieldType.int) 70 [(0, .ref x0), (1, .int x1), (2, .int x2), (4, .int x4)] [.int s0] M (fX10_placeOf_75 k22 x0 x1 x2 x4 1 s0 M)
  refine am_iconst dX10_placeOf_70 am_kc_1 ?_
  refine am_goto (tgt := 75) dX10_placeOf_71 (by decide) ?_
  exact sX10_placeOf_75 G k22 hk22 x0 x1 x2 x4 1 s0 M h_x0
set_option maxRecDepth 100000 in
set_option maxHeartbeats 4000000 in
theorem sX10_placeOf_74 (G : am_G) (k22 : (Nat × Int32 × Int32 × Int32 × Int32 × am_M) → Option (Int32 × am_M)) (hk22 : ∀ q : (Nat × Int32 × Int32 × Int32 × Int32 × am_M), (match q with | (x0, x1, x2, x3, x4, M) => am_sh M x0 14) → match q with | (x0, x1, x2, x3, x4, M) => am_S am_ei G 2 yX10_placeOf.cls yX10_placeOf.name cX10_placeOf 6 (some FieldType.int) 22 [(0, .ref x0), (1, .int x1), (2, .int x2), (3, .int x3), (4, .int x4)] [] M (k22 (x0, x1, x2, x3, x4, M))) (x0 : Nat) (x1 : Int32) (x2 : Int32) (x4 : Int32) (s0 : Int32) (M : am_M) (h_x0 : am_sh M x0 14) : am_S am_ei G 2 yX10_placeOf.cls yX10_placeOf.name cX10_placeOf 6 (some FieldType.int) 74 [(0, .ref x0), (1, .int x1), (2, .int x2), (4, .int x4)] [.int s0] M (fX10_placeOf_74 k22 x0 x1 x2 x4 s0 M) := by
  show am_S am_ei G 2 yX10_placeOf.cls yX10_placeOf.name cX10_placeOf 6 (some FieldType.int) 74 [(0, .ref x0), (1, .int x1), (2, .int x2), (4, .int x4)] [.int s0] M (fX10_placeOf_75 k22 x0 x1 x2 x4 0 s0 M)
  refine am_iconst dX10_placeOf_74 am_kc_0 ?_
  exact sX10_placeOf_75 G k22 hk22 x0 x1 x2 x4 0 s0 M h_x0
set_option maxRecDepth 100000 in
set_option maxHeartbeats 4000000 in
theorem sX10_placeOf_22 (G : am_G) (k22 : (Nat × Int32 × Int32 × Int32 × Int32 × am_M) → Option (Int32 × am_M)) (hk22 : ∀ q : (Nat × Int32 × Int32 × Int32 × Int32 × am_M), (match q with | (x0, x1, x2, x3, x4, M) => am_sh M x0 14) → match q with | (x0, x1, x2, x3, x4, M) => am_S am_ei G 2 yX10_placeOf.cls yX10_placeOf.name cX10_placeOf 6 (some FieldType.int) 22 [(0, .ref x0), (1, .int x1), (2, .int x2), (3, .int x3), (4, .int x4)] [] M (k22 (x0, x1, x2, x3, x4, M))) (x0 : Nat) (x1 : Int32) (x2 : Int32) (x3 : Int32) (x4 : Int32) (M : am_M) (h_x0 : am_sh M x0 14) : am_S am_ei G 2 yX10_placeOf.cls yX10_placeOf.name cX10_placeOf 6 (some FieldType.int) 22 [(0, .ref x0), (1, .int x1), (2, .int x2), (3, .int x3), (4, .int x4)] [] M (fX10_placeOf_22 k22 (x0, x1, x2, x3, x4, M)) := by
  show am_S am_ei G 2 yX10_placeOf.cls yX10_placeOf.name cX10_placeOf 6 (some FieldType.int) 22 [(0, .ref x0), (1, .int x1), (2, .int x2), (3, .int x3), (4, .int x4)] [] M (if M.1 x0 6 ≤ x4 then some (x3, M) else (M.2.2.1 x0 7).bind fun r16 => if x4 < 0 ∨ am_len M r16 ≤ x4.toNatClampNeg then none else (M.2.2.1 x0 8).bind fun r20 => if x4 < 0 ∨ am_len M r20 ≤ x4.toNatClampNeg then none else (fX10_keyOf x0 (M.1 r16 (x4.toNatClampNeg)) (M.1 r20 (x4.toNatClampNeg)) M).bind fun p29 => if p29.1 < x2 then fX10_placeOf_70 k22 x0 x1 x2 x4 x3 p29.2 else if p29.1 = x2 then if x1 ≤ x4 then fX10_placeOf_74 k22 x0 x1 x2 x4 x3 p29.2 else fX10_placeOf_70 k22 x0 x1 x2 x4 x3 p29.2 else fX10_placeOf_74 k22 x0 x1 x2 x4 x3 p29.2)
  refine am_iload 4 dX10_placeOf_22 rfl ?_
  refine am_aload_n 0 dX10_placeOf_24 rfl rfl ?_
  refine am_getI 9 dX10_placeOf_25 fl_RX10_26 h_x0 rfl ?_
  refine am_icmp_ge (tgt := 83) dX10_placeOf_28 (by decide) (fun c15 => ?_) (fun c15 => ?_)
  · refine am_iload_n 3 dX10_placeOf_83 rfl rfl ?_
    exact am_iret dX10_placeOf_84
  · refine am_aload_n 0 dX10_placeOf_31 rfl rfl ?_
    refine am_aload_n 0 dX10_placeOf_32 rfl rfl ?_
    refine am_getR 9 dX10_placeOf_33 fl_RX10_29 h_x0 rfl (fun r16 e17 h18 => ?_)
    refine am_iload 4 dX10_placeOf_36 rfl ?_
    refine am_iald dX10_placeOf_38 h18 (fun b19 => ?_)
    refine am_aload_n 0 dX10_placeOf_39 rfl rfl ?_
    refine am_getR 9 dX10_placeOf_40 fl_RX10_32 h_x0 rfl (fun r20 e21 h22 => ?_)
    refine am_iload 4 dX10_placeOf_43 rfl ?_
    refine am_iald dX10_placeOf_45 h22 (fun b23 => ?_)
    refine am_callVi 9 [.int (M.1 r16 (x4.toNatClampNeg)), .int (M.1 r20 (x4.toNatClampNeg))] (CX10_keyOf G x0 (M.1 r16 (x4.toNatClampNeg)) (M.1 r20 (x4.toNatClampNeg)) M h_x0) dX10_placeOf_46 mb_yX10_keyOf ⟨ml_RX10_153, im_yX10_keyOf, se_yX10_keyOf⟩ rfl h_x0 (by decide) rfl rfl (Nat.le_of_ble_eq_true rfl) (fun v28 M25 q24 w27 l26 => ?_)
    refine am_istore (L' := [(5, .int v28), (0, .ref x0), (1, .int x1), (2, .int x2), (3, .int x3), (4, .int x4)]) dX10_placeOf_49 (by decide) rfl ?_
    refine am_iload_n 4 dX10_placeOf_51 rfl rfl ?_
    refine am_iload 0 dX10_placeOf_52 rfl ?_
    refine am_iload_n 3 dX10_placeOf_54 rfl rfl ?_
    refine am_icmp_lt (tgt := 70) dX10_placeOf_55 (by decide) (fun c30 => ?_) (fun c30 => ?_)
    · refine am_sub [1, 2, 3, 5] rfl ?_
      exact sX10_placeOf_70 G k22 hk22 x0 x1 x2 x4 x3 M25 (am_sh.mono l26 h_x0)
    · refine am_iload 0 dX10_placeOf_58 rfl ?_
      refine am_iload_n 3 dX10_placeOf_60 rfl rfl ?_
      refine am_icmp_ne (tgt := 74) dX10_placeOf_61 (by decide) (fun c31 => ?_) (fun c31 => ?_)
      · refine am_sub [1, 2, 3, 5] rfl ?_
        exact sX10_placeOf_74 G k22 hk22 x0 x1 x2 x4 x3 M25 (am_sh.mono l26 h_x0)
      · refine am_iload 5 dX10_placeOf_64 rfl ?_
        refine am_iload_n 2 dX10_placeOf_66 rfl rfl ?_
        refine am_icmp_ge (tgt := 74) dX10_placeOf_67 (by decide) (fun c32 => ?_) (fun c32 => ?_)
        · refine am_sub [1, 2, 3, 5] rfl ?_
          exact sX10_placeOf_74 G k22 hk22 x0 x1 x2 x4 x3 M25 (am_sh.mono l26 h_x0)
        · refine am_sub [1, 2, 3, 5] rfl ?_
          exact sX10_placeOf_70 G k22 hk22 x0 x1 x2 x4 x3 M25 (am_sh.mono l26 h_x0)
set_option maxRecDepth 100000 in
set_option maxHeartbeats 4000000 in
theorem lX10_placeOf_22 (G : am_G) (n : Nat) (q : (Nat × Int32 × Int32 × Int32 × Int32 × am_M)) (hq : match q with | (x0, x1, x2, x3, x4, M) => am_sh M x0 14) : match q with | (x0, x1, x2, x3, x4, M) => am_S am_ei G 2 yX10_placeOf.cls yX10_placeOf.name cX10_placeOf 6 (some FieldType.int) 22 [(0, .ref x0), (1, .int x1), (2, .int x2), (3, .int x3), (4, .int x4)] [] M (am_loop (fX10_placeOf_22) n (x0, x1, x2, x3, x4, M)) := by
  exact am_loop_ok (fun q : (Nat × Int32 × Int32 × Int32 × Int32 × am_M) => match q with | (x0, x1, x2, x3, x4, M) => am_sh M x0 14) (fun q X => match q with | (x0, x1, x2, x3, x4, M) => am_S am_ei G 2 yX10_placeOf.cls yX10_placeOf.name cX10_placeOf 6 (some FieldType.int) 22 [(0, .ref x0), (1, .int x1), (2, .int x2), (3, .int x3), (4, .int x4)] [] M X) (fun _ => am_none) (fun k22 hk22 q hq => match q, hq with | (x0, x1, x2, x3, x4, M), h_x0 => sX10_placeOf_22 G k22 hk22 x0 x1 x2 x3 x4 M h_x0) n q hq
set_option maxRecDepth 100000 in
set_option maxHeartbeats 4000000 in
theorem sX10_placeOf_0 (G : am_G) (a0 : Nat) (a1 : Int32) (M : am_M) (h_a0 : am_sh M a0 14) : am_S am_ei G 2 yX10_placeOf.cls yX10_placeOf.name cX10_placeOf 6 (some FieldType.int) 0 [(0, .ref a0), (1, .int a1)] [] M (fX10_placeOf a0 a1 M) := by
  show am_S am_ei G 2 yX10_placeOf.cls yX10_placeOf.name cX10_placeOf 6 (some FieldType.int) 0 [(0, .ref a0), (1, .int a1)] [] M ((M.2.2.1 a0 7).bind fun r1 => if a1 < 0 ∨ am_len M r1 ≤ a1.toNatClampNeg then none else (M.2.2.1 a0 8).bind fun r5 => if a1 < 0 ∨ am_len M r5 ≤ a1.toNatClampNeg then none else (fX10_keyOf a0 (M.1 r1 (a1.toNatClampNeg)) (M.1 r5 (a1.toNatClampNeg)) M).bind fun p14 => am_loop (fX10_placeOf_22) 100000 (a0, a1, p14.1, 0, 0, p14.2))
  refine am_aload_n 0 dX10_placeOf_0 rfl rfl ?_
  refine am_aload_n 0 dX10_placeOf_1 rfl rfl ?_
  refine am_getR 9 dX10_placeOf_2 fl_RX10_29 h_a0 rfl (fun r1 e2 h3 => ?_)
  refine am_iload_n 1 dX10_placeOf_5 rfl rfl ?_
  refine am_iald dX10_placeOf_6 h3 (fun b4 => ?_)
  refine am_aload_n 0 dX10_placeOf_7 rfl rfl ?_
  refine am_getR 9 dX10_placeOf_8 fl_RX10_32 h_a0 rfl (fun r5 e6 h7 => ?_)
  refine am_iload_n 1 dX10_placeOf_11 rfl rfl ?_
  refine am_iald dX10_placeOf_12 h7 (fun b8 => ?_)
  refine am_callVi 9 [.int (M.1 r1 (a1.toNatClampNeg)), .int (M.1 r5 (a1.toNatClampNeg))] (CX10_keyOf G a0 (M.1 r1 (a1.toNatClampNeg)) (M.1 r5 (a1.toNatClampNeg)) M h_a0) dX10_placeOf_13 mb_yX10_keyOf ⟨ml_RX10_153, im_yX10_keyOf, se_yX10_keyOf⟩ rfl h_a0 (by decide) rfl rfl (Nat.le_of_ble_eq_true rfl) (fun v13 M10 q9 w12 l11 => ?_)
  refine am_istore_n (L' := [(2, .int v13), (0, .ref a0), (1, .int a1)]) dX10_placeOf_16 rfl (by decide) rfl ?_
  refine am_iconst dX10_placeOf_17 am_kc_0 ?_
  refine am_istore_n (L' := [(3, .int 0), (2, .int v13), (0, .ref a0), (1, .int a1)]) dX10_placeOf_18 rfl (by decide) rfl ?_
  refine am_iconst dX10_placeOf_19 am_kc_0 ?_
  refine am_istore (L' := [(4, .int 0), (3, .int 0), (2, .int v13), (0, .ref a0), (1, .int a1)]) dX10_placeOf_20 (by decide) rfl ?_
  refine am_sub [3, 4, 2, 1, 0] rfl ?_
  exact lX10_placeOf_22 G 100000 (a0, a1, v13, 0, 0, M10) (am_sh.mono l11 h_a0)
theorem CX10_placeOf (G : am_G) (a0 : Nat) (a1 : Int32) (M : am_M) (h_a0 : am_sh M a0 14) : am_C am_ei G 2 yX10_placeOf cX10_placeOf 6 (some FieldType.int) [.ref a0, .int a1] M (fX10_placeOf a0 a1 M) :=
  am_meth (by decide) rfl (Nat.le_of_ble_eq_true rfl) (sX10_placeOf_0 G a0 a1 M h_a0)
