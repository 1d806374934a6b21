def fX10_at (a0 : Nat) (a1 : Int32) (a2 : Int32) (M : am_M) : Option (Int32 × am_M) := (fX10_isPoint a0 a1 M).bind fun p6 => if p6.1 = 0 then some ((-1), p6.2) else (fX10_isIn a2 0 2 p6.2).bind fun p13 => if p13.1 = 0 then some ((-1), p13.2) else if a2 = 0 then (p13.2.2.2.1 a0 7).bind fun r27 => if a1 < 0 ∨ am_len p13.2 r27 ≤ a1.toNatClampNeg then none else some (p13.2.1 r27 (a1.toNatClampNeg), p13.2) else if a2 = 1 then (p13.2.2.2.1 a0 8).bind fun r23 => if a1 < 0 ∨ am_len p13.2 r23 ≤ a1.toNatClampNeg then none else some (p13.2.1 r23 (a1.toNatClampNeg), p13.2) else (fX10_placeOf a0 a1 p13.2).bind fun p22 => some (p22.1, p22.2)
set_option maxRecDepth 100000 in
set_option maxHeartbeats 4000000 in
theorem sX10_at_0 (G : am_G) (a0 : Nat) (a1 : Int32) (a2 : Int32) (M : am_M) (h_a0 : am_sh M a0 14) : am_S am_ei G 3 yX10_at.cls yX10_at.name cX10_at 3 (some FieldType.int) 0 [(0, .ref a0), (1, .int a1), (2, .int a2)] [] M (fX10_at a0 a1 a2 M) := by
  show am_S am_ei G 3 yX10_at.cls yX10_at.name cX10_at 3 (some FieldType.int) 0 [(0, .ref a0), (1, .int a1), (2, .int a2)] [] M ((fX10_isPoint a0 a1 M).bind fun p6 => if p6.1 = 0 then some ((-1), p6.2) else (fX10_isIn a2 0 2 p6.2).bind fun p13 => if p13.1 = 0 then some ((-1), p13.2) else if a2 = 0 then (p13.2.2.2.1 a0 7).bind fun r27 => if a1 < 0 ∨ am_len p13.2 r27 ≤ a1.toNatClampNeg then none else some (p13.2.1 r27 (a1.toNatClampNeg), p13.2) else if a2 = 1 then (p13.2.2.2.1 a0 8).bind fun r23 => if a1 < 0 ∨ am_len p13.2 r23 ≤ a1.toNatClampNeg then none else some (p13.2.1 r23 (a1.toNatClampNeg), p13.2) else (fX10_placeOf a0 a1 p13.2).bind fun p22 => some (p22.1, p22.2))
  refine am_aload_n 0 dX10_at_0 rfl rfl ?_
  refine am_iload_n 1 dX10_at_1 rfl rfl ?_
  refine am_callVi 9 [.int a1] (CX10_isPoint G a0 a1 M h_a0) dX10_at_2 mb_yX10_isPoint ⟨ml_RX10_229, im_yX10_isPoint, se_yX10_isPoint⟩ rfl h_a0 (by decide) rfl rfl (Nat.le_of_ble_eq_true rfl) (fun v5 M2 q1 w4 l3 => ?_)
  refine am_if_eq (tgt := 17) dX10_at_5 (by decide) (fun c7 => ?_) (fun c7 => ?_)
  · refine am_iconst dX10_at_17 am_kc_m1 ?_
    exact am_iret dX10_at_18
  · refine am_iload_n 2 dX10_at_8 rfl rfl ?_
    refine am_iconst dX10_at_9 am_kc_0 ?_
    refine am_iconst dX10_at_10 am_kc_2 ?_
    refine am_callSi [.int a2, .int 0, .int 2] (CX10_isIn G a2 0 2 M2) dX10_at_11 mb_yX10_isIn ⟨ml_RX10_66, sm_yX10_isIn⟩ (by decide) rfl rfl (Nat.le_of_ble_eq_true rfl) (fun v12 M9 q8 w11 l10 => ?_)
    refine am_if_ne (tgt := 19) dX10_at_14 (by decide) (fun c14 => ?_) (fun c14 => ?_)
    · refine am_iload_n 2 dX10_at_19 rfl rfl ?_
      refine am_if_ne (tgt := 32) dX10_at_20 (by decide) (fun c15 => ?_) (fun c15 => ?_)
      · refine am_iload_n 2 dX10_at_32 rfl rfl ?_
        refine am_iconst dX10_at_33 am_kc_1 ?_
        refine am_icmp_ne (tgt := 46) dX10_at_34 (by decide) (fun c16 => ?_) (fun c16 => ?_)
        · refine am_aload_n 0 dX10_at_46 rfl rfl ?_
          refine am_iload_n 1 dX10_at_47 rfl rfl ?_
          refine am_callVi 9 [.int a1] (CX10_placeOf G a0 a1 M9 (am_sh.mono l10 (am_sh.mono l3 h_a0))) dX10_at_48 mb_yX10_placeOf ⟨ml_RX10_232, im_yX10_placeOf, se_yX10_placeOf⟩ rfl (am_sh.mono l10 (am_sh.mono l3 h_a0)) (by decide) rfl rfl (Nat.le_of_ble_eq_true rfl) (fun v21 M18 q17 w20 l19 => ?_)
          exact am_iret dX10_at_51
        · refine am_aload_n 0 dX10_at_37 rfl rfl ?_
          refine am_getR 9 dX10_at_38 fl_RX10_32 (am_sh.mono l10 (am_sh.mono l3 h_a0)) rfl (fun r23 e24 h25 => ?_)
          refine am_iload_n 1 dX10_at_41 rfl rfl ?_
          refine am_iald dX10_at_42 h25 (fun b26 => ?_)
          refine am_goto (tgt := 51) dX10_at_43 (by decide) ?_
          exact am_iret dX10_at_51
      · refine am_aload_n 0 dX10_at_23 rfl rfl ?_
        refine am_getR 9 dX10_at_24 fl_RX10_29 (am_sh.mono l10 (am_sh.mono l3 h_a0)) rfl (fun r27 e28 h29 => ?_)
        refine am_iload_n 1 dX10_at_27 rfl rfl ?_
        refine am_iald dX10_at_28 h29 (fun b30 => ?_)
        refine am_goto (tgt := 51) dX10_at_29 (by decide) ?_
        exact am_iret dX10_at_51
    · refine am_iconst dX10_at_17 am_kc_m1 ?_
      exact am_iret dX10_at_18
theorem CX10_at (G : am_G) (a0 : Nat) (a1 : Int32) (a2 : Int32) (M : am_M) (h_a0 : am_sh M a0 14) : am_C am_ei G 3 yX10_at cX10_at 3 (some FieldType.int) [.ref a0, .int a1, .int a2] M (fX10_at a0 a1 a2 M) :=
  am_meth (by decide) rfl (Nat.le_of_ble_eq_true rfl) (sX10_at_0 G a0 a1 a2 M h_a0)
def fX10_orderedAt_2 : ((Nat × Int32 × Int32 × am_M) → Option (Int32 × am_M)) → (Nat × Int32 × Int32 × am_M) → Option (Int32 × am_M) := fun k2 q0 => match q0 with
  | (x0, x1, x2, M) => if M.1 x0 6 ≤ x2 then some ((-4), M) else (fX10_placeOf x0 x2 M).bind fun p7 => if p7.1 = x1 then some (x2, p7.2) else k2 (x0, x1, x2 + 1, p7.2)
def fX10_orderedAt (a0 : Nat) (a1 : Int32) (M : am_M) : Option (Int32 × am_M) := am_loop (fX10_orderedAt_2) 100000 (a0, a1, 0, M)
set_option maxRecDepth 100000 in
set_option maxHeartbeats 4000000 in
theorem sX10_orderedAt_2 (G : am_G) (k2 : (Nat × Int32 × Int32 × am_M) → Option (Int32 × am_M)) (hk2 : ∀ q : (Nat × Int32 × Int32 × am_M), (match q with | (x0, x1, x2, M) => am_sh M x0 14) → match q with | (x0, x1, x2, M) => am_S am_ei G 3 yX10_orderedAt.cls yX10_orderedAt.name cX10_orderedAt 3 (some FieldType.int) 2 [(0, .ref x0), (1, .int x1), (2, .int x2)] [] M (k2 (x0, x1, x2, M))) (x0 : Nat) (x1 : Int32) (x2 : Int32) (M : am_M) (h_x0 : am_sh M x0 14) : am_S am_ei G 3 yX10_orderedAt.cls yX10_orderedAt.name cX10_orderedAt 3 (some FieldType.int) 2 [(0, .ref x0), (1, .int x1), (2, .int x2)] [] M (fX10_orderedAt_2 k2 (x0, x1, x2, M)) := by
  show am_S am_ei G 3 yX10_orderedAt.cls yX10_orderedAt.name cX10_orderedAt 3 (some FieldType.int) 2 [(0, .ref x0), (1, .int x1), (2, .int x2)] [] M (if M.1 x0 6 ≤ x2 then some ((-4), M) else (fX10_placeOf x0 x2 M).bind fun p7 => if p7.1 = x1 then some (x2, p7.2) else k2 (x0, x1, x2 + 1, p7.2))
  refine am_iload_n 2 dX10_orderedAt_2 rfl rfl ?_
  refine am_aload_n 0 dX10_orderedAt_3 rfl rfl ?_
  refine am_getI 9 dX10_orderedAt_4 fl_RX10_26 h_x0 rfl ?_
  refine am_icmp_ge (tgt := 27) dX10_orderedAt_7 (by decide) (fun c1 => ?_) (fun c1 => ?_)
  · refine am_bipush (x := -4) dX10_orderedAt_27 (by decide) ?_
    exact am_iret dX10_orderedAt_29
  · refine am_aload_n 0 dX10_orderedAt_10 rfl rfl ?_
    refine am_iload_n 2 dX10_orderedAt_11 rfl rfl ?_
    refine am_callVi 9 [.int x2] (CX10_placeOf G x0 x2 M h_x0) dX10_orderedAt_12 mb_yX10_placeOf ⟨ml_RX10_232, im_yX10_placeOf, se_yX10_placeOf⟩ rfl h_x0 (by decide) rfl rfl (Nat.le_of_ble_eq_true rfl) (fun v6 M3 q2 w5 l4 => ?_)
    refine am_iload_n 1 dX10_orderedAt_15 rfl rfl ?_
    refine am_icmp_ne (tgt := 21) dX10_orderedAt_16 (by decide) (fun c8 => ?_) (fun c8 => ?_)
    · refine am_iinc (L' := [(2, .int (x2 + 1)), (0, .ref x0), (1, .int x1)]) 2 dX10_orderedAt_21 rfl (by rfl) (by decide) rfl ?_
      refine am_goto (tgt := 2) dX10_orderedAt_24 (by decide) ?_
      refine am_sub [1, 2, 0] rfl ?_
      exact hk2 (x0, x1, x2 + 1, M3) (am_sh.mono l4 h_x0)
    · refine am_iload_n 2 dX10_orderedAt_19 rfl rfl ?_
      exact am_iret dX10_orderedAt_20
set_option maxRecDepth 100000 in
set_option maxHeartbeats 4000000 in
theorem lX10_orderedAt_2 (G : am_G) (n : Nat) (q : (Nat × Int32 × Int32 × am_M)) (hq : match q with | (x0, x1, x2, M) => am_sh M x0 14) : match q with | (x0, x1, x2, M) => am_S am_ei G 3 yX10_orderedAt.cls yX10_orderedAt.name cX10_orderedAt 3 (some FieldType.int) 2 [(0, .ref x0), (1, .int x1), (2, .int x2)] [] M (am_loop (fX10_orderedAt_2) n (x0, x1, x2, M)) := by
  exact am_loop_ok (fun q : (Nat × Int32 × Int32 × am_M) => match q with | (x0, x1, x2, M) => am_sh M x0 14) (fun q X => match q with | (x0, x1, x2, M) => am_S am_ei G 3 yX10_orderedAt.cls yX10_orderedAt.name cX10_orderedAt 3 (some FieldType.int) 2 [(0, .ref x0), (1, .int x1), (2, .int x2)] [] M X) (fun _ => am_none) (fun k2 hk2 q hq => match q, hq with | (x0, x1, x2, M), h_x0 => sX10_orderedAt_2 G k2 hk2 x0 x1 x2 M h_x0) n q hq
set_option maxRecDepth 100000 in
set_option maxHeartbeats 4000000 in
theorem sX10_orderedAt_0 (G : am_G) (a0 : Nat) (a1 : Int32) (M : am_M) (h_a0 : am_sh M a0 14) : am_S am_ei G 3 yX10_orderedAt.cls yX10_orderedAt.name cX10_orderedAt 3 (some FieldType.int) 0 [(0, .ref a0), (1, .int a1)] [] M (fX10_orderedAt a0 a1 M) := by
  show am_S am_ei G 3 yX10_orderedAt.cls yX10_orderedAt.name cX10_orderedAt 3 (some FieldType.int) 0 [(0, .ref a0), (1, .int a1)] [] M (am_loop (fX10_orderedAt_2) 100000 (a0, a1, 0, M))
  refine am_iconst dX10_orderedAt_0 am_kc_0 ?_
  refine am_istore_n (L' := [(2, .int 0), (0, .ref a0), (1, .int a1)]) dX10_orderedAt_1 rfl (by decide) rfl ?_
  refine am_sub [1, 2, 0] rfl ?_
  exact lX10_orderedAt_2 G 100000 (a0, a1, 0, M) h_a0
theorem CX10_orderedAt (G : am_G) (a0 : Nat) (a1 : Int32) (M : am_M) (h_a0 : am_sh M a0 14) : am_C am_ei G 3 yX10_orderedAt cX10_orderedAt 3 (some FieldType.int) [.ref a0, .int a1] M (fX10_orderedAt a0 a1 M) :=
  am_meth (by decide) rfl (Nat.le_of_ble_eq_true rfl) (sX10_orderedAt_0 G a0 a1 M h_a0)
def fX10_ordered (a0 : Nat) (a1 : Int32) (M : am_M) : Option (Int32 × am_M) := if (0 : Int32) ≤ a1 then (fX10_orderedAt a0 a1 M).bind fun p7 => some (p7.1, p7.2) else some ((-1), M)
set_option maxRecDepth 100000 in
set_option maxHeartbeats 4000000 in
theorem sX10_ordered_0 (G : am_G) (a0 : Nat) (a1 : Int32) (M : am_M) (h_a0 : am_sh M a0 14) : am_S am_ei G 4 yX10_ordered.cls yX10_ordered.name cX10_ordered 2 (some FieldType.int) 0 [(0, .ref a0), (1, .int a1)] [] M (fX10_ordered a0 a1 M) := by
  show am_S am_ei G 4 yX10_ordered.cls yX10_ordered.name cX10_ordered 2 (some FieldType.int) 0 [(0, .ref a0), (1, .int a1)] [] M (if (0 : Int32) ≤ a1 then (fX10_orderedAt a0 a1 M).bind fun p7 => some (p7.1, p7.2) else some ((-1), M))
  refine am_iload_n 1 dX10_ordered_0 rfl rfl ?_
  refine am_if_ge (tgt := 8) dX10_ordered_1 (by decide) (fun c1 => ?_) (fun c1 => ?_)
  · refine am_aload_n 0 dX10_ordered_8 rfl rfl ?_
    refine am_iload_n 1 dX10_ordered_9 rfl rfl ?_
    refine am_callVi 9 [.int a1] (CX10_orderedAt G a0 a1 M h_a0) dX10_ordered_10 mb_yX10_orderedAt ⟨ml_RX10_235, im_yX10_orderedAt, se_yX10_orderedAt⟩ rfl h_a0 (by decide) rfl rfl (Nat.le_of_ble_eq_true rfl) (fun v6 M3 q2 w5 l4 => ?_)
    exact am_iret dX10_ordered_13
  · refine am_iconst dX10_ordered_4 am_kc_m1 ?_
    refine am_goto (tgt := 13) dX10_ordered_5 (by decide) ?_
    exact am_iret dX10_ordered_13
theorem CX10_ordered (G : am_G) (a0 : Nat) (a1 : Int32) (M : am_M) (h_a0 : am_sh M a0 14) : am_C am_ei G 4 yX10_ordered cX10_ordered 2 (some FieldType.int) [.ref a0, .int a1] M (fX10_ordered a0 a1 M) :=
  am_meth (by decide) rfl (Nat.le_of_ble_eq_true rfl) (sX10_ordered_0 G a0 a1 M h_a0)
def fX10_isFound (a0 : Nat) (a1 : Int32) (M : am_M) : Option (Int32 × am_M) := (M.2.2.1 a0 7).bind fun r1 => if a1 < 0 ∨ am_len M r1 ≤ a1.toNatClampNeg then none else (M.2.2.1 a0 8).bind fun r5 => if a1 < 0 ∨ am_len M r5 ≤ a1.toNatClampNeg then none else (fX10_isShape a0 (M.1 r1 (a1.toNatClampNeg)) (M.1 r5 (a1.toNatClampNeg)) M).bind fun p14 => some (p14.1 &&& 1, p14.2)
set_option maxRecDepth 100000 in
set_option maxHeartbeats 4000000 in
theorem sX10_isFound_0 (G : am_G) (a0 : Nat) (a1 : Int32) (M : am_M) (h_a0 : am_sh M a0 14) : am_S am_ei G 3 yX10_isFound.cls yX10_isFound.name cX10_isFound 2 (some FieldType.boolean) 0 [(0, .ref a0), (1, .int a1)] [] M (fX10_isFound a0 a1 M) := by
  show am_S am_ei G 3 yX10_isFound.cls yX10_isFound.name cX10_isFound 2 (some FieldType.boolean) 0 [(0, .ref a0), (1, .int a1)] [] M ((M.2.2.1 a0 7).bind fun r1 => if a1 < 0 ∨ am_len M r1 ≤ a1.toNatClampNeg then none else (M.2.2.1 a0 8).bind fun r5 => if a1 < 0 ∨ am_len M r5 ≤ a1.toNatClampNeg then none else (fX10_isShape a0 (M.1 r1 (a1.toNatClampNeg)) (M.1 r5 (a1.toNatClampNeg)) M).bind fun p14 => some (p14.1 &&& 1, p14.2))
  refine am_aload_n 0 dX10_isFound_0 rfl rfl ?_
  refine am_aload_n 0 dX10_isFound_1 rfl rfl ?_
  refine am_getR 9 dX10_isFound_2 fl_RX10_29 h_a0 rfl (fun r1 e2 h3 => ?_)
  refine am_iload_n 1 dX10_isFound_5 rfl rfl ?_
  refine am_iald dX10_isFound_6 h3 (fun b4 => ?_)
  refine am_aload_n 0 dX10_isFound_7 rfl rfl ?_
  refine am_getR 9 dX10_isFound_8 fl_RX10_32 h_a0 rfl (fun r5 e6 h7 => ?_)
  refine am_iload_n 1 dX10_isFound_11 rfl rfl ?_
  refine am_iald dX10_isFound_12 h7 (fun b8 => ?_)
  refine am_callVi 9 [.int (M.1 r1 (a1.toNatClampNeg)), .int (M.1 r5 (a1.toNatClampNeg))] (CX10_isShape G a0 (M.1 r1 (a1.toNatClampNeg)) (M.1 r5 (a1.toNatClampNeg)) M h_a0) dX10_isFound_13 mb_yX10_isShape ⟨ml_RX10_167, im_yX10_isShape, se_yX10_isShape⟩ rfl h_a0 (by decide) rfl rfl (Nat.le_of_ble_eq_true rfl) (fun v13 M10 q9 w12 l11 => ?_)
  exact am_zret dX10_isFound_16
theorem CX10_isFound (G : am_G) (a0 : Nat) (a1 : Int32) (M : am_M) (h_a0 : am_sh M a0 14) : am_C am_ei G 3 yX10_isFound cX10_isFound 2 (some FieldType.boolean) [.ref a0, .int a1] M (fX10_isFound a0 a1 M) :=
  am_meth (by decide) rfl (Nat.le_of_ble_eq_true rfl) (sX10_isFound_0 G a0 a1 M h_a0)
def fX10_search_83 (k20 : (Nat × Int32 × Int32 × Int32 × am_M) → Option (Int32 × am_M)) (x0 : Nat) (x1 : Int32) (x3 : Int32) (s0 : Int32) (s1 : Int32) (M : am_M) : Option (Int32 × am_M) := k20 (x0, x1, s1 + s0, x3 + 1, M)
def fX10_search_70 (k20 : (Nat × Int32 × Int32 × Int32 × am_M) → Option (Int32 × am_M)) (x0 : Nat) (x1 : Int32) (x2 : Int32) (x3 : Int32) (s0 : Int32) (M : am_M) : Option (Int32 × am_M) := if s0 = 0 then fX10_search_83 k20 x0 x1 x3 0 x2 M else fX10_search_83 k20 x0 x1 x3 1 x2 M
def fX10_search_20 : ((Nat × Int32 × Int32 × Int32 × am_M) → Option (Int32 × am_M)) → (Nat × Int32 × Int32 × Int32 × am_M) → Option (Int32 × am_M) := fun k20 q0 => match q0 with
  | (x0, x1, x2, x3, M) => if M.1 x0 6 ≤ x3 then some (x2, M) else if x1 = 0 then (M.2.2.1 x0 22).bind fun r22 => (M.2.2.1 x0 7).bind fun r25 => if x3 < 0 ∨ am_len M r25 ≤ x3.toNatClampNeg then none else (M.2.2.1 x0 8).bind fun r29 => if x3 < 0 ∨ am_len M r29 ≤ x3.toNatClampNeg then none else (fX10_keyOf x0 (M.1 r25 (x3.toNatClampNeg)) (M.1 r29 (x3.toNatClampNeg)) M).bind fun p38 => if p38.1 < 0 ∨ am_len p38.2 r22 ≤ p38.1.toNatClampNeg then none else if p38.2.1 r22 (p38.1.toNatClampNeg) = 1 then fX10_search_70 k20 x0 x1 x2 x3 1 p38.2 else fX10_search_70 k20 x0 x1 x2 x3 0 p38.2 else (fX10_isFound x0 x3 M).bind fun p20 => fX10_search_70 k20 x0 x1 x2 x3 p20.1 p20.2
def fX10_search (a0 : Nat) (a1 : Int32) (M : am_M) : Option (Int32 × am_M) := (fX10_isIn a1 0 1 M).bind fun p6 => if p6.1 = 0 then some ((-1), p6.2) else (fX10_setCover a0 0 p6.2).bind fun M9 => am_loop (fX10_search_20) 100000 (a0, a1, 0, 0, M9)
set_option maxRecDepth 100000 in
set_option maxHeartbeats 4000000 in
theorem sX10_search_83 (G : am_G) (k20 : (Nat × Int32 × Int32 × Int32 × am_M) → Option (Int32 × am_M)) (hk20 : ∀ q : (Nat × Int32 × Int32 × Int32 × am_M), (match q with | (x0, x1, x2, x3, M) => am_sh M x0 14) → match q with | (x0, x1, x2, x3, M) => am_S am_ei G 5 yX10_search.cls yX10_search.name cX10_search 5 (some FieldType.int) 20 [(0, .ref x0), (1, .int x1), (2, .int x2), (3, .int x3)] [] M (k20 (x0, x1, x2, x3, M))) (x0 : Nat) (x1 : Int32) (x3 : Int32) (s0 : Int32) (s1 : Int32) (M : am_M) (h_x0 : am_sh M x0 14) : am_S am_ei G 5 yX10_search.cls yX10_search.name cX10_search 5 (some FieldType.int) 83 [(0, .ref x0), (1, .int x1), (3, .int x3)] [.int s0, .int s1] M (fX10_search_83 k20 x0 x1 x3 s0 s1 M) := by
  show am_S am_ei G 5 yX10_search.cls yX10_search.name cX10_search 5 (some FieldType.int) 83 [(0, .ref x0), (1, .int x1), (3, .int x3)] [.int s0, .int s1] M (k20 (x0, x1, s1 + s0, x3 + 1, M))
  refine am_iadd dX10_search_83 ?_
  refine am_istore_n (L' := [(2, .int (s1 + s0)), (0, .ref x0), (1, .int x1), (3, .int x3)]) dX10_search_84 rfl (by decide) rfl ?_
  refine am_iinc (L' := [(3, .int (x3 + 1)), (2, .int (s1 + s0)), (0, .ref x0), (1, .int x1)]) 3 dX10_search_85 rfl (by rfl) (by decide) rfl ?_
  refine am_goto (tgt := 20) dX10_search_88 (by decide) ?_
  refine am_sub [2, 3, 1, 0] rfl ?_
  exact hk20 (x0, x1, s1 + s0, x3 + 1, M) h_x0
set_option maxRecDepth 100000 in
set_option maxHeartbeats 4000000 in
theorem sX10_search_70 (G : am_G) (k20 : (Nat × Int32 × Int32 × Int32 × am_M) → Option (Int32 × am_M)) (hk20 : ∀ q : (Nat × Int32 × Int32 × Int32 × am_M), (match q with | (x0, x1, x2, x3, M) => am_sh M x0 14) → match q with | (x0, x1, x2, x3, M) => am_S am_ei G 5 yX10_search.cls yX10_search.name cX10_search 5 (some FieldType.int) 20 [(0, .ref x0), (1, .int x1), (2, .int x2), (3, .int x3)] [] M (k20 (x0, x1, x2, x3, M))) (x0 : Nat) (x1 : Int32) (x2 : Int32) (x3 : Int32) (s0 : Int32) (M : am_M) (h_x0 : am_sh M x0 14) : am_S am_ei G 5 yX10_search.cls yX10_search.name cX10_search 5 (some FieldType.int) 70 [(0, .ref x0), (1, .int x1), (2, .int x2), (3, .int x3)] [.int s0] M (fX10_search_70 k20 x0 x1 x2 x3 s0 M) := by
  show am_S am_ei G 5 yX10_search.cls yX10_search.name cX10_search 5 (some FieldType.int) 70 [(0, .ref x0), (1, .int x1), (2, .int x2), (3, .int x3)] [.int s0] M (if s0 = 0 then fX10_search_83 k20 x0 x1 x3 0 x2 M else fX10_search_83 k20 x0 x1 x3 1 x2 M)
  refine am_istore (L' := [(4, .int s0), (0, .ref x0), (1, .int x1), (2, .int x2), (3, .int x3)]) dX10_search_70 (by decide) rfl ?_
  refine am_iload_n 3 dX10_search_72 rfl rfl ?_
  refine am_iload 0 dX10_search_73 rfl ?_
  refine am_if_eq (tgt := 82) dX10_search_75 (by decide) (fun c21 => ?_) (fun c21 => ?_)
  · refine am_iconst dX10_search_82 am_kc_0 ?_
    refine am_sub [1, 2, 4] rfl ?_
    exact sX10_search_83 G k20 hk20 x0 x1 x3 0 x2 M h_x0
  · refine am_iconst dX10_search_78 am_kc_1 ?_
    refine am_goto (tgt := 83) dX10_search_79 (by decide) ?_
    refine am_sub [1, 2, 4] rfl ?_
    exact sX10_search_83 G k20 hk20 x0 x1 x3 1 x2 M h_x0
set_option maxRecDepth 100000 in
set_option maxHeartbeats 4000000 in
theorem sX10_search_20 (G : am_G) (k20 : (Nat × Int32 × Int32 × Int32 × am_M) → Option (Int32 × am_M)) (hk20 : ∀ q : (Nat × Int32 × Int32 × Int32 × am_M), (match q with | (x0, x1, x2, x3, M) => am_sh M x0 14) → match q with | (x0, x1, x2, x3, M) => am_S am_ei G 5 yX10_search.cls yX10_search.name cX10_search 5 (some FieldType.int) 20 [(0, .ref x0), (1, .int x1), (2, .int x2), (3, .int x3)] [] M (k20 (x0, x1, x2, x3, M))) (x0 : Nat) (x1 : Int32) (x2 : Int32) (x3 : Int32) (M : am_M) (h_x0 : am_sh M x0 14) : am_S am_ei G 5 yX10_search.cls yX10_search.name cX10_search 5 (some FieldType.int) 20 [(0, .ref x0), (1, .int x1), (2, .int x2), (3, .int x3)] [] M (fX10_search_20 k20 (x0, x1, x2, x3, M)) := by
  show am_S am_ei G 5 yX10_search.cls yX10_search.name cX10_search 5 (some FieldType.int) 20 [(0, .ref x0), (1, .int x1), (2, .int x2), (3, .int x3)] [] M (if M.1 x0 6 ≤ x3 then some (x2, M) else if x1 = 0 then (M.2.2.1 x0 22).bind fun r22 => (M.2.2.1 x0 7).bind fun r25 => if x3 < 0 ∨ am_len M r25 ≤ x3.toNatClampNeg then none else (M.2.2.1 x0 8).bind fun r29 => if x3 < 0 ∨ am_len M r29 ≤ x3.toNatClampNeg then none else (fX10_keyOf x0 (M.1 r25 (x3.toNatClampNeg)) (M.1 r29 (x3.toNatClampNeg)) M).bind fun p38 => if p38.1 < 0 ∨ am_len p38.2 r22 ≤ p38.1.toNatClampNeg then none else if p38.2.1 r22 (p38.1.toNatClampNeg) = 1 then fX10_search_70 k20 x0 x1 x2 x3 1 p38.2 else fX10_search_70 k20 x0 x1 x2 x3 0 p38.2 else (fX10_isFound x0 x3 M).bind fun p20 => fX10_search_70 k20 x0 x1 x2 x3 p20.1 p20.2)
  refine am_iload_n 3 dX10_search_20 rfl rfl ?_
  refine am_aload_n 0 dX10_search_21 rfl rfl ?_
  refine am_getI 9 dX10_search_22 fl_RX10_26 h_x0 rfl ?_
  refine am_icmp_ge (tgt := 91) dX10_search_25 (by decide) (fun c13 => ?_) (fun c13 => ?_)
  · refine am_iload_n 2 dX10_search_91 rfl rfl ?_
    exact am_iret dX10_search_92
  · refine am_iload_n 1 dX10_search_28 rfl rfl ?_
    refine am_if_ne (tgt := 65) dX10_search_29 (by decide) (fun c14 => ?_) (fun c14 => ?_)
    · refine am_aload_n 0 dX10_search_65 rfl rfl ?_
      refine am_iload_n 3 dX10_search_66 rfl rfl ?_
      refine am_callVi 9 [.int x3] (CX10_isFound G x0 x3 M h_x0) dX10_search_67 mb_yX10_isFound ⟨ml_RX10_238, im_yX10_isFound, se_yX10_isFound⟩ rfl h_x0 (by decide) rfl rfl (Nat.le_of_ble_eq_true rfl) (fun v19 M16 q15 w18 l17 => ?_)
      exact sX10_search_70 G k20 hk20 x0 x1 x2 x3 v19 M16 (am_sh.mono l17 h_x0)
    · refine am_aload_n 0 dX10_search_32 rfl rfl ?_
      refine am_getR 9 dX10_search_33 fl_RX10_47 h_x0 rfl (fun r22 e23 h24 => ?_)
      refine am_aload_n 0 dX10_search_36 rfl rfl ?_
      refine am_aload_n 0 dX10_search_37 rfl rfl ?_
      refine am_getR 9 dX10_search_38 fl_RX10_29 h_x0 rfl (fun r25 e26 h27 => ?_)
      refine am_iload_n 3 dX10_search_41 rfl rfl ?_
      refine am_iald dX10_search_42 h27 (fun b28 => ?_)
      refine am_aload_n 0 dX10_search_43 rfl rfl ?_
      refine am_getR 9 dX10_search_44 fl_RX10_32 h_x0 rfl (fun r29 e30 h31 => ?_)
      refine am_iload_n 3 dX10_search_47 rfl rfl ?_
      refine am_iald dX10_search_48 h31 (fun b32 => ?_)
      refine am_callVi 9 [.int (M.1 r25 (x3.toNatClampNeg)), .int (M.1 r29 (x3.toNatClampNeg))] (CX10_keyOf G x0 (M.1 r25 (x3.toNatClampNeg)) (M.1 r29 (x3.toNatClampNeg)) M h_x0) dX10_search_49 mb_yX10_keyOf ⟨ml_RX10_153, im_yX10_keyOf, se_yX10_keyOf⟩ rfl h_x0 (by decide) rfl rfl (Nat.le_of_ble_eq_true rfl) (fun v37 M34 q33 w36 l35 => ?_)
      refine am_iald dX10_search_52 (am_sh.mono l35 h24) (fun b39 => ?_)
      refine am_iconst dX10_search_53 am_kc_1 ?_
      refine am_icmp_ne (tgt := 61) dX10_search_54 (by decide) (fun c40 => ?_) (fun c40 => ?_)
      · refine am_iconst dX10_search_61 am_kc_0 ?_
        refine am_goto (tgt := 70) dX10_search_62 (by decide) ?_
        exact sX10_search_70 G k20 hk20 x0 x1 x2 x3 0 M34 (am_sh.mono l35 h_x0)
      · refine am_iconst dX10_search_57 am_kc_1 ?_
        refine am_goto (tgt := 70) dX10_search_58 (by decide) ?_
        exact sX10_search_70 G k20 hk20 x0 x1 x2 x3 1 M34 (am_sh.mono l35 h_x0)
set_option maxRecDepth 100000 in
set_option maxHeartbeats 4000000 in
theorem lX10_search_20 (G : am_G) (n : Nat) (q : (Nat × Int32 × Int32 × Int32 × am_M)) (hq : match q with | (x0, x1, x2, x3, M) => am_sh M x0 14) : match q with | (x0, x1, x2, x3, M) => am_S am_ei G 5 yX10_search.cls yX10_search.name cX10_search 5 (some FieldType.int) 20 [(0, .ref x0), (1, .int x1), (2, .int x2), (3, .int x3)] [] M (am_loop (fX10_search_20) n (x0, x1, x2, x3, M)) := by
  exact am_loop_ok (fun q : (Nat × Int32 × Int32 × Int32 × am_M) => match q with | (x0, x1, x2, x3, M) => am_sh M x0 14) (fun q X => match q with | (x0, x1, x2, x3, M) => am_S am_ei G 5 yX10_search.cls yX10_search.name cX10_search 5 (some FieldType.int) 20 [(0, .ref x0), (1, .int x1), (2, .int x2), (3, .int x3)] [] M X) (fun _ => am_none) (fun k20 hk20 q hq => match q, hq with | (x0, x1, x2, x3, M), h_x0 => sX10_search_20 G k20 hk20 x0 x1 x2 x3 M h_x0) n q hq
set_option maxRecDepth 100000 in
set_option maxHeartbeats 4000000 in
theorem sX10_search_0 (G : am_G) (a0 : Nat) (a1 : Int32) (M : am_M) (h_a0 : am_sh M a0 14) : am_S am_ei G 5 yX10_search.cls yX10_search.name cX10_search 5 (some FieldType.int) 0 [(0, .ref a0), (1, .int a1)] [] M (fX10_search a0 a1 M) := by
  show am_S am_ei G 5 yX10_search.cls yX10_search.name cX10_search 5 (some FieldType.int) 0 [(0, .ref a0), (1, .int a1)] [] M ((fX10_isIn a1 0 1 M).bind fun p6 => if p6.1 = 0 then some ((-1), p6.2) else (fX10_setCover a0 0 p6.2).bind fun M9 => am_loop (fX10_search_20) 100000 (a0, a1, 0, 0, M9))
  refine am_iload_n 1 dX10_search_0 rfl rfl ?_
  refine am_iconst dX10_search_1 am_kc_0 ?_
  refine am_iconst dX10_search_2 am_kc_1 ?_
  refine am_callSi [.int a1, .int 0, .int 1] (CX10_isIn G a1 0 1 M) dX10_search_3 mb_yX10_isIn ⟨ml_RX10_66, sm_yX10_isIn⟩ (by decide) rfl rfl (Nat.le_of_ble_eq_true rfl) (fun v5 M2 q1 w4 l3 => ?_)
  refine am_if_ne (tgt := 11) dX10_search_6 (by decide) (fun c7 => ?_) (fun c7 => ?_)
  · refine am_aload_n 0 dX10_search_11 rfl rfl ?_
    refine am_iconst dX10_search_12 am_kc_0 ?_
    refine am_callVv 9 [.int 0] (CX10_setCover G a0 0 M2 (am_sh.mono l3 h_a0)) dX10_search_13 mb_yX10_setCover ⟨ml_RX10_204, im_yX10_setCover, se_yX10_setCover⟩ rfl (am_sh.mono l3 h_a0) (by decide) rfl rfl (Nat.le_of_ble_eq_true rfl) (fun M9 q8 w11 l10 => ?_)
    refine am_iconst dX10_search_16 am_kc_0 ?_
    refine am_istore_n (L' := [(2, .int 0), (0, .ref a0), (1, .int a1)]) dX10_search_17 rfl (by decide) rfl ?_
    refine am_iconst dX10_search_18 am_kc_0 ?_
    refine am_istore_n (L' := [(3, .int 0), (2, .int 0), (0, .ref a0), (1, .int a1)]) dX10_search_19 rfl (by decide) rfl ?_
    refine am_sub [2, 3, 1, 0] rfl ?_
    exact lX10_search_20 G 100000 (a0, a1, 0, 0, M9) (am_sh.mono l10 (am_sh.mono l3 h_a0))
  · refine am_iconst dX10_search_9 am_kc_m1 ?_
    exact am_iret dX10_search_10
theorem CX10_search (G : am_G) (a0 : Nat) (a1 : Int32) (M : am_M) (h_a0 : am_sh M a0 14) : am_C am_ei G 5 yX10_search cX10_search 5 (some FieldType.int) [.ref a0, .int a1] M (fX10_search a0 a1 M) :=
  am_meth (by decide) rfl (Nat.le_of_ble_eq_true rfl) (sX10_search_0 G a0 a1 M h_a0)
def fX10_found_45 (k10 : (Nat × Int32 × Int32 × Int32 × am_M) → Option (Int32 × am_M)) (x0 : Nat) (x1 : Int32) (x2 : Int32) (x3 : Int32) (M : am_M) : Option (Int32 × am_M) := k10 (x0, x1, x2, x3 + 1, M)
def fX10_found_10 : ((Nat × Int32 × Int32 × Int32 × am_M) → Option (Int32 × am_M)) → (Nat × Int32 × Int32 × Int32 × am_M) → Option (Int32 × am_M) := fun k10 q0 => match q0 with
  | (x0, x1, x2, x3, M) => if M.1 x0 6 ≤ x3 then some ((-4), M) else (fX10_orderedAt x0 x3 M).bind fun p8 => (fX10_isFound x0 p8.1 p8.2).bind fun p14 => if p14.1 = 0 then fX10_found_45 k10 x0 x1 x2 x3 p14.2 else if x2 = x1 then some (p8.1, p14.2) else fX10_found_45 k10 x0 x1 (x2 + 1) x3 p14.2
def fX10_found (a0 : Nat) (a1 : Int32) (M : am_M) : Option (Int32 × am_M) := if (0 : Int32) ≤ a1 then am_loop (fX10_found_10) 100000 (a0, a1, 0, 0, M) else some ((-1), M)
set_option maxRecDepth 100000 in
set_option maxHeartbeats 4000000 in
theorem sX10_found_45 (G : am_G) (k10 : (Nat × Int32 × Int32 × Int32 × am_M) → Option (Int32 × am_M)) (hk10 : ∀ q : (Nat × Int32 × Int32 × Int32 × am_M), (match q with | (x0, x1, x2, x3, M) => am_sh M x0 14) → match q with | (x0, x1, x2, x3, M) => am_S am_ei G 4 yX10_found.cls yX10_found.name cX10_found 5 (some FieldType.int) 10 [(0, .ref x0), (1, .int x1), (2, .int x2), (3, .int x3)] [] M (k10 (x0, x1, x2, x3, M))) (x0 : Nat) (x1 : Int32) (x2 : Int32) (x3 : Int32) (M : am_M) (h_x0 : am_sh M x0 14) : am_S am_ei G 4 yX10_found.cls yX10_found.name cX10_found 5 (some FieldType.int) 45 [(0, .ref x0), (1, .int x1), (2, .int x2), (3, .int x3)] [] M (fX10_found_45 k10 x0 x1 x2 x3 M) := by
  show am_S am_ei G 4 yX10_found.cls yX10_found.name cX10_found 5 (some FieldType.int) 45 [(0, .ref x0), (1, .int x1), (2, .int x2), (3, .int x3)] [] M (k10 (x0, x1, x2, x3 + 1, M))
  refine am_iinc (L' := [(3, .int (x3 + 1)), (0, .ref x0), (1, .int x1), (2, .int x2)]) 3 dX10_found_45 rfl (by rfl) (by decide) rfl ?_
  refine am_goto (tgt := 10) dX10_found_48 (by decide) ?_
  refine am_sub [1, 2, 3, 0] rfl ?_
  exact hk10 (x0, x1, x2, x3 + 1, M) h_x0
set_option maxRecDepth 100000 in
set_option maxHeartbeats 4000000 in
theorem sX10_found_10 (G : am_G) (k10 : (Nat × Int32 × Int32 × Int32 × am_M) → Option (Int32 × am_M)) (hk10 : ∀ q : (Nat × Int32 × Int32 × Int32 × am_M), (match q with | (x0, x1, x2, x3, M) => am_sh M x0 14) → match q with | (x0, x1, x2, x3, M) => am_S am_ei G 4 yX10_found.cls yX10_found.name cX10_found 5 (some FieldType.int) 10 [(0, .ref x0), (1, .int x1), (2, .int x2), (3, .int x3)] [] M (k10 (x0, x1, x2, x3, M))) (x0 : Nat) (x1 : Int32) (x2 : Int32) (x3 : Int32) (M : am_M) (h_x0 : am_sh M x0 14) : am_S am_ei G 4 yX10_found.cls yX10_found.name cX10_found 5 (some FieldType.int) 10 [(0, .ref x0), (1, .int x1), (2, .int x2), (3, .int x3)] [] M (fX10_found_10 k10 (x0, x1, x2, x3, M)) := by
  show am_S am_ei G 4 yX10_found.cls yX10_found.name cX10_found 5 (some FieldType.int) 10 [(0, .ref x0), (1, .int x1), (2, .int x2), (3, .int x3)] [] M (if M.1 x0 6 ≤ x3 then some ((-4), M) else (fX10_orderedAt x0 x3 M).bind fun p8 => (fX10_isFound x0 p8.1 p8.2).bind fun p14 => if p14.1 = 0 then fX10_found_45 k10 x0 x1 x2 x3 p14.2 else if x2 = x1 then some (p8.1, p14.2) else fX10_found_45 k10 x0 x1 (x2 + 1) x3 p14.2)
  refine am_iload_n 3 dX10_found_10 rfl rfl ?_
  refine am_aload_n 0 dX10_found_11 rfl rfl ?_
  refine am_getI 9 dX10_found_12 fl_RX10_26 h_x0 rfl ?_
  refine am_icmp_ge (tgt := 51) dX10_found_15 (by decide) (fun c2 => ?_) (fun c2 => ?_)
  · refine am_bipush (x := -4) dX10_found_51 (by decide) ?_
    exact am_iret dX10_found_53
  · refine am_aload_n 0 dX10_found_18 rfl rfl ?_
    refine am_iload_n 3 dX10_found_19 rfl rfl ?_
    refine am_callVi 9 [.int x3] (CX10_orderedAt G x0 x3 M h_x0) dX10_found_20 mb_yX10_orderedAt ⟨ml_RX10_235, im_yX10_orderedAt, se_yX10_orderedAt⟩ rfl h_x0 (by decide) rfl rfl (Nat.le_of_ble_eq_true rfl) (fun v7 M4 q3 w6 l5 => ?_)
    refine am_istore (L' := [(4, .int v7), (0, .ref x0), (1, .int x1), (2, .int x2), (3, .int x3)]) dX10_found_23 (by decide) rfl ?_
    refine am_aload_n 1 dX10_found_25 rfl rfl ?_
    refine am_iload 0 dX10_found_26 rfl ?_
    refine am_callVi 9 [.int v7] (CX10_isFound G x0 v7 M4 (am_sh.mono l5 h_x0)) dX10_found_28 mb_yX10_isFound ⟨ml_RX10_238, im_yX10_isFound, se_yX10_isFound⟩ rfl (am_sh.mono l5 h_x0) (by decide) rfl rfl (Nat.le_of_ble_eq_true rfl) (fun v13 M10 q9 w12 l11 => ?_)
    refine am_if_eq (tgt := 45) dX10_found_31 (by decide) (fun c15 => ?_) (fun c15 => ?_)
    · refine am_sub [1, 2, 3, 4] rfl ?_
      exact sX10_found_45 G k10 hk10 x0 x1 x2 x3 M10 (am_sh.mono l11 (am_sh.mono l5 h_x0))
    · refine am_iload_n 3 dX10_found_34 rfl rfl ?_
      refine am_iload_n 2 dX10_found_35 rfl rfl ?_
      refine am_icmp_ne (tgt := 42) dX10_found_36 (by decide) (fun c16 => ?_) (fun c16 => ?_)
      · refine am_iinc (L' := [(2, .int (x2 + 1)), (4, .int v7), (0, .ref x0), (1, .int x1), (3, .int x3)]) 3 dX10_found_42 rfl (by rfl) (by decide) rfl ?_
        refine am_sub [2, 3, 0, 4] rfl ?_
        exact sX10_found_45 G k10 hk10 x0 x1 (x2 + 1) x3 M10 (am_sh.mono l11 (am_sh.mono l5 h_x0))
      · refine am_iload 0 dX10_found_39 rfl ?_
        exact am_iret dX10_found_41
set_option maxRecDepth 100000 in
set_option maxHeartbeats 4000000 in
theorem lX10_found_10 (G : am_G) (n : Nat) (q : (Nat × Int32 × Int32 × Int32 × am_M)) (hq : match q with | (x0, x1, x2, x3, M) => am_sh M x0 14) : match q with | (x0, x1, x2, x3, M) => am_S am_ei G 4 yX10_found.cls yX10_found.name cX10_found 5 (some FieldType.int) 10 [(0, .ref x0), (1, .int x1), (2, .int x2), (3, .int x3)] [] M (am_loop (fX10_found_10) n (x0, x1, x2, x3, M)) := by
  exact am_loop_ok (fun q : (Nat × Int32 × Int32 × Int32 × am_M) => match q with | (x0, x1, x2, x3, M) => am_sh M x0 14) (fun q X => match q with | (x0, x1, x2, x3, M) => am_S am_ei G 4 yX10_found.cls yX10_found.name cX10_found 5 (some FieldType.int) 10 [(0, .ref x0), (1, .int x1), (2, .int x2), (3, .int x3)] [] M X) (fun _ => am_none) (fun k10 hk10 q hq => match q, hq with | (x0, x1, x2, x3, M), h_x0 => sX10_found_10 G k10 hk10 x0 x1 x2 x3 M h_x0) n q hq
set_option maxRecDepth 100000 in
set_option maxHeartbeats 4000000 in
theorem sX10_found_0 (G : am_G) (a0 : Nat) (a1 : Int32) (M : am_M) (h_a0 : am_sh M a0 14) : am_S am_ei G 4 yX10_found.cls yX10_found.name cX10_found 5 (some FieldType.int) 0 [(0, .ref a0), (1, .int a1)] [] M (fX10_found a0 a1 M) := by
  show am_S am_ei G 4 yX10_found.cls yX10_found.name cX10_found 5 (some FieldType.int) 0 [(0, .ref a0), (1, .int a1)] [] M (if (0 : Int32) ≤ a1 then am_loop (fX10_found_10) 100000 (a0, a1, 0, 0, M) else some ((-1), M))
  refine am_iload_n 1 dX10_found_0 rfl rfl ?_
  refine am_if_ge (tgt := 6) dX10_found_1 (by decide) (fun c1 => ?_) (fun c1 => ?_)
  · refine am_iconst dX10_found_6 am_kc_0 ?_
    refine am_istore_n (L' := [(2, .int 0), (0, .ref a0), (1, .int a1)]) dX10_found_7 rfl (by decide) rfl ?_
    refine am_iconst dX10_found_8 am_kc_0 ?_
    refine am_istore_n (L' := [(3, .int 0), (2, .int 0), (0, .ref a0), (1, .int a1)]) dX10_found_9 rfl (by decide) rfl ?_
    refine am_sub [2, 3, 1, 0] rfl ?_
    exact lX10_found_10 G 100000 (a0, a1, 0, 0, M) h_a0
  · refine am_iconst dX10_found_4 am_kc_m1 ?_
    exact am_iret dX10_found_5
theorem CX10_found (G : am_G) (a0 : Nat) (a1 : Int32) (M : am_M) (h_a0 : am_sh M a0 14) : am_C am_ei G 4 yX10_found cX10_found 5 (some FieldType.int) [.ref a0, .int a1] M (fX10_found a0 a1 M) :=
  am_meth (by decide) rfl (Nat.le_of_ble_eq_true rfl) (sX10_found_0 G a0 a1 M h_a0)
def fX10_nearest_84 (k20 : (Nat × Int32 × Int32 × Int32 × Int32 × Int32 × am_M) → Option (Int32 × am_M)) (x0 : Nat) (x1 : Int32) (x2 : Int32) (x3 : Int32) (x4 : Int32) (x5 : Int32) (M : am_M) : Option (Int32 × am_M) := k20 (x0, x1, x2, x3, x4, x5 + 1, M)
def fX10_nearest_77 (k20 : (Nat × Int32 × Int32 × Int32 × Int32 × Int32 × am_M) → Option (Int32 × am_M)) (x0 : Nat) (x1 : Int32) (x2 : Int32) (x5 : Int32) (x8 : Int32) (M : am_M) : Option (Int32 × am_M) := fX10_nearest_84 k20 x0 x1 x2 x5 x8 x5 M
def fX10_nearest_20 : ((Nat × Int32 × Int32 × Int32 × Int32 × Int32 × am_M) → Option (Int32 × am_M)) → (Nat × Int32 × Int32 × Int32 × Int32 × Int32 × am_M) → Option (Int32 × am_M) := fun k20 q0 => match q0 with
  | (x0, x1, x2, x3, x4, x5, M) => if M.1 x0 6 ≤ x5 then some (x3, M) else (M.2.2.1 x0 7).bind fun r9 => if x5 < 0 ∨ am_len M r9 ≤ x5.toNatClampNeg then none else (M.2.2.1 x0 8).bind fun r13 => if x5 < 0 ∨ am_len M r13 ≤ x5.toNatClampNeg then none else if x3 = (-4) then fX10_nearest_77 k20 x0 x1 x2 x5 (((x1 - (M.1 r9 (x5.toNatClampNeg))) * (x1 - (M.1 r9 (x5.toNatClampNeg)))) + ((x2 - (M.1 r13 (x5.toNatClampNeg))) * (x2 - (M.1 r13 (x5.toNatClampNeg))))) M else if x4 ≤ ((x1 - (M.1 r9 (x5.toNatClampNeg))) * (x1 - (M.1 r9 (x5.toNatClampNeg)))) + ((x2 - (M.1 r13 (x5.toNatClampNeg))) * (x2 - (M.1 r13 (x5.toNatClampNeg)))) then fX10_nearest_84 k20 x0 x1 x2 x3 x4 x5 M else fX10_nearest_77 k20 x0 x1 x2 x5 (((x1 - (M.1 r9 (x5.toNatClampNeg))) * (x1 - (M.1 r9 (x5.toNatClampNeg)))) + ((x2 - (M.1 r13 (x5.toNatClampNeg))) * (x2 - (M.1 r13 (x5.toNatClampNeg))))) M
def fX10_nearest (a0 : Nat) (a1 : Int32) (a2 : Int32) (M : am_M) : Option (Int32 × am_M) := (fX10_isCell a0 a1 a2 M).bind fun p6 => if p6.1 = 0 then some ((-1), p6.2) else am_loop (fX10_nearest_20) 100000 (a0, a1, a2, (-4), 0, 0, p6.2)
set_option maxRecDepth 100000 in
set_option maxHeartbeats 4000000 in
theorem sX10_nearest_84 (G : am_G) (k20 : (Nat × Int32 × Int32 × Int32 × Int32 × Int32 × am_M) → Option (Int32 × am_M)) (hk20 : ∀ q : (Nat × Int32 × Int32 × Int32 × Int32 × Int32 × am_M), (match q with | (x0, x1, x2, x3, x4, x5, M) => am_sh M x0 14) → match q with | (x0, x1, x2, x3, x4, x5, M) => am_S am_ei G 2 yX10_nearest.cls yX10_nearest.name cX10_nearest 9 (some FieldType.int) 20 [(0, .ref x0), (1, .int x1), (2, .int x2), (3, .int x3), (4, .int x4), (5, .int x5)] [] M (k20 (x0, x1, x2, x3, x4, x5, M))) (x0 : Nat) (x1 : Int32) (x2 : Int32) (x3 : Int32) (x4 : Int32) (x5 : Int32) (M : am_M) (h_x0 : am_sh M x0 14) : am_S am_ei G 2 yX10_nearest.cls yX10_nearest.name cX10_nearest 9 (some FieldType.int) 84 [(0, .ref x0), (1, .int x1), (2, .int x2), (3, .int x3), (4, .int x4), (5, .int x5)] [] M (fX10_nearest_84 k20 x0 x1 x2 x3 x4 x5 M) := by
  show am_S am_ei G 2 yX10_nearest.cls yX10_nearest.name cX10_nearest 9 (some FieldType.int) 84 [(0, .ref x0), (1, .int x1), (2, .int x2), (3, .int x3), (4, .int x4), (5, .int x5)] [] M (k20 (x0, x1, x2, x3, x4, x5 + 1, M))
  refine am_iinc (L' := [(5, .int (x5 + 1)), (0, .ref x0), (1, .int x1), (2, .int x2), (3, .int x3), (4, .int x4)]) 5 dX10_nearest_84 rfl (by rfl) (by decide) rfl ?_
  refine am_goto (tgt := 20) dX10_nearest_87 (by decide) ?_
  refine am_sub [1, 2, 3, 4, 5, 0] rfl ?_
  exact hk20 (x0, x1, x2, x3, x4, x5 + 1, M) h_x0
set_option maxRecDepth 100000 in
set_option maxHeartbeats 4000000 in
theorem sX10_nearest_77 (G : am_G) (k20 : (Nat × Int32 × Int32 × Int32 × Int32 × Int32 × am_M) → Option (Int32 × am_M)) (hk20 : ∀ q : (Nat × Int32 × Int32 × Int32 × Int32 × Int32 × am_M), (match q with | (x0, x1, x2, x3, x4, x5, M) => am_sh M x0 14) → match q with | (x0, x1, x2, x3, x4, x5, M) => am_S am_ei G 2 yX10_nearest.cls yX10_nearest.name cX10_nearest 9 (some FieldType.int) 20 [(0, .ref x0), (1, .int x1), (2, .int x2), (3, .int x3), (4, .int x4), (5, .int x5)] [] M (k20 (x0, x1, x2, x3, x4, x5, M))) (x0 : Nat) (x1 : Int32) (x2 : Int32) (x5 : Int32) (x8 : Int32) (M : am_M) (h_x0 : am_sh M x0 14) : am_S am_ei G 2 yX10_nearest.cls yX10_nearest.name cX10_nearest 9 (some FieldType.int) 77 [(0, .ref x0), (1, .int x1), (2, .int x2), (5, .int x5), (8, .int x8)] [] M (fX10_nearest_77 k20 x0 x1 x2 x5 x8 M) := by
  show am_S am_ei G 2 yX10_nearest.cls yX10_nearest.name cX10_nearest 9 (some FieldType.int) 77 [(0, .ref x0), (1, .int x1), (2, .int x2), (5, .int x5), (8, .int x8)] [] M (fX10_nearest_84 k20 x0 x1 x2 x5 x8 x5 M)
  refine am_iload 3 dX10_nearest_77 rfl ?_
  refine am_istore_n (L' := [(3, .int x5), (0, .ref x0), (1, .int x1), (2, .int x2), (5, .int x5), (8, .int x8)]) dX10_nearest_79 rfl (by decide) rfl ?_
  refine am_iload 5 dX10_nearest_80 rfl ?_
  refine am_istore (L' := [(4, .int x8), (3, .int x5), (0, .ref x0), (1, .int x1), (2, .int x2), (5, .int x5), (8, .int x8)]) dX10_nearest_82 (by decide) rfl ?_
  refine am_sub [2, 3, 4, 1, 0, 5] rfl ?_
  exact sX10_nearest_84 G k20 hk20 x0 x1 x2 x5 x8 x5 M h_x0
set_option maxRecDepth 100000 in
set_option maxHeartbeats 4000000 in
theorem sX10_nearest_20 (G : am_G) (k20 : (Nat × Int32 × Int32 × Int32 × Int32 × Int32 × am_M) → Option (Int32 × am_M)) (hk20 : ∀ q : (Nat × Int32 × Int32 × Int32 × Int32 × Int32 × am_M), (match q with | (x0, x1, x2, x3, x4, x5, M) => am_sh M x0 14) → match q with | (x0, x1, x2, x3, x4, x5, M) => am_S am_ei G 2 yX10_nearest.cls yX10_nearest.name cX10_nearest 9 (some FieldType.int) 20 [(0, .ref x0), (1, .int x1), (2, .int x2), (3, .int x3), (4, .int x4), (5, .int x5)] [] M (k20 (x0, x1, x2, x3, x4, x5, M))) (x0 : Nat) (x1 : Int32) (x2 : Int32) (x3 : Int32) (x4 : Int32) (x5 : Int32) (M : am_M) (h_x0 : am_sh M x0 14) : am_S am_ei G 2 yX10_nearest.cls yX10_nearest.name cX10_nearest 9 (some FieldType.int) 20 [(0, .ref x0), (1, .int x1), (2, .int x2), (3, .int x3), (4, .int x4), (5, .int x5)] [] M (fX10_nearest_20 k20 (x0, x1, x2, x3, x4, x5, M)) := by
  show am_S am_ei G 2 yX10_nearest.cls yX10_nearest.name cX10_nearest 9 (some FieldType.int) 20 [(0, .ref x0), (1, .int x1), (2, .int x2), (3, .int x3), (4, .int x4), (5, .int x5)] [] M (if M.1 x0 6 ≤ x5 then some (x3, M) else (M.2.2.1 x0 7).bind fun r9 => if x5 < 0 ∨ am_len M r9 ≤ x5.toNatClampNeg then none else (M.2.2.1 x0 8).bind fun r13 => if x5 < 0 ∨ am_len M r13 ≤ x5.toNatClampNeg then none else if x3 = (-4) then fX10_nearest_77 k20 x0 x1 x2 x5 (((x1 - (M.1 r9 (x5.toNatClampNeg))) * (x1 - (M.1 r9 (x5.toNatClampNeg)))) + ((x2 - (M.1 r13 (x5.toNatClampNeg))) * (x2 - (M.1 r13 (x5.toNatClampNeg))))) M else if x4 ≤ ((x1 - (M.1 r9 (x5.toNatClampNeg))) * (x1 - (M.1 r9 (x5.toNatClampNeg)))) + ((x2 - (M.1 r13 (x5.toNatClampNeg))) * (x2 - (M.1 r13 (x5.toNatClampNeg)))) then fX10_nearest_84 k20 x0 x1 x2 x3 x4 x5 M else fX10_nearest_77 k20 x0 x1 x2 x5 (((x1 - (M.1 r9 (x5.toNatClampNeg))) * (x1 - (M.1 r9 (x5.toNatClampNeg)))) + ((x2 - (M.1 r13 (x5.toNatClampNeg))) * (x2 - (M.1 r13 (x5.toNatClampNeg))))) M)
  refine am_iload 5 dX10_nearest_20 rfl ?_
  refine am_aload_n 0 dX10_nearest_22 rfl rfl ?_
  refine am_getI 9 dX10_nearest_23 fl_RX10_26 h_x0 rfl ?_
  refine am_icmp_ge (tgt := 90) dX10_nearest_26 (by decide) (fun c8 => ?_) (fun c8 => ?_)
  · refine am_iload_n 3 dX10_nearest_90 rfl rfl ?_
    exact am_iret dX10_nearest_91
  · refine am_iload_n 1 dX10_nearest_29 rfl rfl ?_
    refine am_aload_n 0 dX10_nearest_30 rfl rfl ?_
    refine am_getR 9 dX10_nearest_31 fl_RX10_29 h_x0 rfl (fun r9 e10 h11 => ?_)
    refine am_iload 5 dX10_nearest_34 rfl ?_
    refine am_iald dX10_nearest_36 h11 (fun b12 => ?_)
    refine am_isub dX10_nearest_37 ?_
    refine am_istore (L' := [(6, .int (x1 - (M.1 r9 (x5.toNatClampNeg)))), (0, .ref x0), (1, .int x1), (2, .int x2), (3, .int x3), (4, .int x4), (5, .int x5)]) dX10_nearest_38 (by decide) rfl ?_
    refine am_iload_n 3 dX10_nearest_40 rfl rfl ?_
    refine am_aload_n 1 dX10_nearest_41 rfl rfl ?_
    refine am_getR 9 dX10_nearest_42 fl_RX10_32 h_x0 rfl (fun r13 e14 h15 => ?_)
    refine am_iload 6 dX10_nearest_45 rfl ?_
    refine am_iald dX10_nearest_47 h15 (fun b16 => ?_)
    refine am_isub dX10_nearest_48 ?_
    refine am_istore (L' := [(7, .int (x2 - (M.1 r13 (x5.toNatClampNeg)))), (6, .int (x1 - (M.1 r9 (x5.toNatClampNeg)))), (0, .ref x0), (1, .int x1), (2, .int x2), (3, .int x3), (4, .int x4), (5, .int x5)]) dX10_nearest_49 (by decide) rfl ?_
    refine am_iload 1 dX10_nearest_51 rfl ?_
    refine am_iload 1 dX10_nearest_53 rfl ?_
    refine am_imul dX10_nearest_55 ?_
    refine am_iload 0 dX10_nearest_56 rfl ?_
    refine am_iload 0 dX10_nearest_58 rfl ?_
    refine am_imul dX10_nearest_60 ?_
    refine am_iadd dX10_nearest_61 ?_
    refine am_istore (L' := [(8, .int (((x1 - (M.1 r9 (x5.toNatClampNeg))) * (x1 - (M.1 r9 (x5.toNatClampNeg)))) + ((x2 - (M.1 r13 (x5.toNatClampNeg))) * (x2 - (M.1 r13 (x5.toNatClampNeg)))))), (7, .int (x2 - (M.1 r13 (x5.toNatClampNeg)))), (6, .int (x1 - (M.1 r9 (x5.toNatClampNeg)))), (0, .ref x0), (1, .int x1), (2, .int x2), (3, .int x3), (4, .int x4), (5, .int x5)]) dX10_nearest_62 (by decide) rfl ?_
    refine am_iload_n 6 dX10_nearest_64 rfl rfl ?_
    refine am_bipush (x := -4) dX10_nearest_65 (by decide) ?_
    refine am_icmp_eq (tgt := 77) dX10_nearest_67 (by decide) (fun c17 => ?_) (fun c17 => ?_)
    · refine am_sub [3, 4, 5, 8, 0] rfl ?_
      exact sX10_nearest_77 G k20 hk20 x0 x1 x2 x5 (((x1 - (M.1 r9 (x5.toNatClampNeg))) * (x1 - (M.1 r9 (x5.toNatClampNeg)))) + ((x2 - (M.1 r13 (x5.toNatClampNeg))) * (x2 - (M.1 r13 (x5.toNatClampNeg))))) M h_x0
    · refine am_iload 0 dX10_nearest_70 rfl ?_
      refine am_iload 7 dX10_nearest_72 rfl ?_
      refine am_icmp_ge (tgt := 84) dX10_nearest_74 (by decide) (fun c18 => ?_) (fun c18 => ?_)
      · refine am_sub [3, 4, 5, 6, 7, 8] rfl ?_
        exact sX10_nearest_84 G k20 hk20 x0 x1 x2 x3 x4 x5 M h_x0
      · refine am_sub [3, 4, 5, 8, 0] rfl ?_
        exact sX10_nearest_77 G k20 hk20 x0 x1 x2 x5 (((x1 - (M.1 r9 (x5.toNatClampNeg))) * (x1 - (M.1 r9 (x5.toNatClampNeg)))) + ((x2 - (M.1 r13 (x5.toNatClampNeg))) * (x2 - (M.1 r13 (x5.toNatClampNeg))))) M h_x0
set_option maxRecDepth 100000 in
set_option maxHeartbeats 4000000 in
theorem lX10_nearest_20 (G : am_G) (n : Nat) (q : (Nat × Int32 × Int32 × Int32 × Int32 × Int32 × am_M)) (hq : match q with | (x0, x1, x2, x3, x4, x5, M) => am_sh M x0 14) : match q with | (x0, x1, x2, x3, x4, x5, M) => am_S am_ei G 2 yX10_nearest.cls yX10_nearest.name cX10_nearest 9 (some FieldType.int) 20 [(0, .ref x0), (1, .int x1), (2, .int x2), (3, .int x3), (4, .int x4), (5, .int x5)] [] M (am_loop (fX10_nearest_20) n (x0, x1, x2, x3, x4, x5, M)) := by
  exact am_loop_ok (fun q : (Nat × Int32 × Int32 × Int32 × Int32 × Int32 × am_M) => match q with | (x0, x1, x2, x3, x4, x5, M) => am_sh M x0 14) (fun q X => match q with | (x0, x1, x2, x3, x4, x5, M) => am_S am_ei G 2 yX10_nearest.cls yX10_nearest.name cX10_nearest 9 (some FieldType.int) 20 [(0, .ref x0), (1, .int x1), (2, .int x2), (3, .int x3), (4, .int x4), (5, .int x5)] [] M X) (fun _ => am_none) (fun k20 hk20 q hq => match q, hq with | (x0, x1, x2, x3, x4, x5, M), h_x0 => sX10_nearest_20 G k20 hk20 x0 x1 x2 x3 x4 x5 M h_x0) n q hq
set_option maxRecDepth 100000 in
set_option maxHeartbeats 4000000 in
theorem sX10_nearest_0 (G : am_G) (a0 : Nat) (a1 : Int32) (a2 : Int32) (M : am_M) (h_a0 : am_sh M a0 14) : am_S am_ei G 2 yX10_nearest.cls yX10_nearest.name cX10_nearest 9 (some FieldType.int) 0 [(0, .ref a0), (1, .int a1), (2, .int a2)] [] M (fX10_nearest a0 a1 a2 M) := by
  show am_S am_ei G 2 yX10_nearest.cls yX10_nearest.name cX10_nearest 9 (some FieldType.int) 0 [(0, .ref a0), (1, .int a1), (2, .int a2)] [] M ((fX10_isCell a0 a1 a2 M).bind fun p6 => if p6.1 = 0 then some ((-1), p6.2) else am_loop (fX10_nearest_20) 100000 (a0, a1, a2, (-4), 0, 0, p6.2))
  refine am_aload_n 0 dX10_nearest_0 rfl rfl ?_
  refine am_iload_n 1 dX10_nearest_1 rfl rfl ?_
  refine am_iload_n 2 dX10_nearest_2 rfl rfl ?_
  refine am_callVi 9 [.int a1, .int a2] (CX10_isCell G a0 a1 a2 M h_a0) dX10_nearest_3 mb_yX10_isCell ⟨ml_RX10_140, im_yX10_isCell, se_yX10_isCell⟩ rfl h_a0 (by decide) rfl rfl (Nat.le_of_ble_eq_true rfl) (fun v5 M2 q1 w4 l3 => ?_)
  refine am_if_ne (tgt := 11) dX10_nearest_6 (by decide) (fun c7 => ?_) (fun c7 => ?_)
  · refine am_bipush (x := -4) dX10_nearest_11 (by decide) ?_
    refine am_istore_n (L' := [(3, .int (-4)), (0, .ref a0), (1, .int a1), (2, .int a2)]) dX10_nearest_13 rfl (by decide) rfl ?_
    refine am_iconst dX10_nearest_14 am_kc_0 ?_
    refine am_istore (L' := [(4, .int 0), (3, .int (-4)), (0, .ref a0), (1, .int a1), (2, .int a2)]) dX10_nearest_15 (by decide) rfl ?_
    refine am_iconst dX10_nearest_17 am_kc_0 ?_
    refine am_istore (L' := [(5, .int 0), (4, .int 0), (3, .int (-4)), (0, .ref a0), (1, .int a1), (2, .int a2)]) dX10_nearest_18 (by decide) rfl ?_
    refine am_sub [3, 4, 5, 2, 1, 0] rfl ?_
    exact lX10_nearest_20 G 100000 (a0, a1, a2, (-4), 0, 0, M2) (am_sh.mono l3 h_a0)
  · refine am_iconst dX10_nearest_9 am_kc_m1 ?_
    exact am_iret dX10_nearest_10
theorem CX10_nearest (G : am_G) (a0 : Nat) (a1 : Int32) (a2 : Int32) (M : am_M) (h_a0 : am_sh M a0 14) : am_C am_ei G 2 yX10_nearest cX10_nearest 9 (some FieldType.int) [.ref a0, .int a1, .int a2] M (fX10_nearest a0 a1 a2 M) :=
  am_meth (by decide) rfl (Nat.le_of_ble_eq_true rfl) (sX10_nearest_0 G a0 a1 a2 M h_a0)
def fX10_shapeMany (a0 : Nat) (M : am_M) : Option (Int32 × am_M) := (fX10_setShape a0 M).bind fun M2 => (fX10_shapeIn a0 0 0 M2).bind fun p11 => some (p11.1, p11.2)
set_option maxRecDepth 100000 in
set_option maxHeartbeats 4000000 in
theorem sX10_shapeMany_0 (G : am_G) (a0 : Nat) (M : am_M) (h_a0 : am_sh M a0 14) : am_S am_ei G 4 yX10_shapeMany.cls yX10_shapeMany.name cX10_shapeMany 1 (some FieldType.int) 0 [(0, .ref a0)] [] M (fX10_shapeMany a0 M) := by
  show am_S am_ei G 4 yX10_shapeMany.cls yX10_shapeMany.name cX10_shapeMany 1 (some FieldType.int) 0 [(0, .ref a0)] [] M ((fX10_setShape a0 M).bind fun M2 => (fX10_shapeIn a0 0 0 M2).bind fun p11 => some (p11.1, p11.2))
  refine am_aload_n 0 dX10_shapeMany_0 rfl rfl ?_
  refine am_callVv 9 [] (CX10_setShape G a0 M h_a0) dX10_shapeMany_1 mb_yX10_setShape ⟨ml_RX10_180, im_yX10_setShape, se_yX10_setShape⟩ rfl h_a0 (by decide) rfl rfl (Nat.le_of_ble_eq_true rfl) (fun M2 q1 w4 l3 => ?_)
  refine am_aload_n 0 dX10_shapeMany_4 rfl rfl ?_
  refine am_iconst dX10_shapeMany_5 am_kc_0 ?_
  refine am_iconst dX10_shapeMany_6 am_kc_0 ?_
  refine am_callVi 9 [.int 0, .int 0] (CX10_shapeIn G a0 0 0 M2 (am_sh.mono l3 h_a0)) dX10_shapeMany_7 mb_yX10_shapeIn ⟨ml_RX10_183, im_yX10_shapeIn, se_yX10_shapeIn⟩ rfl (am_sh.mono l3 h_a0) (by decide) rfl rfl (Nat.le_of_ble_eq_true rfl) (fun v10 M7 q6 w9 l8 => ?_)
  exact am_iret dX10_shapeMany_10
theorem CX10_shapeMany (G : am_G) (a0 : Nat) (M : am_M) (h_a0 : am_sh M a0 14) : am_C am_ei G 4 yX10_shapeMany cX10_shapeMany 1 (some FieldType.int) [.ref a0] M (fX10_shapeMany a0 M) :=
  am_meth (by decide) rfl (Nat.le_of_ble_eq_true rfl) (sX10_shapeMany_0 G a0 M h_a0)
def fX10_count (a0 : Nat) (a1 : Int32) (M : am_M) : Option (Int32 × am_M) := if a1 = 0 then some (M.1 a0 0, M) else if a1 = 1 then some (M.1 a0 1, M) else if a1 = 2 then some (M.1 a0 2, M) else if a1 = 3 then some (M.1 a0 3, M) else if a1 = 4 then some (M.1 a0 4, M) else if a1 = 5 then some (M.1 a0 6, M) else if a1 = 6 then (fX10_shapeMany a0 M).bind fun p13 => some (p13.1, p13.2) else if a1 = 7 then some (M.1 a0 10, M) else if a1 = 8 then some (M.1 a0 11, M) else some ((-1), M)
set_option maxRecDepth 100000 in
set_option maxHeartbeats 4000000 in
theorem sX10_count_0 (G : am_G) (a0 : Nat) (a1 : Int32) (M : am_M) (h_a0 : am_sh M a0 14) : am_S am_ei G 5 yX10_count.cls yX10_count.name cX10_count 2 (some FieldType.int) 0 [(0, .ref a0), (1, .int a1)] [] M (fX10_count a0 a1 M) := by
  show am_S am_ei G 5 yX10_count.cls yX10_count.name cX10_count 2 (some FieldType.int) 0 [(0, .ref a0), (1, .int a1)] [] M (if a1 = 0 then some (M.1 a0 0, M) else if a1 = 1 then some (M.1 a0 1, M) else if a1 = 2 then some (M.1 a0 2, M) else if a1 = 3 then some (M.1 a0 3, M) else if a1 = 4 then some (M.1 a0 4, M) else if a1 = 5 then some (M.1 a0 6, M) else if a1 = 6 then (fX10_shapeMany a0 M).bind fun p13 => some (p13.1, p13.2) else if a1 = 7 then some (M.1 a0 10, M) else if a1 = 8 then some (M.1 a0 11, M) else some ((-1), M))
  refine am_iload_n 1 dX10_count_0 rfl rfl ?_
  refine am_case (fun c1 => ?_) (fun c1 => ?_)
  · have e_c1 : a1.toInt = 0 := by rw [c1]; decide
    refine am_swIn (off := 51) (tgt := 52) dX10_count_1 (by omega) (by omega) (by rw [e_c1]; rfl) (by decide) ?_
    refine am_aload_n 0 dX10_count_52 rfl rfl ?_
    refine am_getI 9 dX10_count_53 fl_RX10_7 h_a0 rfl ?_
    exact am_iret dX10_count_56
  refine am_case (fun c2 => ?_) (fun c2 => ?_)
  · have e_c2 : a1.toInt = 1 := by rw [c2]; decide
    refine am_swIn (off := 56) (tgt := 57) dX10_count_1 (by omega) (by omega) (by rw [e_c2]; rfl) (by decide) ?_
    refine am_aload_n 0 dX10_count_57 rfl rfl ?_
    refine am_getI 9 dX10_count_58 fl_RX10_13 h_a0 rfl ?_
    exact am_iret dX10_count_61
  refine am_case (fun c3 => ?_) (fun c3 => ?_)
  · have e_c3 : a1.toInt = 2 := by rw [c3]; decide
    refine am_swIn (off := 61) (tgt := 62) dX10_count_1 (by omega) (by omega) (by rw [e_c3]; rfl) (by decide) ?_
    refine am_aload_n 0 dX10_count_62 rfl rfl ?_
    refine am_getI 9 dX10_count_63 fl_RX10_105 h_a0 rfl ?_
    exact am_iret dX10_count_66
  refine am_case (fun c4 => ?_) (fun c4 => ?_)
  · have e_c4 : a1.toInt = 3 := by rw [c4]; decide
    refine am_swIn (off := 66) (tgt := 67) dX10_count_1 (by omega) (by omega) (by rw [e_c4]; rfl) (by decide) ?_
    refine am_aload_n 0 dX10_count_67 rfl rfl ?_
    refine am_getI 9 dX10_count_68 fl_RX10_16 h_a0 rfl ?_
    exact am_iret dX10_count_71
  refine am_case (fun c5 => ?_) (fun c5 => ?_)
  · have e_c5 : a1.toInt = 4 := by rw [c5]; decide
    refine am_swIn (off := 71) (tgt := 72) dX10_count_1 (by omega) (by omega) (by rw [e_c5]; rfl) (by decide) ?_
    refine am_aload_n 0 dX10_count_72 rfl rfl ?_
    refine am_getI 9 dX10_count_73 fl_RX10_19 h_a0 rfl ?_
    exact am_iret dX10_count_76
  refine am_case (fun c6 => ?_) (fun c6 => ?_)
  · have e_c6 : a1.toInt = 5 := by rw [c6]; decide
    refine am_swIn (off := 76) (tgt := 77) dX10_count_1 (by omega) (by omega) (by rw [e_c6]; rfl) (by decide) ?_
    refine am_aload_n 0 dX10_count_77 rfl rfl ?_
    refine am_getI 9 dX10_count_78 fl_RX10_26 h_a0 rfl ?_
    exact am_iret dX10_count_81
  refine am_case (fun c7 => ?_) (fun c7 => ?_)
  · have e_c7 : a1.toInt = 6 := by rw [c7]; decide
    refine am_swIn (off := 81) (tgt := 82) dX10_count_1 (by omega) (by omega) (by rw [e_c7]; rfl) (by decide) ?_
    refine am_aload_n 0 dX10_count_82 rfl rfl ?_
    refine am_callVi 9 [] (CX10_shapeMany G a0 M h_a0) dX10_count_83 mb_yX10_shapeMany ⟨ml_RX10_241, im_yX10_shapeMany, se_yX10_shapeMany⟩ rfl h_a0 (by decide) rfl rfl (Nat.le_of_ble_eq_true rfl) (fun v12 M9 q8 w11 l10 => ?_)
    exact am_iret dX10_count_86
  refine am_case (fun c14 => ?_) (fun c14 => ?_)
  · have e_c14 : a1.toInt = 7 := by rw [c14]; decide
    refine am_swIn (off := 86) (tgt := 87) dX10_count_1 (by omega) (by omega) (by rw [e_c14]; rfl) (by decide) ?_
    refine am_aload_n 0 dX10_count_87 rfl rfl ?_
    refine am_getI 9 dX10_count_88 fl_RX10_70 h_a0 rfl ?_
    exact am_iret dX10_count_91
  refine am_case (fun c15 => ?_) (fun c15 => ?_)
  · have e_c15 : a1.toInt = 8 := by rw [c15]; decide
    refine am_swIn (off := 91) (tgt := 92) dX10_count_1 (by omega) (by omega) (by rw [e_c15]; rfl) (by decide) ?_
    refine am_aload_n 0 dX10_count_92 rfl rfl ?_
    refine am_getI 9 dX10_count_93 fl_RX10_79 h_a0 rfl ?_
    exact am_iret dX10_count_96
  have e_c1 : a1.toInt ≠ 0 := am_ine c1
  have e_c2 : a1.toInt ≠ 1 := am_ine c2
  have e_c3 : a1.toInt ≠ 2 := am_ine c3
  have e_c4 : a1.toInt ≠ 3 := am_ine c4
  have e_c5 : a1.toInt ≠ 4 := am_ine c5
  have e_c6 : a1.toInt ≠ 5 := am_ine c6
  have e_c7 : a1.toInt ≠ 6 := am_ine c7
  have e_c14 : a1.toInt ≠ 7 := am_ine c14
  have e_c15 : a1.toInt ≠ 8 := am_ine c15
  refine am_swOut (tgt := 97) dX10_count_1 (by omega) (by decide) ?_
  refine am_iconst dX10_count_97 am_kc_m1 ?_
  exact am_iret dX10_count_98
theorem CX10_count (G : am_G) (a0 : Nat) (a1 : Int32) (M : am_M) (h_a0 : am_sh M a0 14) : am_C am_ei G 5 yX10_count cX10_count 2 (some FieldType.int) [.ref a0, .int a1] M (fX10_count a0 a1 M) :=
  am_meth (by decide) rfl (Nat.le_of_ble_eq_true rfl) (sX10_count_0 G a0 a1 M h_a0)
