def fX2_filledFor_71 (k14 : (Nat × Nat × Int32 × Int32 × Int32 × Int32 × am_M) → Option (Int32 × am_M)) (x0 : Nat) (x1 : Nat) (x2 : Int32) (x3 : Int32) (x4 : Int32) (x5 : Int32) (M : am_M) : Option (Int32 × am_M) := k14 (x0, x1, x2, x3, x4, x5 + 1, M)
def fX2_filledFor_67 (k14 : (Nat × Nat × Int32 × Int32 × Int32 × Int32 × am_M) → Option (Int32 × am_M)) (x0 : Nat) (x1 : Nat) (x2 : Int32) (x3 : Int32) (x5 : Int32) (M : am_M) : Option (Int32 × am_M) := fX2_filledFor_71 k14 x0 x1 x2 x3 x5 x5 M
def fX2_filledFor_14 : ((Nat × Nat × Int32 × Int32 × Int32 × Int32 × am_M) → Option (Int32 × am_M)) → (Nat × Nat × Int32 × Int32 × Int32 × Int32 × am_M) → Option (Int32 × am_M) := fun k14 q0 => match q0 with
  | (x0, x1, x2, x3, x4, x5, M) => if (4096 : Int32) ≤ x5 then some (x3, M) else (fX3_has x1 x5 M).bind fun p7 => if p7.1 = 0 then fX2_filledFor_71 k14 x0 x1 x2 x3 x4 x5 p7.2 else if x4 = (-4) then fX2_filledFor_67 k14 x0 x1 x2 x3 x5 p7.2 else if x5 - x4 ≤ 1 then fX2_filledFor_67 k14 x0 x1 x2 x3 x5 p7.2 else (fX2_filledBy x0 ((x5 - x4) - 1) (x2 - 1) p7.2).bind fun p16 => fX2_filledFor_67 k14 x0 x1 x2 (x3 + p16.1) x5 p16.2
def fX2_filledFor (a0 : Nat) (a1 : Nat) (a2 : Int32) (M : am_M) : Option (Int32 × am_M) := am_loop (fX2_filledFor_14) 100000 (a0, a1, a2, 0, (-4), 0, am_pI M a0 1 0)
set_option maxRecDepth 100000 in
set_option maxHeartbeats 4000000 in
theorem sX2_filledFor_71 (G : am_G) (k14 : (Nat × Nat × Int32 × Int32 × Int32 × Int32 × am_M) → Option (Int32 × am_M)) (hk14 : ∀ q : (Nat × Nat × Int32 × Int32 × Int32 × Int32 × am_M), (match q with | (x0, x1, x2, x3, x4, x5, M) => am_sh M x0 6 ∧ am_sh M x1 7) → match q with | (x0, x1, x2, x3, x4, x5, M) => am_S am_ei G 1 yX2_filledFor.cls yX2_filledFor.name cX2_filledFor 6 (some FieldType.int) 14 [(0, .ref x0), (1, .ref x1), (2, .int x2), (3, .int x3), (4, .int x4), (5, .int x5)] [] M (k14 (x0, x1, x2, x3, x4, x5, M))) (x0 : Nat) (x1 : Nat) (x2 : Int32) (x3 : Int32) (x4 : Int32) (x5 : Int32) (M : am_M) (h_x0 : am_sh M x0 6) (h_x1 : am_sh M x1 7) : am_S am_ei G 1 yX2_filledFor.cls yX2_filledFor.name cX2_filledFor 6 (some FieldType.int) 71 [(0, .ref x0), (1, .ref x1), (2, .int x2), (3, .int x3), (4, .int x4), (5, .int x5)] [] M (fX2_filledFor_71 k14 x0 x1 x2 x3 x4 x5 M) := by
  show am_S am_ei G 1 yX2_filledFor.cls yX2_filledFor.name cX2_filledFor 6 (some FieldType.int) 71 [(0, .ref x0), (1, .ref x1), (2, .int x2), (3, .int x3), (4, .int x4), (5, .int x5)] [] M (k14 (x0, x1, x2, x3, x4, x5 + 1, M))
  refine am_iinc (L' := [(5, .int (x5 + 1)), (0, .ref x0), (1, .ref x1), (2, .int x2), (3, .int x3), (4, .int x4)]) 5 dX2_filledFor_71 rfl (by rfl) (by decide) rfl ?_
  refine am_goto (tgt := 14) dX2_filledFor_74 (by decide) ?_
  refine am_sub [1, 2, 3, 4, 5, 0] rfl ?_
  exact hk14 (x0, x1, x2, x3, x4, x5 + 1, M) ⟨h_x0, h_x1⟩
set_option maxRecDepth 100000 in
set_option maxHeartbeats 4000000 in
theorem sX2_filledFor_67 (G : am_G) (k14 : (Nat × Nat × Int32 × Int32 × Int32 × Int32 × am_M) → Option (Int32 × am_M)) (hk14 : ∀ q : (Nat × Nat × Int32 × Int32 × Int32 × Int32 × am_M), (match q with | (x0, x1, x2, x3, x4, x5, M) => am_sh M x0 6 ∧ am_sh M x1 7) → match q with | (x0, x1, x2, x3, x4, x5, M) => am_S am_ei G 1 yX2_filledFor.cls yX2_filledFor.name cX2_filledFor 6 (some FieldType.int) 14 [(0, .ref x0), (1, .ref x1), (2, .int x2), (3, .int x3), (4, .int x4), (5, .int x5)] [] M (k14 (x0, x1, x2, x3, x4, x5, M))) (x0 : Nat) (x1 : Nat) (x2 : Int32) (x3 : Int32) (x5 : Int32) (M : am_M) (h_x0 : am_sh M x0 6) (h_x1 : am_sh M x1 7) : am_S am_ei G 1 yX2_filledFor.cls yX2_filledFor.name cX2_filledFor 6 (some FieldType.int) 67 [(0, .ref x0), (1, .ref x1), (2, .int x2), (3, .int x3), (5, .int x5)] [] M (fX2_filledFor_67 k14 x0 x1 x2 x3 x5 M) := by
  show am_S am_ei G 1 yX2_filledFor.cls yX2_filledFor.name cX2_filledFor 6 (some FieldType.int) 67 [(0, .ref x0), (1, .ref x1), (2, .int x2), (3, .int x3), (5, .int x5)] [] M (fX2_filledFor_71 k14 x0 x1 x2 x3 x5 x5 M)
  refine am_iload 4 dX2_filledFor_67 rfl ?_
  refine am_istore (L' := [(4, .int x5), (0, .ref x0), (1, .ref x1), (2, .int x2), (3, .int x3), (5, .int x5)]) dX2_filledFor_69 (by decide) rfl ?_
  refine am_sub [1, 2, 3, 4, 0, 5] rfl ?_
  exact sX2_filledFor_71 G k14 hk14 x0 x1 x2 x3 x5 x5 M h_x0 h_x1
set_option maxRecDepth 100000 in
set_option maxHeartbeats 4000000 in
theorem sX2_filledFor_14 (G : am_G) (k14 : (Nat × Nat × Int32 × Int32 × Int32 × Int32 × am_M) → Option (Int32 × am_M)) (hk14 : ∀ q : (Nat × Nat × Int32 × Int32 × Int32 × Int32 × am_M), (match q with | (x0, x1, x2, x3, x4, x5, M) => am_sh M x0 6 ∧ am_sh M x1 7) → match q with | (x0, x1, x2, x3, x4, x5, M) => am_S am_ei G 1 yX2_filledFor.cls yX2_filledFor.name cX2_filledFor 6 (some FieldType.int) 14 [(0, .ref x0), (1, .ref x1), (2, .int x2), (3, .int x3), (4, .int x4), (5, .int x5)] [] M (k14 (x0, x1, x2, x3, x4, x5, M))) (x0 : Nat) (x1 : Nat) (x2 : Int32) (x3 : Int32) (x4 : Int32) (x5 : Int32) (M : am_M) (h_x0 : am_sh M x0 6) (h_x1 : am_sh M x1 7) : am_S am_ei G 1 yX2_filledFor.cls yX2_filledFor.name cX2_filledFor 6 (some FieldType.int) 14 [(0, .ref x0), (1, .ref x1), (2, .int x2), (3, .int x3), (4, .int x4), (5, .int x5)] [] M (fX2_filledFor_14 k14 (x0, x1, x2, x3, x4, x5, M)) := by
  show am_S am_ei G 1 yX2_filledFor.cls yX2_filledFor.name cX2_filledFor 6 (some FieldType.int) 14 [(0, .ref x0), (1, .ref x1), (2, .int x2), (3, .int x3), (4, .int x4), (5, .int x5)] [] M (if (4096 : Int32) ≤ x5 then some (x3, M) else (fX3_has x1 x5 M).bind fun p7 => if p7.1 = 0 then fX2_filledFor_71 k14 x0 x1 x2 x3 x4 x5 p7.2 else if x4 = (-4) then fX2_filledFor_67 k14 x0 x1 x2 x3 x5 p7.2 else if x5 - x4 ≤ 1 then fX2_filledFor_67 k14 x0 x1 x2 x3 x5 p7.2 else (fX2_filledBy x0 ((x5 - x4) - 1) (x2 - 1) p7.2).bind fun p16 => fX2_filledFor_67 k14 x0 x1 x2 (x3 + p16.1) x5 p16.2)
  refine am_iload 5 dX2_filledFor_14 rfl ?_
  refine am_sipush (x := 4096) dX2_filledFor_16 (by decide) ?_
  refine am_icmp_ge (tgt := 77) dX2_filledFor_19 (by decide) (fun c1 => ?_) (fun c1 => ?_)
  · refine am_iload_n 3 dX2_filledFor_77 rfl rfl ?_
    exact am_iret dX2_filledFor_78
  · refine am_aload_n 1 dX2_filledFor_22 rfl rfl ?_
    refine am_iload 5 dX2_filledFor_23 rfl ?_
    refine am_callVi 2 [.int x5] (CX3_has G x1 x5 M h_x1) dX2_filledFor_25 mb_yX3_has ⟨ml_RX2_19, im_yX3_has, se_yX3_has⟩ rfl h_x1 (by decide) rfl rfl (Nat.le_of_ble_eq_true rfl) (fun v6 M3 q2 w5 l4 => ?_)
    refine am_if_ne (tgt := 34) dX2_filledFor_28 (by decide) (fun c8 => ?_) (fun c8 => ?_)
    · refine am_iload 4 dX2_filledFor_34 rfl ?_
      refine am_bipush (x := -4) dX2_filledFor_36 (by decide) ?_
      refine am_icmp_eq (tgt := 67) dX2_filledFor_38 (by decide) (fun c9 => ?_) (fun c9 => ?_)
      · refine am_sub [0, 1, 2, 3, 5] rfl ?_
        exact sX2_filledFor_67 G k14 hk14 x0 x1 x2 x3 x5 M3 (am_sh.mono l4 h_x0) (am_sh.mono l4 h_x1)
      · refine am_iload 5 dX2_filledFor_41 rfl ?_
        refine am_iload 4 dX2_filledFor_43 rfl ?_
        refine am_isub dX2_filledFor_45 ?_
        refine am_iconst dX2_filledFor_46 am_kc_1 ?_
        refine am_icmp_le (tgt := 67) dX2_filledFor_47 (by decide) (fun c10 => ?_) (fun c10 => ?_)
        · refine am_sub [0, 1, 2, 3, 5] rfl ?_
          exact sX2_filledFor_67 G k14 hk14 x0 x1 x2 x3 x5 M3 (am_sh.mono l4 h_x0) (am_sh.mono l4 h_x1)
        · refine am_iload_n 3 dX2_filledFor_50 rfl rfl ?_
          refine am_aload_n 0 dX2_filledFor_51 rfl rfl ?_
          refine am_iload 5 dX2_filledFor_52 rfl ?_
          refine am_iload 4 dX2_filledFor_54 rfl ?_
          refine am_isub dX2_filledFor_56 ?_
          refine am_iconst dX2_filledFor_57 am_kc_1 ?_
          refine am_isub dX2_filledFor_58 ?_
          refine am_iload_n 2 dX2_filledFor_59 rfl rfl ?_
          refine am_iconst dX2_filledFor_60 am_kc_1 ?_
          refine am_isub dX2_filledFor_61 ?_
          refine am_callVi 1 [.int ((x5 - x4) - 1), .int (x2 - 1)] (CX2_filledBy G x0 ((x5 - x4) - 1) (x2 - 1) M3 (am_sh.mono l4 h_x0)) dX2_filledFor_62 mb_yX2_filledBy ⟨ml_RX2_25, im_yX2_filledBy, se_yX2_filledBy⟩ rfl (am_sh.mono l4 h_x0) (by decide) rfl rfl (Nat.le_of_ble_eq_true rfl) (fun v15 M12 q11 w14 l13 => ?_)
          refine am_iadd dX2_filledFor_65 ?_
          refine am_istore_n (L' := [(3, .int (x3 + v15)), (0, .ref x0), (1, .ref x1), (2, .int x2), (4, .int x4), (5, .int x5)]) dX2_filledFor_66 rfl (by decide) rfl ?_
          refine am_sub [1, 2, 3, 0, 5] rfl ?_
          exact sX2_filledFor_67 G k14 hk14 x0 x1 x2 (x3 + v15) x5 M12 (am_sh.mono l13 (am_sh.mono l4 h_x0)) (am_sh.mono l13 (am_sh.mono l4 h_x1))
    · refine am_goto (tgt := 71) dX2_filledFor_31 (by decide) ?_
      exact sX2_filledFor_71 G k14 hk14 x0 x1 x2 x3 x4 x5 M3 (am_sh.mono l4 h_x0) (am_sh.mono l4 h_x1)
set_option maxRecDepth 100000 in
set_option maxHeartbeats 4000000 in
theorem lX2_filledFor_14 (G : am_G) (n : Nat) (q : (Nat × Nat × Int32 × Int32 × Int32 × Int32 × am_M)) (hq : match q with | (x0, x1, x2, x3, x4, x5, M) => am_sh M x0 6 ∧ am_sh M x1 7) : match q with | (x0, x1, x2, x3, x4, x5, M) => am_S am_ei G 1 yX2_filledFor.cls yX2_filledFor.name cX2_filledFor 6 (some FieldType.int) 14 [(0, .ref x0), (1, .ref x1), (2, .int x2), (3, .int x3), (4, .int x4), (5, .int x5)] [] M (am_loop (fX2_filledFor_14) n (x0, x1, x2, x3, x4, x5, M)) := by
  exact am_loop_ok (fun q : (Nat × Nat × Int32 × Int32 × Int32 × Int32 × am_M) => match q with | (x0, x1, x2, x3, x4, x5, M) => am_sh M x0 6 ∧ am_sh M x1 7) (fun q X => match q with | (x0, x1, x2, x3, x4, x5, M) => am_S am_ei G 1 yX2_filledFor.cls yX2_filledFor.name cX2_filledFor 6 (some FieldType.int) 14 [(0, .ref x0), (1, .ref x1), (2, .int x2), (3, .int x3), (4, .int x4), (5, .int x5)] [] M X) (fun _ => am_none) (fun k14 hk14 q hq => match q, hq with | (x0, x1, x2, x3, x4, x5, M), ⟨h_x0, h_x1⟩ => sX2_filledFor_14 G k14 hk14 x0 x1 x2 x3 x4 x5 M h_x0 h_x1) n q hq
set_option maxRecDepth 100000 in
set_option maxHeartbeats 4000000 in
theorem sX2_filledFor_0 (G : am_G) (a0 : Nat) (a1 : Nat) (a2 : Int32) (M : am_M) (h_a0 : am_sh M a0 6) (h_a1 : am_sh M a1 7) : am_S am_ei G 1 yX2_filledFor.cls yX2_filledFor.name cX2_filledFor 6 (some FieldType.int) 0 [(0, .ref a0), (1, .ref a1), (2, .int a2)] [] M (fX2_filledFor a0 a1 a2 M) := by
  show am_S am_ei G 1 yX2_filledFor.cls yX2_filledFor.name cX2_filledFor 6 (some FieldType.int) 0 [(0, .ref a0), (1, .ref a1), (2, .int a2)] [] M (am_loop (fX2_filledFor_14) 100000 (a0, a1, a2, 0, (-4), 0, am_pI M a0 1 0))
  refine am_aload_n 0 dX2_filledFor_0 rfl rfl ?_
  refine am_iconst dX2_filledFor_1 am_kc_0 ?_
  refine am_putI 1 dX2_filledFor_2 fl_RX2_15 h_a0 rfl rfl rfl rfl ?_
  refine am_iconst dX2_filledFor_5 am_kc_0 ?_
  refine am_istore_n (L' := [(3, .int 0), (0, .ref a0), (1, .ref a1), (2, .int a2)]) dX2_filledFor_6 rfl (by decide) rfl ?_
  refine am_bipush (x := -4) dX2_filledFor_7 (by decide) ?_
  refine am_istore (L' := [(4, .int (-4)), (3, .int 0), (0, .ref a0), (1, .ref a1), (2, .int a2)]) dX2_filledFor_9 (by decide) rfl ?_
  refine am_iconst dX2_filledFor_11 am_kc_0 ?_
  refine am_istore (L' := [(5, .int 0), (4, .int (-4)), (3, .int 0), (0, .ref a0), (1, .ref a1), (2, .int a2)]) dX2_filledFor_12 (by decide) rfl ?_
  refine am_sub [3, 4, 5, 2, 1, 0] rfl ?_
  exact lX2_filledFor_14 G 100000 (a0, a1, a2, 0, (-4), 0, am_pI M a0 1 0) ⟨(am_sh.of h_a0 rfl), (am_sh.of h_a1 rfl)⟩
theorem CX2_filledFor (G : am_G) (a0 : Nat) (a1 : Nat) (a2 : Int32) (M : am_M) (h_a0 : am_sh M a0 6) (h_a1 : am_sh M a1 7) : am_C am_ei G 1 yX2_filledFor cX2_filledFor 6 (some FieldType.int) [.ref a0, .ref a1, .int a2] M (fX2_filledFor a0 a1 a2 M) :=
  am_meth (by decide) rfl (Nat.le_of_ble_eq_true rfl) (sX2_filledFor_0 G a0 a1 a2 M h_a0 h_a1)
def fX3_runEnd_84 (k5 : (Nat × Int32 × Int32 × Int32 × Int32 × am_M) → Option (Int32 × am_M)) (x0 : Nat) (x1 : Int32) (x2 : Int32) (x3 : Int32) (x4 : Int32) (M : am_M) : Option (Int32 × am_M) := k5 (x0, x1, x2, x3, x4 + 1, M)
def fX3_runEnd_51 (k5 : (Nat × Int32 × Int32 × Int32 × Int32 × am_M) → Option (Int32 × am_M)) (x0 : Nat) (x1 : Int32) (x2 : Int32) (x3 : Int32) (x4 : Int32) (x5 : Int32) (M : am_M) : Option (Int32 × am_M) := if x3 - 1 = x1 then if x2 = 0 then if x5 = 0 then fX3_runEnd_84 k5 x0 x1 x2 x3 x4 M else some (x4, M) else (fX3_has x0 (x4 + 1) M).bind fun p25 => if p25.1 = 0 then some (x4, p25.2) else fX3_runEnd_84 k5 x0 x1 x2 x3 x4 p25.2 else fX3_runEnd_84 k5 x0 x1 x2 x3 x4 M
def fX3_runEnd_41 (k5 : (Nat × Int32 × Int32 × Int32 × Int32 × am_M) → Option (Int32 × am_M)) (x0 : Nat) (x1 : Int32) (x2 : Int32) (x3 : Int32) (x4 : Int32) (s0 : Int32) (M : am_M) : Option (Int32 × am_M) := if s0 = 0 then fX3_runEnd_51 k5 x0 x1 x2 x3 x4 s0 M else fX3_runEnd_51 k5 x0 x1 x2 (x3 + 1) x4 s0 M
def fX3_runEnd_5 : ((Nat × Int32 × Int32 × Int32 × Int32 × am_M) → Option (Int32 × am_M)) → (Nat × Int32 × Int32 × Int32 × Int32 × am_M) → Option (Int32 × am_M) := fun k5 q0 => match q0 with
  | (x0, x1, x2, x3, x4, M) => if (4096 : Int32) ≤ x4 then if x1 = (-1) then some (x3, M) else some ((-4), M) else (fX3_has x0 x4 M).bind fun p8 => if p8.1 = 0 then fX3_runEnd_84 k5 x0 x1 x2 x3 x4 p8.2 else (fX3_has x0 (x4 - 1) p8.2).bind fun p15 => if p15.1 = 0 then fX3_runEnd_41 k5 x0 x1 x2 x3 x4 1 p15.2 else fX3_runEnd_41 k5 x0 x1 x2 x3 x4 0 p15.2
def fX3_runEnd (a0 : Nat) (a1 : Int32) (a2 : Int32) (M : am_M) : Option (Int32 × am_M) := am_loop (fX3_runEnd_5) 100000 (a0, a1, a2, 0, 0, M)
set_option maxRecDepth 100000 in
set_option maxHeartbeats 4000000 in
theorem sX3_runEnd_84 (G : am_G) (k5 : (Nat × Int32 × Int32 × Int32 × Int32 × am_M) → Option (Int32 × am_M)) (hk5 : ∀ q : (Nat × Int32 × Int32 × Int32 × Int32 × am_M), (match q with | (x0, x1, x2, x3, x4, M) => am_sh M x0 7) → match q with | (x0, x1, x2, x3, x4, M) => am_S am_ei G 1 yX3_runEnd.cls yX3_runEnd.name cX3_runEnd 6 (some FieldType.int) 5 [(0, .ref x0), (1, .int x1), (2, .int x2), (3, .int x3), (4, .int x4)] [] M (k5 (x0, x1, x2, x3, x4, M))) (x0 : Nat) (x1 : Int32) (x2 : Int32) (x3 : Int32) (x4 : Int32) (M : am_M) (h_x0 : am_sh M x0 7) : am_S am_ei G 1 yX3_runEnd.cls yX3_runEnd.name cX3_runEnd 6 (some FieldType.int) 84 [(0, .ref x0), (1, .int x1), (2, .int x2), (3, .int x3), (4, .int x4)] [] M (fX3_runEnd_84 k5 x0 x1 x2 x3 x4 M) := by
  show am_S am_ei G 1 yX3_runEnd.cls yX3_runEnd.name cX3_runEnd 6 (some FieldType.int) 84 [(0, .ref x0), (1, .int x1), (2, .int x2), (3, .int x3), (4, .int x4)] [] M (k5 (x0, x1, x2, x3, x4 + 1, M))
  refine am_iinc (L' := [(4, .int (x4 + 1)), (0, .ref x0), (1, .int x1), (2, .int x2), (3, .int x3)]) 4 dX3_runEnd_84 rfl (by rfl) (by decide) rfl ?_
  refine am_goto (tgt := 5) dX3_runEnd_87 (by decide) ?_
  refine am_sub [1, 2, 3, 4, 0] rfl ?_
  exact hk5 (x0, x1, x2, x3, x4 + 1, M) h_x0
set_option maxRecDepth 100000 in
set_option maxHeartbeats 4000000 in
theorem sX3_runEnd_51 (G : am_G) (k5 : (Nat × Int32 × Int32 × Int32 × Int32 × am_M) → Option (Int32 × am_M)) (hk5 : ∀ q : (Nat × Int32 × Int32 × Int32 × Int32 × am_M), (match q with | (x0, x1, x2, x3, x4, M) => am_sh M x0 7) → match q with | (x0, x1, x2, x3, x4, M) => am_S am_ei G 1 yX3_runEnd.cls yX3_runEnd.name cX3_runEnd 6 (some FieldType.int) 5 [(0, .ref x0), (1, .int x1), (2, .int x2), (3, .int x3), (4, .int x4)] [] M (k5 (x0, x1, x2, x3, x4, M))) (x0 : Nat) (x1 : Int32) (x2 : Int32) (x3 : Int32) (x4 : Int32) (x5 : Int32) (M : am_M) (h_x0 : am_sh M x0 7) : am_S am_ei G 1 yX3_runEnd.cls yX3_runEnd.name cX3_runEnd 6 (some FieldType.int) 51 [(0, .ref x0), (1, .int x1), (2, .int x2), (3, .int x3), (4, .int x4), (5, .int x5)] [] M (fX3_runEnd_51 k5 x0 x1 x2 x3 x4 x5 M) := by
  show am_S am_ei G 1 yX3_runEnd.cls yX3_runEnd.name cX3_runEnd 6 (some FieldType.int) 51 [(0, .ref x0), (1, .int x1), (2, .int x2), (3, .int x3), (4, .int x4), (5, .int x5)] [] M (if x3 - 1 = x1 then if x2 = 0 then if x5 = 0 then fX3_runEnd_84 k5 x0 x1 x2 x3 x4 M else some (x4, M) else (fX3_has x0 (x4 + 1) M).bind fun p25 => if p25.1 = 0 then some (x4, p25.2) else fX3_runEnd_84 k5 x0 x1 x2 x3 x4 p25.2 else fX3_runEnd_84 k5 x0 x1 x2 x3 x4 M)
  refine am_iload_n 3 dX3_runEnd_51 rfl rfl ?_
  refine am_iconst dX3_runEnd_52 am_kc_1 ?_
  refine am_isub dX3_runEnd_53 ?_
  refine am_iload_n 1 dX3_runEnd_54 rfl rfl ?_
  refine am_icmp_ne (tgt := 84) dX3_runEnd_55 (by decide) (fun c18 => ?_) (fun c18 => ?_)
  · refine am_sub [0, 1, 2, 3, 4] rfl ?_
    exact sX3_runEnd_84 G k5 hk5 x0 x1 x2 x3 x4 M h_x0
  · refine am_iload_n 2 dX3_runEnd_58 rfl rfl ?_
    refine am_if_ne (tgt := 70) dX3_runEnd_59 (by decide) (fun c19 => ?_) (fun c19 => ?_)
    · refine am_aload_n 0 dX3_runEnd_70 rfl rfl ?_
      refine am_iload 4 dX3_runEnd_71 rfl ?_
      refine am_iconst dX3_runEnd_73 am_kc_1 ?_
      refine am_iadd dX3_runEnd_74 ?_
      refine am_callVi 2 [.int (x4 + 1)] (CX3_has G x0 (x4 + 1) M h_x0) dX3_runEnd_75 mb_yX3_has ⟨ml_RX3_31, im_yX3_has, se_yX3_has⟩ rfl h_x0 (by decide) rfl rfl (Nat.le_of_ble_eq_true rfl) (fun v24 M21 q20 w23 l22 => ?_)
      refine am_if_ne (tgt := 84) dX3_runEnd_78 (by decide) (fun c26 => ?_) (fun c26 => ?_)
      · refine am_sub [0, 1, 2, 3, 4] rfl ?_
        exact sX3_runEnd_84 G k5 hk5 x0 x1 x2 x3 x4 M21 (am_sh.mono l22 h_x0)
      · refine am_iload 4 dX3_runEnd_81 rfl ?_
        exact am_iret dX3_runEnd_83
    · refine am_iload 5 dX3_runEnd_62 rfl ?_
      refine am_if_eq (tgt := 84) dX3_runEnd_64 (by decide) (fun c27 => ?_) (fun c27 => ?_)
      · refine am_sub [0, 1, 2, 3, 4] rfl ?_
        exact sX3_runEnd_84 G k5 hk5 x0 x1 x2 x3 x4 M h_x0
      · refine am_goto (tgt := 81) dX3_runEnd_67 (by decide) ?_
        refine am_iload 4 dX3_runEnd_81 rfl ?_
        exact am_iret dX3_runEnd_83
set_option maxRecDepth 100000 in
set_option maxHeartbeats 4000000 in
theorem sX3_runEnd_41 (G : am_G) (k5 : (Nat × Int32 × Int32 × Int32 × Int32 × am_M) → Option (Int32 × am_M)) (hk5 : ∀ q : (Nat × Int32 × Int32 × Int32 × Int32 × am_M), (match q with | (x0, x1, x2, x3, x4, M) => am_sh M x0 7) → match q with | (x0, x1, x2, x3, x4, M) => am_S am_ei G 1 yX3_runEnd.cls yX3_runEnd.name cX3_runEnd 6 (some FieldType.int) 5 [(0, .ref x0), (1, .int x1), (2, .int x2), (3, .int x3), (4, .int x4)] [] M (k5 (x0, x1, x2, x3, x4, M))) (x0 : Nat) (x1 : Int32) (x2 : Int32) (x3 : Int32) (x4 : Int32) (s0 : Int32) (M : am_M) (h_x0 : am_sh M x0 7) : am_S am_ei G 1 yX3_runEnd.cls yX3_runEnd.name cX3_runEnd 6 (some FieldType.int) 41 [(0, .ref x0), (1, .int x1), (2, .int x2), (3, .int x3), (4, .int x4)] [.int s0] M (fX3_runEnd_41 k5 x0 x1 x2 x3 x4 s0 M) := by
  show am_S am_ei G 1 yX3_runEnd.cls yX3_runEnd.name cX3_runEnd 6 (some FieldType.int) 41 [(0, .ref x0), (1, .int x1), (2, .int x2), (3, .int x3), (4, .int x4)] [.int s0] M (if s0 = 0 then fX3_runEnd_51 k5 x0 x1 x2 x3 x4 s0 M else fX3_runEnd_51 k5 x0 x1 x2 (x3 + 1) x4 s0 M)
  refine am_istore (L' := [(5, .int s0), (0, .ref x0), (1, .int x1), (2, .int x2), (3, .int x3), (4, .int x4)]) dX3_runEnd_41 (by decide) rfl ?_
  refine am_iload 0 dX3_runEnd_43 rfl ?_
  refine am_if_eq (tgt := 51) dX3_runEnd_45 (by decide) (fun c17 => ?_) (fun c17 => ?_)
  · refine am_sub [1, 2, 3, 4, 5, 0] rfl ?_
    exact sX3_runEnd_51 G k5 hk5 x0 x1 x2 x3 x4 s0 M h_x0
  · refine am_iinc (L' := [(3, .int (x3 + 1)), (5, .int s0), (0, .ref x0), (1, .int x1), (2, .int x2), (4, .int x4)]) 4 dX3_runEnd_48 rfl (by rfl) (by decide) rfl ?_
    refine am_sub [2, 3, 4, 0, 5, 1] rfl ?_
    exact sX3_runEnd_51 G k5 hk5 x0 x1 x2 (x3 + 1) x4 s0 M h_x0
set_option maxRecDepth 100000 in
set_option maxHeartbeats 4000000 in
theorem sX3_runEnd_5 (G : am_G) (k5 : (Nat × Int32 × Int32 × Int32 × Int32 × am_M) → Option (Int32 × am_M)) (hk5 : ∀ q : (Nat × Int32 × Int32 × Int32 × Int32 × am_M), (match q with | (x0, x1, x2, x3, x4, M) => am_sh M x0 7) → match q with | (x0, x1, x2, x3, x4, M) => am_S am_ei G 1 yX3_runEnd.cls yX3_runEnd.name cX3_runEnd 6 (some FieldType.int) 5 [(0, .ref x0), (1, .int x1), (2, .int x2), (3, .int x3), (4, .int x4)] [] M (k5 (x0, x1, x2, x3, x4, M))) (x0 : Nat) (x1 : Int32) (x2 : Int32) (x3 : Int32) (x4 : Int32) (M : am_M) (h_x0 : am_sh M x0 7) : am_S am_ei G 1 yX3_runEnd.cls yX3_runEnd.name cX3_runEnd 6 (some FieldType.int) 5 [(0, .ref x0), (1, .int x1), (2, .int x2), (3, .int x3), (4, .int x4)] [] M (fX3_runEnd_5 k5 (x0, x1, x2, x3, x4, M)) := by
  show am_S am_ei G 1 yX3_runEnd.cls yX3_runEnd.name cX3_runEnd 6 (some FieldType.int) 5 [(0, .ref x0), (1, .int x1), (2, .int x2), (3, .int x3), (4, .int x4)] [] M (if (4096 : Int32) ≤ x4 then if x1 = (-1) then some (x3, M) else some ((-4), M) else (fX3_has x0 x4 M).bind fun p8 => if p8.1 = 0 then fX3_runEnd_84 k5 x0 x1 x2 x3 x4 p8.2 else (fX3_has x0 (x4 - 1) p8.2).bind fun p15 => if p15.1 = 0 then fX3_runEnd_41 k5 x0 x1 x2 x3 x4 1 p15.2 else fX3_runEnd_41 k5 x0 x1 x2 x3 x4 0 p15.2)
  refine am_iload 4 dX3_runEnd_5 rfl ?_
  refine am_sipush (x := 4096) dX3_runEnd_7 (by decide) ?_
  refine am_icmp_ge (tgt := 90) dX3_runEnd_10 (by decide) (fun c1 => ?_) (fun c1 => ?_)
  · refine am_iload_n 1 dX3_runEnd_90 rfl rfl ?_
    refine am_iconst dX3_runEnd_91 am_kc_m1 ?_
    refine am_icmp_ne (tgt := 99) dX3_runEnd_92 (by decide) (fun c2 => ?_) (fun c2 => ?_)
    · refine am_bipush (x := -4) dX3_runEnd_99 (by decide) ?_
      exact am_iret dX3_runEnd_101
    · refine am_iload_n 3 dX3_runEnd_95 rfl rfl ?_
      refine am_goto (tgt := 101) dX3_runEnd_96 (by decide) ?_
      exact am_iret dX3_runEnd_101
  · refine am_aload_n 0 dX3_runEnd_13 rfl rfl ?_
    refine am_iload 4 dX3_runEnd_14 rfl ?_
    refine am_callVi 2 [.int x4] (CX3_has G x0 x4 M h_x0) dX3_runEnd_16 mb_yX3_has ⟨ml_RX3_31, im_yX3_has, se_yX3_has⟩ rfl h_x0 (by decide) rfl rfl (Nat.le_of_ble_eq_true rfl) (fun v7 M4 q3 w6 l5 => ?_)
    refine am_if_ne (tgt := 25) dX3_runEnd_19 (by decide) (fun c9 => ?_) (fun c9 => ?_)
    · refine am_aload_n 0 dX3_runEnd_25 rfl rfl ?_
      refine am_iload 4 dX3_runEnd_26 rfl ?_
      refine am_iconst dX3_runEnd_28 am_kc_1 ?_
      refine am_isub dX3_runEnd_29 ?_
      refine am_callVi 2 [.int (x4 - 1)] (CX3_has G x0 (x4 - 1) M4 (am_sh.mono l5 h_x0)) dX3_runEnd_30 mb_yX3_has ⟨ml_RX3_31, im_yX3_has, se_yX3_has⟩ rfl (am_sh.mono l5 h_x0) (by decide) rfl rfl (Nat.le_of_ble_eq_true rfl) (fun v14 M11 q10 w13 l12 => ?_)
      refine am_if_ne (tgt := 40) dX3_runEnd_33 (by decide) (fun c16 => ?_) (fun c16 => ?_)
      · refine am_iconst dX3_runEnd_40 am_kc_0 ?_
        exact sX3_runEnd_41 G k5 hk5 x0 x1 x2 x3 x4 0 M11 (am_sh.mono l12 (am_sh.mono l5 h_x0))
      · refine am_iconst dX3_runEnd_36 am_kc_1 ?_
        refine am_goto (tgt := 41) dX3_runEnd_37 (by decide) ?_
        exact sX3_runEnd_41 G k5 hk5 x0 x1 x2 x3 x4 1 M11 (am_sh.mono l12 (am_sh.mono l5 h_x0))
    · refine am_goto (tgt := 84) dX3_runEnd_22 (by decide) ?_
      exact sX3_runEnd_84 G k5 hk5 x0 x1 x2 x3 x4 M4 (am_sh.mono l5 h_x0)
set_option maxRecDepth 100000 in
set_option maxHeartbeats 4000000 in
theorem lX3_runEnd_5 (G : am_G) (n : Nat) (q : (Nat × Int32 × Int32 × Int32 × Int32 × am_M)) (hq : match q with | (x0, x1, x2, x3, x4, M) => am_sh M x0 7) : match q with | (x0, x1, x2, x3, x4, M) => am_S am_ei G 1 yX3_runEnd.cls yX3_runEnd.name cX3_runEnd 6 (some FieldType.int) 5 [(0, .ref x0), (1, .int x1), (2, .int x2), (3, .int x3), (4, .int x4)] [] M (am_loop (fX3_runEnd_5) n (x0, x1, x2, x3, x4, M)) := by
  exact am_loop_ok (fun q : (Nat × Int32 × Int32 × Int32 × Int32 × am_M) => match q with | (x0, x1, x2, x3, x4, M) => am_sh M x0 7) (fun q X => match q with | (x0, x1, x2, x3, x4, M) => am_S am_ei G 1 yX3_runEnd.cls yX3_runEnd.name cX3_runEnd 6 (some FieldType.int) 5 [(0, .ref x0), (1, .int x1), (2, .int x2), (3, .int x3), (4, .int x4)] [] M X) (fun _ => am_none) (fun k5 hk5 q hq => match q, hq with | (x0, x1, x2, x3, x4, M), h_x0 => sX3_runEnd_5 G k5 hk5 x0 x1 x2 x3 x4 M h_x0) n q hq
set_option maxRecDepth 100000 in
set_option maxHeartbeats 4000000 in
theorem sX3_runEnd_0 (G : am_G) (a0 : Nat) (a1 : Int32) (a2 : Int32) (M : am_M) (h_a0 : am_sh M a0 7) : am_S am_ei G 1 yX3_runEnd.cls yX3_runEnd.name cX3_runEnd 6 (some FieldType.int) 0 [(0, .ref a0), (1, .int a1), (2, .int a2)] [] M (fX3_runEnd a0 a1 a2 M) := by
  show am_S am_ei G 1 yX3_runEnd.cls yX3_runEnd.name cX3_runEnd 6 (some FieldType.int) 0 [(0, .ref a0), (1, .int a1), (2, .int a2)] [] M (am_loop (fX3_runEnd_5) 100000 (a0, a1, a2, 0, 0, M))
  refine am_iconst dX3_runEnd_0 am_kc_0 ?_
  refine am_istore_n (L' := [(3, .int 0), (0, .ref a0), (1, .int a1), (2, .int a2)]) dX3_runEnd_1 rfl (by decide) rfl ?_
  refine am_iconst dX3_runEnd_2 am_kc_0 ?_
  refine am_istore (L' := [(4, .int 0), (3, .int 0), (0, .ref a0), (1, .int a1), (2, .int a2)]) dX3_runEnd_3 (by decide) rfl ?_
  refine am_sub [2, 3, 4, 1, 0] rfl ?_
  exact lX3_runEnd_5 G 100000 (a0, a1, a2, 0, 0, M) h_a0
theorem CX3_runEnd (G : am_G) (a0 : Nat) (a1 : Int32) (a2 : Int32) (M : am_M) (h_a0 : am_sh M a0 7) : am_C am_ei G 1 yX3_runEnd cX3_runEnd 6 (some FieldType.int) [.ref a0, .int a1, .int a2] M (fX3_runEnd a0 a1 a2 M) :=
  am_meth (by decide) rfl (Nat.le_of_ble_eq_true rfl) (sX3_runEnd_0 G a0 a1 a2 M h_a0)
def fX4_init (a0 : Nat) (M : am_M) : Option am_M := some M
set_option maxRecDepth 100000 in
set_option maxHeartbeats 4000000 in
theorem sX4_init_0 (G : am_G) (a0 : Nat) (M : am_M) (h_a0 : am_sh M a0 8) : am_S am_ev G 1 yX4_init.cls yX4_init.name cX4_init 1 none 0 [(0, .ref a0)] [] M (fX4_init a0 M) := by
  show am_S am_ev G 1 yX4_init.cls yX4_init.name cX4_init 1 none 0 [(0, .ref a0)] [] M (some M)
  refine am_aload_n 0 dX4_init_0 rfl rfl ?_
  refine am_obj dX4_init_1 ⟨ml_RX4_1, oc_im, oc_code⟩ (by decide) (Nat.le_of_ble_eq_true rfl) ?_
  exact am_vret dX4_init_4
theorem CX4_init (G : am_G) (a0 : Nat) (M : am_M) (h_a0 : am_sh M a0 8) : am_C am_ev G 1 yX4_init cX4_init 1 none [.ref a0] M (fX4_init a0 M) :=
  am_meth (by decide) rfl (Nat.le_of_ble_eq_true rfl) (sX4_init_0 G a0 M h_a0)
def fX4_becomeBox (a0 : Nat) (a1 : Int32) (a2 : Int32) (a3 : Int32) (a4 : Int32) (a5 : Int32) (M : am_M) : Option am_M := if a1 &&& 1 = a1 then some (am_pI (am_pI (am_pI (am_pI (am_pI (am_pI M a0 0 a1) a0 1 0) a0 2 a2) a0 3 a3) a0 4 a4) a0 5 a5) else none
set_option maxRecDepth 100000 in
set_option maxHeartbeats 4000000 in
theorem sX4_becomeBox_0 (G : am_G) (a0 : Nat) (a1 : Int32) (a2 : Int32) (a3 : Int32) (a4 : Int32) (a5 : Int32) (M : am_M) (h_a0 : am_sh M a0 8) : am_S am_ev G 0 yX4_becomeBox.cls yX4_becomeBox.name cX4_becomeBox 6 none 0 [(0, .ref a0), (1, .int a1), (2, .int a2), (3, .int a3), (4, .int a4), (5, .int a5)] [] M (fX4_becomeBox a0 a1 a2 a3 a4 a5 M) := by
  show am_S am_ev G 0 yX4_becomeBox.cls yX4_becomeBox.name cX4_becomeBox 6 none 0 [(0, .ref a0), (1, .int a1), (2, .int a2), (3, .int a3), (4, .int a4), (5, .int a5)] [] M (if a1 &&& 1 = a1 then some (am_pI (am_pI (am_pI (am_pI (am_pI (am_pI M a0 0 a1) a0 1 0) a0 2 a2) a0 3 a3) a0 4 a4) a0 5 a5) else none)
  refine am_aload_n 0 dX4_becomeBox_0 rfl rfl ?_
  refine am_iload_n 1 dX4_becomeBox_1 rfl rfl ?_
  refine am_putN 3 dX4_becomeBox_2 fl_RX4_7 h_a0 rfl rfl (fun c1 => ?_)
  refine am_aload_n 0 dX4_becomeBox_5 rfl rfl ?_
  refine am_iconst dX4_becomeBox_6 am_kc_0 ?_
  refine am_putI 3 dX4_becomeBox_7 fl_RX4_13 (am_sh.of h_a0 rfl) rfl rfl rfl rfl ?_
  refine am_aload_n 0 dX4_becomeBox_10 rfl rfl ?_
  refine am_iload_n 2 dX4_becomeBox_11 rfl rfl ?_
  refine am_putI 3 dX4_becomeBox_12 fl_RX4_16 (am_sh.of h_a0 rfl) rfl rfl rfl rfl ?_
  refine am_aload_n 0 dX4_becomeBox_15 rfl rfl ?_
  refine am_iload_n 3 dX4_becomeBox_16 rfl rfl ?_
  refine am_putI 3 dX4_becomeBox_17 fl_RX4_20 (am_sh.of h_a0 rfl) rfl rfl rfl rfl ?_
  refine am_aload_n 0 dX4_becomeBox_20 rfl rfl ?_
  refine am_iload 4 dX4_becomeBox_21 rfl ?_
  refine am_putI 3 dX4_becomeBox_23 fl_RX4_23 (am_sh.of h_a0 rfl) rfl rfl rfl rfl ?_
  refine am_aload_n 0 dX4_becomeBox_26 rfl rfl ?_
  refine am_iload 5 dX4_becomeBox_27 rfl ?_
  refine am_putI 3 dX4_becomeBox_29 fl_RX4_26 (am_sh.of h_a0 rfl) rfl rfl rfl rfl ?_
  exact am_vret dX4_becomeBox_32
theorem CX4_becomeBox (G : am_G) (a0 : Nat) (a1 : Int32) (a2 : Int32) (a3 : Int32) (a4 : Int32) (a5 : Int32) (M : am_M) (h_a0 : am_sh M a0 8) : am_C am_ev G 0 yX4_becomeBox cX4_becomeBox 6 none [.ref a0, .int a1, .int a2, .int a3, .int a4, .int a5] M (fX4_becomeBox a0 a1 a2 a3 a4 a5 M) :=
  am_meth (by decide) rfl (Nat.le_of_ble_eq_true rfl) (sX4_becomeBox_0 G a0 a1 a2 a3 a4 a5 M h_a0)
def fX4_becomeDisc (a0 : Nat) (a1 : Int32) (a2 : Int32) (a3 : Int32) (a4 : Int32) (M : am_M) : Option am_M := if a1 &&& 1 = a1 then some (am_pI (am_pI (am_pI (am_pI (am_pI (am_pI M a0 0 a1) a0 1 1) a0 2 a2) a0 3 a3) a0 4 a4) a0 5 0) else none
set_option maxRecDepth 100000 in
set_option maxHeartbeats 4000000 in
theorem sX4_becomeDisc_0 (G : am_G) (a0 : Nat) (a1 : Int32) (a2 : Int32) (a3 : Int32) (a4 : Int32) (M : am_M) (h_a0 : am_sh M a0 8) : am_S am_ev G 0 yX4_becomeDisc.cls yX4_becomeDisc.name cX4_becomeDisc 5 none 0 [(0, .ref a0), (1, .int a1), (2, .int a2), (3, .int a3), (4, .int a4)] [] M (fX4_becomeDisc a0 a1 a2 a3 a4 M) := by
  show am_S am_ev G 0 yX4_becomeDisc.cls yX4_becomeDisc.name cX4_becomeDisc 5 none 0 [(0, .ref a0), (1, .int a1), (2, .int a2), (3, .int a3), (4, .int a4)] [] M (if a1 &&& 1 = a1 then some (am_pI (am_pI (am_pI (am_pI (am_pI (am_pI M a0 0 a1) a0 1 1) a0 2 a2) a0 3 a3) a0 4 a4) a0 5 0) else none)
  refine am_aload_n 0 dX4_becomeDisc_0 rfl rfl ?_
  refine am_iload_n 1 dX4_becomeDisc_1 rfl rfl ?_
  refine am_putN 3 dX4_becomeDisc_2 fl_RX4_7 h_a0 rfl rfl (fun c1 => ?_)
  refine am_aload_n 0 dX4_becomeDisc_5 rfl rfl ?_
  refine am_iconst dX4_becomeDisc_6 am_kc_1 ?_
  refine am_putI 3 dX4_becomeDisc_7 fl_RX4_13 (am_sh.of h_a0 rfl) rfl rfl rfl rfl ?_
  refine am_aload_n 0 dX4_becomeDisc_10 rfl rfl ?_
  refine am_iload_n 2 dX4_becomeDisc_11 rfl rfl ?_
  refine am_putI 3 dX4_becomeDisc_12 fl_RX4_16 (am_sh.of h_a0 rfl) rfl rfl rfl rfl ?_
  refine am_aload_n 0 dX4_becomeDisc_15 rfl rfl ?_
  refine am_iload_n 3 dX4_becomeDisc_16 rfl rfl ?_
  refine am_putI 3 dX4_becomeDisc_17 fl_RX4_20 (am_sh.of h_a0 rfl) rfl rfl rfl rfl ?_
  refine am_aload_n 0 dX4_becomeDisc_20 rfl rfl ?_
  refine am_iload 4 dX4_becomeDisc_21 rfl ?_
  refine am_putI 3 dX4_becomeDisc_23 fl_RX4_23 (am_sh.of h_a0 rfl) rfl rfl rfl rfl ?_
  refine am_aload_n 0 dX4_becomeDisc_26 rfl rfl ?_
  refine am_iconst dX4_becomeDisc_27 am_kc_0 ?_
  refine am_putI 3 dX4_becomeDisc_28 fl_RX4_26 (am_sh.of h_a0 rfl) rfl rfl rfl rfl ?_
  exact am_vret dX4_becomeDisc_31
theorem CX4_becomeDisc (G : am_G) (a0 : Nat) (a1 : Int32) (a2 : Int32) (a3 : Int32) (a4 : Int32) (M : am_M) (h_a0 : am_sh M a0 8) : am_C am_ev G 0 yX4_becomeDisc cX4_becomeDisc 5 none [.ref a0, .int a1, .int a2, .int a3, .int a4] M (fX4_becomeDisc a0 a1 a2 a3 a4 M) :=
  am_meth (by decide) rfl (Nat.le_of_ble_eq_true rfl) (sX4_becomeDisc_0 G a0 a1 a2 a3 a4 M h_a0)
def fX6_init_33 (s0 : Nat) (s1 : Nat) (M : am_M) : Option am_M := some (am_pR M s1 3 (some s0))
def fX6_init_25 (x0 : Nat) (s0 : Nat) (s1 : Nat) (M : am_M) : Option am_M := fX6_init_33 (am_n (am_pR M s1 2 (some s0))) x0 (am_new (am_pR M s1 2 (some s0)) 0 40)
def fX6_init_17 (x0 : Nat) (s0 : Nat) (s1 : Nat) (M : am_M) : Option am_M := fX6_init_25 x0 (am_n (am_pR M s1 1 (some s0))) x0 (am_new (am_pR M s1 1 (some s0)) 0 40)
def fX6_init_9 (x0 : Nat) (s0 : Nat) (s1 : Nat) (M : am_M) : Option am_M := fX6_init_17 x0 (am_n (am_pR M s1 0 (some s0))) x0 (am_new (am_pR M s1 0 (some s0)) 0 40)
def fX6_init (a0 : Nat) (M : am_M) : Option am_M := fX6_init_9 a0 (am_n M) a0 (am_new M 0 40)
set_option maxRecDepth 100000 in
set_option maxHeartbeats 4000000 in
theorem sX6_init_33 (G : am_G) (s0 : Nat) (s1 : Nat) (M : am_M) (h_s0 : am_sh M s0 0) (h_s1 : am_sh M s1 10) : am_S am_ev G 1 yX6_init.cls yX6_init.name cX6_init 1 none 33 [] [.ref s0, .ref s1] M (fX6_init_33 s0 s1 M) := by
  show am_S am_ev G 1 yX6_init.cls yX6_init.name cX6_init 1 none 33 [] [.ref s0, .ref s1] M (some (am_pR M s1 3 (some s0)))
  refine am_putFR 5 dX6_init_33 fl_RX6_21 h_s1 rfl h_s0 rfl rfl rfl ?_
  exact am_vret dX6_init_36
set_option maxRecDepth 100000 in
set_option maxHeartbeats 4000000 in
theorem sX6_init_25 (G : am_G) (x0 : Nat) (s0 : Nat) (s1 : Nat) (M : am_M) (h_x0 : am_sh M x0 10) (h_s0 : am_sh M s0 0) (h_s1 : am_sh M s1 10) : am_S am_ev G 1 yX6_init.cls yX6_init.name cX6_init 1 none 25 [(0, .ref x0)] [.ref s0, .ref s1] M (fX6_init_25 x0 s0 s1 M) := by
  show am_S am_ev G 1 yX6_init.cls yX6_init.name cX6_init 1 none 25 [(0, .ref x0)] [.ref s0, .ref s1] M (fX6_init_33 (am_n (am_pR M s1 2 (some s0))) x0 (am_new (am_pR M s1 2 (some s0)) 0 40))
  refine am_putFR 5 dX6_init_25 fl_RX6_18 h_s1 rfl h_s0 rfl rfl rfl ?_
  refine am_aload_n 0 dX6_init_28 rfl rfl ?_
  refine am_bipush (x := 40) dX6_init_29 (by decide) ?_
  refine am_newaI 40 dX6_init_31 ac_int (by decide) (by decide) (by decide) ?_
  refine am_sub [] rfl ?_
  exact sX6_init_33 G (am_n (am_pR M s1 2 (some s0))) x0 (am_new (am_pR M s1 2 (some s0)) 0 40) (am_sh_new _ _ _) (am_sh.mono (am_le_new _ _ _) (am_sh.of h_x0 rfl))
set_option maxRecDepth 100000 in
set_option maxHeartbeats 4000000 in
theorem sX6_init_17 (G : am_G) (x0 : Nat) (s0 : Nat) (s1 : Nat) (M : am_M) (h_x0 : am_sh M x0 10) (h_s0 : am_sh M s0 0) (h_s1 : am_sh M s1 10) : am_S am_ev G 1 yX6_init.cls yX6_init.name cX6_init 1 none 17 [(0, .ref x0)] [.ref s0, .ref s1] M (fX6_init_17 x0 s0 s1 M) := by
  show am_S am_ev G 1 yX6_init.cls yX6_init.name cX6_init 1 none 17 [(0, .ref x0)] [.ref s0, .ref s1] M (fX6_init_25 x0 (am_n (am_pR M s1 1 (some s0))) x0 (am_new (am_pR M s1 1 (some s0)) 0 40))
  refine am_putFR 5 dX6_init_17 fl_RX6_15 h_s1 rfl h_s0 rfl rfl rfl ?_
  refine am_aload_n 0 dX6_init_20 rfl rfl ?_
  refine am_bipush (x := 40) dX6_init_21 (by decide) ?_
  refine am_newaI 40 dX6_init_23 ac_int (by decide) (by decide) (by decide) ?_
  exact sX6_init_25 G x0 (am_n (am_pR M s1 1 (some s0))) x0 (am_new (am_pR M s1 1 (some s0)) 0 40) (am_sh.mono (am_le_new _ _ _) (am_sh.of h_x0 rfl)) (am_sh_new _ _ _) (am_sh.mono (am_le_new _ _ _) (am_sh.of h_x0 rfl))
set_option maxRecDepth 100000 in
set_option maxHeartbeats 4000000 in
theorem sX6_init_9 (G : am_G) (x0 : Nat) (s0 : Nat) (s1 : Nat) (M : am_M) (h_x0 : am_sh M x0 10) (h_s0 : am_sh M s0 0) (h_s1 : am_sh M s1 10) : am_S am_ev G 1 yX6_init.cls yX6_init.name cX6_init 1 none 9 [(0, .ref x0)] [.ref s0, .ref s1] M (fX6_init_9 x0 s0 s1 M) := by
  show am_S am_ev G 1 yX6_init.cls yX6_init.name cX6_init 1 none 9 [(0, .ref x0)] [.ref s0, .ref s1] M (fX6_init_17 x0 (am_n (am_pR M s1 0 (some s0))) x0 (am_new (am_pR M s1 0 (some s0)) 0 40))
  refine am_putFR 5 dX6_init_9 fl_RX6_9 h_s1 rfl h_s0 rfl rfl rfl ?_
  refine am_aload_n 0 dX6_init_12 rfl rfl ?_
  refine am_bipush (x := 40) dX6_init_13 (by decide) ?_
  refine am_newaI 40 dX6_init_15 ac_int (by decide) (by decide) (by decide) ?_
  exact sX6_init_17 G x0 (am_n (am_pR M s1 0 (some s0))) x0 (am_new (am_pR M s1 0 (some s0)) 0 40) (am_sh.mono (am_le_new _ _ _) (am_sh.of h_x0 rfl)) (am_sh_new _ _ _) (am_sh.mono (am_le_new _ _ _) (am_sh.of h_x0 rfl))
set_option maxRecDepth 100000 in
set_option maxHeartbeats 4000000 in
theorem sX6_init_0 (G : am_G) (a0 : Nat) (M : am_M) (h_a0 : am_sh M a0 10) : am_S am_ev G 1 yX6_init.cls yX6_init.name cX6_init 1 none 0 [(0, .ref a0)] [] M (fX6_init a0 M) := by
  show am_S am_ev G 1 yX6_init.cls yX6_init.name cX6_init 1 none 0 [(0, .ref a0)] [] M (fX6_init_9 a0 (am_n M) a0 (am_new M 0 40))
  refine am_aload_n 0 dX6_init_0 rfl rfl ?_
  refine am_obj dX6_init_1 ⟨ml_RX6_3, oc_im, oc_code⟩ (by decide) (Nat.le_of_ble_eq_true rfl) ?_
  refine am_aload_n 0 dX6_init_4 rfl rfl ?_
  refine am_bipush (x := 40) dX6_init_5 (by decide) ?_
  refine am_newaI 40 dX6_init_7 ac_int (by decide) (by decide) (by decide) ?_
  exact sX6_init_9 G a0 (am_n M) a0 (am_new M 0 40) (am_sh.mono (am_le_new _ _ _) h_a0) (am_sh_new _ _ _) (am_sh.mono (am_le_new _ _ _) h_a0)
theorem CX6_init (G : am_G) (a0 : Nat) (M : am_M) (h_a0 : am_sh M a0 10) : am_C am_ev G 1 yX6_init cX6_init 1 none [.ref a0] M (fX6_init a0 M) :=
  am_meth (by decide) rfl (Nat.le_of_ble_eq_true rfl) (sX6_init_0 G a0 M h_a0)
def fX5_begin (a0 : Nat) (a1 : Int32) (a2 : Int32) (M : am_M) : Option am_M := ((am_pI (am_pI (am_pI (am_pI (am_pI M a0 3 a1) a0 4 a2) a0 5 0) a0 6 a1) a0 2 0).2.2.1 a0 0).bind fun r1 => some (am_pI (am_pI (am_pI (am_pI (am_pI (am_pI M a0 3 a1) a0 4 a2) a0 5 0) a0 6 a1) a0 2 0) r1 4 0)
set_option maxRecDepth 100000 in
set_option maxHeartbeats 4000000 in
theorem sX5_begin_0 (G : am_G) (a0 : Nat) (a1 : Int32) (a2 : Int32) (M : am_M) (h_a0 : am_sh M a0 9) : am_S am_ev G 0 yX5_begin.cls yX5_begin.name cX5_begin 3 none 0 [(0, .ref a0), (1, .int a1), (2, .int a2)] [] M (fX5_begin a0 a1 a2 M) := by
  show am_S am_ev G 0 yX5_begin.cls yX5_begin.name cX5_begin 3 none 0 [(0, .ref a0), (1, .int a1), (2, .int a2)] [] M (((am_pI (am_pI (am_pI (am_pI (am_pI M a0 3 a1) a0 4 a2) a0 5 0) a0 6 a1) a0 2 0).2.2.1 a0 0).bind fun r1 => some (am_pI (am_pI (am_pI (am_pI (am_pI (am_pI M a0 3 a1) a0 4 a2) a0 5 0) a0 6 a1) a0 2 0) r1 4 0))
  refine am_aload_n 0 dX5_begin_0 rfl rfl ?_
  refine am_iload_n 1 dX5_begin_1 rfl rfl ?_
  refine am_putI 4 dX5_begin_2 fl_RX5_29 h_a0 rfl rfl rfl rfl ?_
  refine am_aload_n 0 dX5_begin_5 rfl rfl ?_
  refine am_iload_n 2 dX5_begin_6 rfl rfl ?_
  refine am_putI 4 dX5_begin_7 fl_RX5_33 (am_sh.of h_a0 rfl) rfl rfl rfl rfl ?_
  refine am_aload_n 0 dX5_begin_10 rfl rfl ?_
  refine am_iconst dX5_begin_11 am_kc_0 ?_
  refine am_putI 4 dX5_begin_12 fl_RX5_36 (am_sh.of h_a0 rfl) rfl rfl rfl rfl ?_
  refine am_aload_n 0 dX5_begin_15 rfl rfl ?_
  refine am_iload_n 1 dX5_begin_16 rfl rfl ?_
  refine am_putI 4 dX5_begin_17 fl_RX5_39 (am_sh.of h_a0 rfl) rfl rfl rfl rfl ?_
  refine am_aload_n 0 dX5_begin_20 rfl rfl ?_
  refine am_iconst dX5_begin_21 am_kc_0 ?_
  refine am_putI 4 dX5_begin_22 fl_RX5_42 (am_sh.of h_a0 rfl) rfl rfl rfl rfl ?_
  refine am_aload_n 0 dX5_begin_25 rfl rfl ?_
  refine am_getR 4 dX5_begin_26 fl_RX5_12 (am_sh.of h_a0 rfl) rfl (fun r1 e2 h3 => ?_)
  refine am_iconst dX5_begin_29 am_kc_0 ?_
  refine am_putI 5 dX5_begin_30 fl_RX5_45 (am_sh.of (am_sh.of (M := am_pI (am_pI (am_pI (am_pI (am_pI M a0 3 a1) a0 4 a2) a0 5 0) a0 6 a1) a0 2 0) h3 rfl) rfl) rfl rfl rfl rfl ?_
  exact am_vret dX5_begin_33
theorem CX5_begin (G : am_G) (a0 : Nat) (a1 : Int32) (a2 : Int32) (M : am_M) (h_a0 : am_sh M a0 9) : am_C am_ev G 0 yX5_begin cX5_begin 3 none [.ref a0, .int a1, .int a2] M (fX5_begin a0 a1 a2 M) :=
  am_meth (by decide) rfl (Nat.le_of_ble_eq_true rfl) (sX5_begin_0 G a0 a1 a2 M h_a0)
def fX5_init_40 (k26 : (Nat × Int32 × am_M) → Option am_M) (x0 : Nat) (x1 : Int32) (s0 : Nat) (s1 : Int32) (s2 : Nat) (M : am_M) : Option am_M := (fX4_init s0 M).bind fun M16 => if s1 < 0 ∨ am_len M16 s2 ≤ s1.toNatClampNeg then none else k26 (x0, x1 + 1, am_pR M16 s2 s1.toNatClampNeg (some s0))
def fX5_init_26 : ((Nat × Int32 × am_M) → Option am_M) → (Nat × Int32 × am_M) → Option am_M := fun k26 q0 => match q0 with
  | (x0, x1, M) => if (8 : Int32) ≤ x1 then (fX5_begin x0 1 0 M).bind fun M8 => some M8 else (M.2.2.1 x0 1).bind fun r12 => fX5_init_40 k26 x0 x1 (am_n M) x1 r12 (am_new M (5 + 3) (am_N 3))
def fX5_init_21 (x0 : Nat) (s0 : Nat) (s1 : Nat) (M : am_M) : Option am_M := am_loop (fX5_init_26) 100000 (x0, 0, am_pR M s1 1 (some s0))
def fX5_init_8 (x0 : Nat) (s0 : Nat) (s1 : Nat) (M : am_M) : Option am_M := (fX6_init s0 M).bind fun M2 => fX5_init_21 x0 (am_n (am_pR M2 s1 0 (some s0))) x0 (am_new (am_pR M2 s1 0 (some s0)) 3 8)
def fX5_init (a0 : Nat) (M : am_M) : Option am_M := fX5_init_8 a0 (am_n M) a0 (am_new M (5 + 5) (am_N 5))
set_option maxRecDepth 100000 in
set_option maxHeartbeats 4000000 in
theorem sX5_init_40 (G : am_G) (k26 : (Nat × Int32 × am_M) → Option am_M) (hk26 : ∀ q : (Nat × Int32 × am_M), (match q with | (x0, x1, M) => am_sh M x0 9) → match q with | (x0, x1, M) => am_S am_ev G 2 yX5_init.cls yX5_init.name cX5_init 2 none 26 [(0, .ref x0), (1, .int x1)] [] M (k26 (x0, x1, M))) (x0 : Nat) (x1 : Int32) (s0 : Nat) (s1 : Int32) (s2 : Nat) (M : am_M) (h_x0 : am_sh M x0 9) (h_s0 : am_sh M s0 8) (h_s2 : am_sh M s2 3) : am_S am_ev G 2 yX5_init.cls yX5_init.name cX5_init 2 none 40 [(0, .ref x0), (1, .int x1)] [.ref s0, .int s1, .ref s2] M (fX5_init_40 k26 x0 x1 s0 s1 s2 M) := by
  show am_S am_ev G 2 yX5_init.cls yX5_init.name cX5_init 2 none 40 [(0, .ref x0), (1, .int x1)] [.ref s0, .int s1, .ref s2] M ((fX4_init s0 M).bind fun M16 => if s1 < 0 ∨ am_len M16 s2 ≤ s1.toNatClampNeg then none else k26 (x0, x1 + 1, am_pR M16 s2 s1.toNatClampNeg (some s0)))
  refine am_dup dX5_init_40 rfl ?_
  refine am_callINv [] RX9 (CX4_init G s0 M h_s0) dX5_init_41 mb_yX4_init ⟨mn_RX5_24, im_yX4_init⟩ rfl (by decide) rfl rfl (Nat.le_of_ble_eq_true rfl) (fun M16 q15 w18 l17 => ?_)
  refine am_aast dX5_init_44 (am_sh.mono l17 h_s2) (am_sh.mono l17 h_s0) (fun b20 => ?_)
  refine am_iinc (L' := [(1, .int (x1 + 1)), (0, .ref x0)]) 1 dX5_init_45 rfl (by rfl) (by decide) rfl ?_
  refine am_goto (tgt := 26) dX5_init_48 (by decide) ?_
  refine am_sub [1, 0] rfl ?_
  exact hk26 (x0, x1 + 1, am_pR M16 s2 s1.toNatClampNeg (some s0)) (am_sh.of (am_sh.mono l17 h_x0) rfl)
set_option maxRecDepth 100000 in
set_option maxHeartbeats 4000000 in
theorem sX5_init_26 (G : am_G) (k26 : (Nat × Int32 × am_M) → Option am_M) (hk26 : ∀ q : (Nat × Int32 × am_M), (match q with | (x0, x1, M) => am_sh M x0 9) → match q with | (x0, x1, M) => am_S am_ev G 2 yX5_init.cls yX5_init.name cX5_init 2 none 26 [(0, .ref x0), (1, .int x1)] [] M (k26 (x0, x1, M))) (x0 : Nat) (x1 : Int32) (M : am_M) (h_x0 : am_sh M x0 9) : am_S am_ev G 2 yX5_init.cls yX5_init.name cX5_init 2 none 26 [(0, .ref x0), (1, .int x1)] [] M (fX5_init_26 k26 (x0, x1, M)) := by
  show am_S am_ev G 2 yX5_init.cls yX5_init.name cX5_init 2 none 26 [(0, .ref x0), (1, .int x1)] [] M (if (8 : Int32) ≤ x1 then (fX5_begin x0 1 0 M).bind fun M8 => some M8 else (M.2.2.1 x0 1).bind fun r12 => fX5_init_40 k26 x0 x1 (am_n M) x1 r12 (am_new M (5 + 3) (am_N 3)))
  refine am_iload_n 1 dX5_init_26 rfl rfl ?_
  refine am_bipush (x := 8) dX5_init_27 (by decide) ?_
  refine am_icmp_ge (tgt := 51) dX5_init_29 (by decide) (fun c6 => ?_) (fun c6 => ?_)
  · refine am_aload_n 0 dX5_init_51 rfl rfl ?_
    refine am_iconst dX5_init_52 am_kc_1 ?_
    refine am_iconst dX5_init_53 am_kc_0 ?_
    refine am_callVv 4 [.int 1, .int 0] (CX5_begin G x0 1 0 M h_x0) dX5_init_54 mb_yX5_begin ⟨ml_RX5_25, im_yX5_begin, se_yX5_begin⟩ rfl h_x0 (by decide) rfl rfl (Nat.le_of_ble_eq_true rfl) (fun M8 q7 w10 l9 => ?_)
    exact am_vret dX5_init_57
  · refine am_aload_n 0 dX5_init_32 rfl rfl ?_
    refine am_getR 4 dX5_init_33 fl_RX5_20 h_x0 rfl (fun r12 e13 h14 => ?_)
    refine am_iload_n 1 dX5_init_36 rfl rfl ?_
    refine am_newO 3 dX5_init_37 am_cf_3 am_ok_3 ⟨cl_RX5_18, ib_3, iz_3⟩ ?_
    exact sX5_init_40 G k26 hk26 x0 x1 (am_n M) x1 r12 (am_new M (5 + 3) (am_N 3)) (am_sh.mono (am_le_new _ _ _) h_x0) (am_sh_new _ _ _) (am_sh.mono (am_le_new _ _ _) h14)
set_option maxRecDepth 100000 in
set_option maxHeartbeats 4000000 in
theorem lX5_init_26 (G : am_G) (n : Nat) (q : (Nat × Int32 × am_M)) (hq : match q with | (x0, x1, M) => am_sh M x0 9) : match q with | (x0, x1, M) => am_S am_ev G 2 yX5_init.cls yX5_init.name cX5_init 2 none 26 [(0, .ref x0), (1, .int x1)] [] M (am_loop (fX5_init_26) n (x0, x1, M)) := by
  exact am_loop_ok (fun q : (Nat × Int32 × am_M) => match q with | (x0, x1, M) => am_sh M x0 9) (fun q X => match q with | (x0, x1, M) => am_S am_ev G 2 yX5_init.cls yX5_init.name cX5_init 2 none 26 [(0, .ref x0), (1, .int x1)] [] M X) (fun _ => am_none) (fun k26 hk26 q hq => match q, hq with | (x0, x1, M), h_x0 => sX5_init_26 G k26 hk26 x0 x1 M h_x0) n q hq
set_option maxRecDepth 100000 in
set_option maxHeartbeats 4000000 in
theorem sX5_init_21 (G : am_G) (x0 : Nat) (s0 : Nat) (s1 : Nat) (M : am_M) (h_x0 : am_sh M x0 9) (h_s0 : am_sh M s0 3) (h_s1 : am_sh M s1 9) : am_S am_ev G 2 yX5_init.cls yX5_init.name cX5_init 2 none 21 [(0, .ref x0)] [.ref s0, .ref s1] M (fX5_init_21 x0 s0 s1 M) := by
  show am_S am_ev G 2 yX5_init.cls yX5_init.name cX5_init 2 none 21 [(0, .ref x0)] [.ref s0, .ref s1] M (am_loop (fX5_init_26) 100000 (x0, 0, am_pR M s1 1 (some s0)))
  refine am_putFR 4 dX5_init_21 fl_RX5_20 h_s1 rfl h_s0 rfl rfl rfl ?_
  refine am_iconst dX5_init_24 am_kc_0 ?_
  refine am_istore_n (L' := [(1, .int 0), (0, .ref x0)]) dX5_init_25 rfl (by decide) rfl ?_
  refine am_sub [1, 0] rfl ?_
  exact lX5_init_26 G 100000 (x0, 0, am_pR M s1 1 (some s0)) (am_sh.of h_x0 rfl)
set_option maxRecDepth 100000 in
set_option maxHeartbeats 4000000 in
theorem sX5_init_8 (G : am_G) (x0 : Nat) (s0 : Nat) (s1 : Nat) (M : am_M) (h_x0 : am_sh M x0 9) (h_s0 : am_sh M s0 10) (h_s1 : am_sh M s1 9) : am_S am_ev G 2 yX5_init.cls yX5_init.name cX5_init 2 none 8 [(0, .ref x0)] [.ref s0, .ref s1] M (fX5_init_8 x0 s0 s1 M) := by
  show am_S am_ev G 2 yX5_init.cls yX5_init.name cX5_init 2 none 8 [(0, .ref x0)] [.ref s0, .ref s1] M ((fX6_init s0 M).bind fun M2 => fX5_init_21 x0 (am_n (am_pR M2 s1 0 (some s0))) x0 (am_new (am_pR M2 s1 0 (some s0)) 3 8))
  refine am_dup dX5_init_8 rfl ?_
  refine am_callINv [] RX9 (CX6_init G s0 M h_s0) dX5_init_9 mb_yX6_init ⟨mn_RX5_11, im_yX6_init⟩ rfl (by decide) rfl rfl (Nat.le_of_ble_eq_true rfl) (fun M2 q1 w4 l3 => ?_)
  refine am_putFR 4 dX5_init_12 fl_RX5_12 (am_sh.mono l3 h_s1) rfl (am_sh.mono l3 h_s0) rfl rfl rfl ?_
  refine am_aload_n 0 dX5_init_15 rfl rfl ?_
  refine am_bipush (x := 8) dX5_init_16 (by decide) ?_
  refine am_newaP 8 dX5_init_18 cl_RX5_18 (by decide) (by decide) (by decide) ?_
  exact sX5_init_21 G x0 (am_n (am_pR M2 s1 0 (some s0))) x0 (am_new (am_pR M2 s1 0 (some s0)) 3 8) (am_sh.mono (am_le_new _ _ _) (am_sh.of (am_sh.mono l3 h_x0) rfl)) (am_sh_new _ _ _) (am_sh.mono (am_le_new _ _ _) (am_sh.of (am_sh.mono l3 h_x0) rfl))
set_option maxRecDepth 100000 in
set_option maxHeartbeats 4000000 in
theorem sX5_init_0 (G : am_G) (a0 : Nat) (M : am_M) (h_a0 : am_sh M a0 9) : am_S am_ev G 2 yX5_init.cls yX5_init.name cX5_init 2 none 0 [(0, .ref a0)] [] M (fX5_init a0 M) := by
  show am_S am_ev G 2 yX5_init.cls yX5_init.name cX5_init 2 none 0 [(0, .ref a0)] [] M (fX5_init_8 a0 (am_n M) a0 (am_new M (5 + 5) (am_N 5)))
  refine am_aload_n 0 dX5_init_0 rfl rfl ?_
  refine am_obj dX5_init_1 ⟨ml_RX5_3, oc_im, oc_code⟩ (by decide) (Nat.le_of_ble_eq_true rfl) ?_
  refine am_aload_n 0 dX5_init_4 rfl rfl ?_
  refine am_newO 5 dX5_init_5 am_cf_5 am_ok_5 ⟨cl_RX5_9, ib_5, iz_5⟩ ?_
  exact sX5_init_8 G a0 (am_n M) a0 (am_new M (5 + 5) (am_N 5)) (am_sh.mono (am_le_new _ _ _) h_a0) (am_sh_new _ _ _) (am_sh.mono (am_le_new _ _ _) h_a0)
theorem CX5_init (G : am_G) (a0 : Nat) (M : am_M) (h_a0 : am_sh M a0 9) : am_C am_ev G 2 yX5_init cX5_init 2 none [.ref a0] M (fX5_init a0 M) :=
  am_meth (by decide) rfl (Nat.le_of_ble_eq_true rfl) (sX5_init_0 G a0 M h_a0)
def fX5_side (a0 : Nat) (M : am_M) : Option (Int32 × am_M) := some (1 <<< ((M.1 a0 3) &&& 31), M)
set_option maxRecDepth 100000 in
set_option maxHeartbeats 4000000 in
theorem sX5_side_0 (G : am_G) (a0 : Nat) (M : am_M) (h_a0 : am_sh M a0 9) : am_S am_ei G 0 yX5_side.cls yX5_side.name cX5_side 1 (some FieldType.int) 0 [(0, .ref a0)] [] M (fX5_side a0 M) := by
  show am_S am_ei G 0 yX5_side.cls yX5_side.name cX5_side 1 (some FieldType.int) 0 [(0, .ref a0)] [] M (some (1 <<< ((M.1 a0 3) &&& 31), M))
  refine am_iconst dX5_side_0 am_kc_1 ?_
  refine am_aload_n 0 dX5_side_1 rfl rfl ?_
  refine am_getI 4 dX5_side_2 fl_RX5_29 h_a0 rfl ?_
  refine am_ishl dX5_side_5 ?_
  exact am_iret dX5_side_6
theorem CX5_side (G : am_G) (a0 : Nat) (M : am_M) (h_a0 : am_sh M a0 9) : am_C am_ei G 0 yX5_side cX5_side 1 (some FieldType.int) [.ref a0] M (fX5_side a0 M) :=
  am_meth (by decide) rfl (Nat.le_of_ble_eq_true rfl) (sX5_side_0 G a0 M h_a0)
def fX5_hasCell (a0 : Nat) (a1 : Int32) (a2 : Int32) (M : am_M) : Option (Int32 × am_M) := if a1 < 0 then some (0, M) else (fX5_side a0 M).bind fun p7 => if p7.1 ≤ a1 then some (0, p7.2) else if a2 < 0 then some (0, p7.2) else (fX5_side a0 p7.2).bind fun p15 => if p15.1 ≤ a2 then some (0, p15.2) else some (1, p15.2)
set_option maxRecDepth 100000 in
set_option maxHeartbeats 4000000 in
theorem sX5_hasCell_0 (G : am_G) (a0 : Nat) (a1 : Int32) (a2 : Int32) (M : am_M) (h_a0 : am_sh M a0 9) : am_S am_ei G 1 yX5_hasCell.cls yX5_hasCell.name cX5_hasCell 3 (some FieldType.boolean) 0 [(0, .ref a0), (1, .int a1), (2, .int a2)] [] M (fX5_hasCell a0 a1 a2 M) := by
  show am_S am_ei G 1 yX5_hasCell.cls yX5_hasCell.name cX5_hasCell 3 (some FieldType.boolean) 0 [(0, .ref a0), (1, .int a1), (2, .int a2)] [] M (if a1 < 0 then some (0, M) else (fX5_side a0 M).bind fun p7 => if p7.1 ≤ a1 then some (0, p7.2) else if a2 < 0 then some (0, p7.2) else (fX5_side a0 p7.2).bind fun p15 => if p15.1 ≤ a2 then some (0, p15.2) else some (1, p15.2))
  refine am_iload_n 1 dX5_hasCell_0 rfl rfl ?_
  refine am_if_lt (tgt := 28) dX5_hasCell_1 (by decide) (fun c1 => ?_) (fun c1 => ?_)
  · refine am_iconst dX5_hasCell_28 am_kc_0 ?_
    exact am_zret0 dX5_hasCell_29
  · refine am_iload_n 1 dX5_hasCell_4 rfl rfl ?_
    refine am_aload_n 0 dX5_hasCell_5 rfl rfl ?_
    refine am_callVi 4 [] (CX5_side G a0 M h_a0) dX5_hasCell_6 mb_yX5_side ⟨ml_RX5_48, im_yX5_side, se_yX5_side⟩ rfl h_a0 (by decide) rfl rfl (Nat.le_of_ble_eq_true rfl) (fun v6 M3 q2 w5 l4 => ?_)
    refine am_icmp_ge (tgt := 28) dX5_hasCell_9 (by decide) (fun c8 => ?_) (fun c8 => ?_)
    · refine am_iconst dX5_hasCell_28 am_kc_0 ?_
      exact am_zret0 dX5_hasCell_29
    · refine am_iload_n 2 dX5_hasCell_12 rfl rfl ?_
      refine am_if_lt (tgt := 28) dX5_hasCell_13 (by decide) (fun c9 => ?_) (fun c9 => ?_)
      · refine am_iconst dX5_hasCell_28 am_kc_0 ?_
        exact am_zret0 dX5_hasCell_29
      · refine am_iload_n 2 dX5_hasCell_16 rfl rfl ?_
        refine am_aload_n 0 dX5_hasCell_17 rfl rfl ?_
        refine am_callVi 4 [] (CX5_side G a0 M3 (am_sh.mono l4 h_a0)) dX5_hasCell_18 mb_yX5_side ⟨ml_RX5_48, im_yX5_side, se_yX5_side⟩ rfl (am_sh.mono l4 h_a0) (by decide) rfl rfl (Nat.le_of_ble_eq_true rfl) (fun v14 M11 q10 w13 l12 => ?_)
        refine am_icmp_ge (tgt := 28) dX5_hasCell_21 (by decide) (fun c16 => ?_) (fun c16 => ?_)
        · refine am_iconst dX5_hasCell_28 am_kc_0 ?_
          exact am_zret0 dX5_hasCell_29
        · refine am_iconst dX5_hasCell_24 am_kc_1 ?_
          refine am_goto (tgt := 29) dX5_hasCell_25 (by decide) ?_
          exact am_zret1 dX5_hasCell_29
theorem CX5_hasCell (G : am_G) (a0 : Nat) (a1 : Int32) (a2 : Int32) (M : am_M) (h_a0 : am_sh M a0 9) : am_C am_ei G 1 yX5_hasCell cX5_hasCell 3 (some FieldType.boolean) [.ref a0, .int a1, .int a2] M (fX5_hasCell a0 a1 a2 M) :=
  am_meth (by decide) rfl (Nat.le_of_ble_eq_true rfl) (sX5_hasCell_0 G a0 a1 a2 M h_a0)
def fX5_hasTile (a0 : Nat) (a1 : Int32) (a2 : Int32) (M : am_M) : Option (Int32 × am_M) := if a1 < 0 then some (0, M) else if M.1 a0 3 < a1 then some (0, M) else if a2 < 0 then some (0, M) else if 1 <<< ((2 * a1) &&& 31) ≤ a2 then some (0, M) else some (1, M)
set_option maxRecDepth 100000 in
set_option maxHeartbeats 4000000 in
theorem sX5_hasTile_0 (G : am_G) (a0 : Nat) (a1 : Int32) (a2 : Int32) (M : am_M) (h_a0 : am_sh M a0 9) : am_S am_ei G 0 yX5_hasTile.cls yX5_hasTile.name cX5_hasTile 3 (some FieldType.boolean) 0 [(0, .ref a0), (1, .int a1), (2, .int a2)] [] M (fX5_hasTile a0 a1 a2 M) := by
  show am_S am_ei G 0 yX5_hasTile.cls yX5_hasTile.name cX5_hasTile 3 (some FieldType.boolean) 0 [(0, .ref a0), (1, .int a1), (2, .int a2)] [] M (if a1 < 0 then some (0, M) else if M.1 a0 3 < a1 then some (0, M) else if a2 < 0 then some (0, M) else if 1 <<< ((2 * a1) &&& 31) ≤ a2 then some (0, M) else some (1, M))
  refine am_iload_n 1 dX5_hasTile_0 rfl rfl ?_
  refine am_if_lt (tgt := 29) dX5_hasTile_1 (by decide) (fun c1 => ?_) (fun c1 => ?_)
  · refine am_iconst dX5_hasTile_29 am_kc_0 ?_
    exact am_zret0 dX5_hasTile_30
  · refine am_iload_n 1 dX5_hasTile_4 rfl rfl ?_
    refine am_aload_n 0 dX5_hasTile_5 rfl rfl ?_
    refine am_getI 4 dX5_hasTile_6 fl_RX5_29 h_a0 rfl ?_
    refine am_icmp_gt (tgt := 29) dX5_hasTile_9 (by decide) (fun c2 => ?_) (fun c2 => ?_)
    · refine am_iconst dX5_hasTile_29 am_kc_0 ?_
      exact am_zret0 dX5_hasTile_30
    · refine am_iload_n 2 dX5_hasTile_12 rfl rfl ?_
      refine am_if_lt (tgt := 29) dX5_hasTile_13 (by decide) (fun c3 => ?_) (fun c3 => ?_)
      · refine am_iconst dX5_hasTile_29 am_kc_0 ?_
        exact am_zret0 dX5_hasTile_30
      · refine am_iload_n 2 dX5_hasTile_16 rfl rfl ?_
        refine am_iconst dX5_hasTile_17 am_kc_1 ?_
        refine am_iconst dX5_hasTile_18 am_kc_2 ?_
        refine am_iload_n 1 dX5_hasTile_19 rfl rfl ?_
        refine am_imul dX5_hasTile_20 ?_
        refine am_ishl dX5_hasTile_21 ?_
        refine am_icmp_ge (tgt := 29) dX5_hasTile_22 (by decide) (fun c4 => ?_) (fun c4 => ?_)
        · refine am_iconst dX5_hasTile_29 am_kc_0 ?_
          exact am_zret0 dX5_hasTile_30
        · refine am_iconst dX5_hasTile_25 am_kc_1 ?_
          refine am_goto (tgt := 30) dX5_hasTile_26 (by decide) ?_
          exact am_zret1 dX5_hasTile_30
theorem CX5_hasTile (G : am_G) (a0 : Nat) (a1 : Int32) (a2 : Int32) (M : am_M) (h_a0 : am_sh M a0 9) : am_C am_ei G 0 yX5_hasTile cX5_hasTile 3 (some FieldType.boolean) [.ref a0, .int a1, .int a2] M (fX5_hasTile a0 a1 a2 M) :=
  am_meth (by decide) rfl (Nat.le_of_ble_eq_true rfl) (sX5_hasTile_0 G a0 a1 a2 M h_a0)
def fX5_addBox (a0 : Nat) (a1 : Int32) (a2 : Int32) (a3 : Int32) (a4 : Int32) (a5 : Int32) (M : am_M) : Option (Int32 × am_M) := if M.1 a0 2 < 8 then (M.2.2.1 a0 1).bind fun r2 => if M.1 a0 2 < 0 ∨ am_len M r2 ≤ (M.1 a0 2).toNatClampNeg then none else (M.2.2.1 r2 ((M.1 a0 2).toNatClampNeg)).bind fun r6 => (fX4_becomeBox r6 a1 a2 a3 a4 a5 M).bind fun M10 => some (1, am_pI M10 a0 2 ((M10.1 a0 2) + 1)) else some (0, M)
set_option maxRecDepth 100000 in
set_option maxHeartbeats 4000000 in
theorem sX5_addBox_0 (G : am_G) (a0 : Nat) (a1 : Int32) (a2 : Int32) (a3 : Int32) (a4 : Int32) (a5 : Int32) (M : am_M) (h_a0 : am_sh M a0 9) : am_S am_ei G 1 yX5_addBox.cls yX5_addBox.name cX5_addBox 6 (some FieldType.boolean) 0 [(0, .ref a0), (1, .int a1), (2, .int a2), (3, .int a3), (4, .int a4), (5, .int a5)] [] M (fX5_addBox a0 a1 a2 a3 a4 a5 M) := by
  show am_S am_ei G 1 yX5_addBox.cls yX5_addBox.name cX5_addBox 6 (some FieldType.boolean) 0 [(0, .ref a0), (1, .int a1), (2, .int a2), (3, .int a3), (4, .int a4), (5, .int a5)] [] M (if M.1 a0 2 < 8 then (M.2.2.1 a0 1).bind fun r2 => if M.1 a0 2 < 0 ∨ am_len M r2 ≤ (M.1 a0 2).toNatClampNeg then none else (M.2.2.1 r2 ((M.1 a0 2).toNatClampNeg)).bind fun r6 => (fX4_becomeBox r6 a1 a2 a3 a4 a5 M).bind fun M10 => some (1, am_pI M10 a0 2 ((M10.1 a0 2) + 1)) else some (0, M))
  refine am_aload_n 0 dX5_addBox_0 rfl rfl ?_
  refine am_getI 4 dX5_addBox_1 fl_RX5_42 h_a0 rfl ?_
  refine am_bipush (x := 8) dX5_addBox_4 (by decide) ?_
  refine am_icmp_lt (tgt := 11) dX5_addBox_6 (by decide) (fun c1 => ?_) (fun c1 => ?_)
  · refine am_aload_n 0 dX5_addBox_11 rfl rfl ?_
    refine am_getR 4 dX5_addBox_12 fl_RX5_20 h_a0 rfl (fun r2 e3 h4 => ?_)
    refine am_aload_n 0 dX5_addBox_15 rfl rfl ?_
    refine am_getI 4 dX5_addBox_16 fl_RX5_42 h_a0 rfl ?_
    refine am_aald dX5_addBox_19 h4 (Or.inl rfl) (fun r6 b5 e7 h8 => ?_)
    refine am_iload_n 1 dX5_addBox_20 rfl rfl ?_
    refine am_iload_n 2 dX5_addBox_21 rfl rfl ?_
    refine am_iload_n 3 dX5_addBox_22 rfl rfl ?_
    refine am_iload 4 dX5_addBox_23 rfl ?_
    refine am_iload 5 dX5_addBox_25 rfl ?_
    refine am_callVv 3 [.int a1, .int a2, .int a3, .int a4, .int a5] (CX4_becomeBox G r6 a1 a2 a3 a4 a5 M h8) dX5_addBox_27 mb_yX4_becomeBox ⟨ml_RX5_52, im_yX4_becomeBox, se_yX4_becomeBox⟩ rfl h8 (by decide) rfl rfl (Nat.le_of_ble_eq_true rfl) (fun M10 q9 w12 l11 => ?_)
    refine am_aload_n 0 dX5_addBox_30 rfl rfl ?_
    refine am_dup dX5_addBox_31 rfl ?_
    refine am_getI 4 dX5_addBox_32 fl_RX5_42 (am_sh.mono l11 h_a0) rfl ?_
    refine am_iconst dX5_addBox_35 am_kc_1 ?_
    refine am_iadd dX5_addBox_36 ?_
    refine am_putI 4 dX5_addBox_37 fl_RX5_42 (am_sh.mono l11 h_a0) rfl rfl rfl rfl ?_
    refine am_iconst dX5_addBox_40 am_kc_1 ?_
    exact am_zret1 dX5_addBox_41
  · refine am_iconst dX5_addBox_9 am_kc_0 ?_
    exact am_zret0 dX5_addBox_10
theorem CX5_addBox (G : am_G) (a0 : Nat) (a1 : Int32) (a2 : Int32) (a3 : Int32) (a4 : Int32) (a5 : Int32) (M : am_M) (h_a0 : am_sh M a0 9) : am_C am_ei G 1 yX5_addBox cX5_addBox 6 (some FieldType.boolean) [.ref a0, .int a1, .int a2, .int a3, .int a4, .int a5] M (fX5_addBox a0 a1 a2 a3 a4 a5 M) :=
  am_meth (by decide) rfl (Nat.le_of_ble_eq_true rfl) (sX5_addBox_0 G a0 a1 a2 a3 a4 a5 M h_a0)
def fX5_addDisc (a0 : Nat) (a1 : Int32) (a2 : Int32) (a3 : Int32) (a4 : Int32) (M : am_M) : Option (Int32 × am_M) := if M.1 a0 2 < 8 then (M.2.2.1 a0 1).bind fun r2 => if M.1 a0 2 < 0 ∨ am_len M r2 ≤ (M.1 a0 2).toNatClampNeg then none else (M.2.2.1 r2 ((M.1 a0 2).toNatClampNeg)).bind fun r6 => (fX4_becomeDisc r6 a1 a2 a3 a4 M).bind fun M10 => some (1, am_pI M10 a0 2 ((M10.1 a0 2) + 1)) else some (0, M)
set_option maxRecDepth 100000 in
set_option maxHeartbeats 4000000 in
theorem sX5_addDisc_0 (G : am_G) (a0 : Nat) (a1 : Int32) (a2 : Int32) (a3 : Int32) (a4 : Int32) (M : am_M) (h_a0 : am_sh M a0 9) : am_S am_ei G 1 yX5_addDisc.cls yX5_addDisc.name cX5_addDisc 5 (some FieldType.boolean) 0 [(0, .ref a0), (1, .int a1), (2, .int a2), (3, .int a3), (4, .int a4)] [] M (fX5_addDisc a0 a1 a2 a3 a4 M) := by
  show am_S am_ei G 1 yX5_addDisc.cls yX5_addDisc.name cX5_addDisc 5 (some FieldType.boolean) 0 [(0, .ref a0), (1, .int a1), (2, .int a2), (3, .int a3), (4, .int a4)] [] M (if M.1 a0 2 < 8 then (M.2.2.1 a0 1).bind fun r2 => if M.1 a0 2 < 0 ∨ am_len M r2 ≤ (M.1 a0 2).toNatClampNeg then none else (M.2.2.1 r2 ((M.1 a0 2).toNatClampNeg)).bind fun r6 => (fX4_becomeDisc r6 a1 a2 a3 a4 M).bind fun M10 => some (1, am_pI M10 a0 2 ((M10.1 a0 2) + 1)) else some (0, M))
  refine am_aload_n 0 dX5_addDisc_0 rfl rfl ?_
  refine am_getI 4 dX5_addDisc_1 fl_RX5_42 h_a0 rfl ?_
  refine am_bipush (x := 8) dX5_addDisc_4 (by decide) ?_
  refine am_icmp_lt (tgt := 11) dX5_addDisc_6 (by decide) (fun c1 => ?_) (fun c1 => ?_)
  · refine am_aload_n 0 dX5_addDisc_11 rfl rfl ?_
    refine am_getR 4 dX5_addDisc_12 fl_RX5_20 h_a0 rfl (fun r2 e3 h4 => ?_)
    refine am_aload_n 0 dX5_addDisc_15 rfl rfl ?_
    refine am_getI 4 dX5_addDisc_16 fl_RX5_42 h_a0 rfl ?_
    refine am_aald dX5_addDisc_19 h4 (Or.inl rfl) (fun r6 b5 e7 h8 => ?_)
    refine am_iload_n 1 dX5_addDisc_20 rfl rfl ?_
    refine am_iload_n 2 dX5_addDisc_21 rfl rfl ?_
    refine am_iload_n 3 dX5_addDisc_22 rfl rfl ?_
    refine am_iload 4 dX5_addDisc_23 rfl ?_
    refine am_callVv 3 [.int a1, .int a2, .int a3, .int a4] (CX4_becomeDisc G r6 a1 a2 a3 a4 M h8) dX5_addDisc_25 mb_yX4_becomeDisc ⟨ml_RX5_56, im_yX4_becomeDisc, se_yX4_becomeDisc⟩ rfl h8 (by decide) rfl rfl (Nat.le_of_ble_eq_true rfl) (fun M10 q9 w12 l11 => ?_)
    refine am_aload_n 0 dX5_addDisc_28 rfl rfl ?_
    refine am_dup dX5_addDisc_29 rfl ?_
    refine am_getI 4 dX5_addDisc_30 fl_RX5_42 (am_sh.mono l11 h_a0) rfl ?_
    refine am_iconst dX5_addDisc_33 am_kc_1 ?_
    refine am_iadd dX5_addDisc_34 ?_
    refine am_putI 4 dX5_addDisc_35 fl_RX5_42 (am_sh.mono l11 h_a0) rfl rfl rfl rfl ?_
    refine am_iconst dX5_addDisc_38 am_kc_1 ?_
    exact am_zret1 dX5_addDisc_39
  · refine am_iconst dX5_addDisc_9 am_kc_0 ?_
    exact am_zret0 dX5_addDisc_10
theorem CX5_addDisc (G : am_G) (a0 : Nat) (a1 : Int32) (a2 : Int32) (a3 : Int32) (a4 : Int32) (M : am_M) (h_a0 : am_sh M a0 9) : am_C am_ei G 1 yX5_addDisc cX5_addDisc 5 (some FieldType.boolean) [.ref a0, .int a1, .int a2, .int a3, .int a4] M (fX5_addDisc a0 a1 a2 a3 a4 M) :=
  am_meth (by decide) rfl (Nat.le_of_ble_eq_true rfl) (sX5_addDisc_0 G a0 a1 a2 a3 a4 M h_a0)
def fX5_removePart_33 : ((Nat × Nat × Int32 × am_M) → Option (Int32 × am_M)) → (Nat × Nat × Int32 × am_M) → Option (Int32 × am_M) := fun k33 q0 => match q0 with
  | (x0, x2, x3, M) => if M.1 x0 2 ≤ x3 then (M.2.2.1 x0 1).bind fun r11 => if M.1 x0 2 < 0 ∨ am_len M r11 ≤ (M.1 x0 2).toNatClampNeg then none else some (1, am_pR M r11 (M.1 x0 2).toNatClampNeg (some x2)) else (M.2.2.1 x0 1).bind fun r15 => (M.2.2.1 x0 1).bind fun r18 => if x3 + 1 < 0 ∨ am_len M r18 ≤ (x3 + 1).toNatClampNeg then none else (M.2.2.1 r18 ((x3 + 1).toNatClampNeg)).bind fun r22 => if x3 < 0 ∨ am_len M r15 ≤ x3.toNatClampNeg then none else k33 (x0, x2, x3 + 1, am_pR M r15 x3.toNatClampNeg (some r22))
def fX5_removePart (a0 : Nat) (a1 : Int32) (M : am_M) : Option (Int32 × am_M) := if a1 < 0 then some (0, M) else if a1 < M.1 a0 2 then (M.2.2.1 a0 1).bind fun r3 => if a1 < 0 ∨ am_len M r3 ≤ a1.toNatClampNeg then none else (M.2.2.1 r3 (a1.toNatClampNeg)).bind fun r7 => am_loop (fX5_removePart_33) 100000 (a0, r7, a1, am_pI M a0 2 ((M.1 a0 2) - 1)) else some (0, M)
set_option maxRecDepth 100000 in
set_option maxHeartbeats 4000000 in
theorem sX5_removePart_33 (G : am_G) (k33 : (Nat × Nat × Int32 × am_M) → Option (Int32 × am_M)) (hk33 : ∀ q : (Nat × Nat × Int32 × am_M), (match q with | (x0, x2, x3, M) => am_sh M x0 9 ∧ am_sh M x2 8) → match q with | (x0, x2, x3, M) => am_S am_ei G 0 yX5_removePart.cls yX5_removePart.name cX5_removePart 4 (some FieldType.boolean) 33 [(0, .ref x0), (2, .ref x2), (3, .int x3)] [] M (k33 (x0, x2, x3, M))) (x0 : Nat) (x2 : Nat) (x3 : Int32) (M : am_M) (h_x0 : am_sh M x0 9) (h_x2 : am_sh M x2 8) : am_S am_ei G 0 yX5_removePart.cls yX5_removePart.name cX5_removePart 4 (some FieldType.boolean) 33 [(0, .ref x0), (2, .ref x2), (3, .int x3)] [] M (fX5_removePart_33 k33 (x0, x2, x3, M)) := by
  show am_S am_ei G 0 yX5_removePart.cls yX5_removePart.name cX5_removePart 4 (some FieldType.boolean) 33 [(0, .ref x0), (2, .ref x2), (3, .int x3)] [] M (if M.1 x0 2 ≤ x3 then (M.2.2.1 x0 1).bind fun r11 => if M.1 x0 2 < 0 ∨ am_len M r11 ≤ (M.1 x0 2).toNatClampNeg then none else some (1, am_pR M r11 (M.1 x0 2).toNatClampNeg (some x2)) else (M.2.2.1 x0 1).bind fun r15 => (M.2.2.1 x0 1).bind fun r18 => if x3 + 1 < 0 ∨ am_len M r18 ≤ (x3 + 1).toNatClampNeg then none else (M.2.2.1 r18 ((x3 + 1).toNatClampNeg)).bind fun r22 => if x3 < 0 ∨ am_len M r15 ≤ x3.toNatClampNeg then none else k33 (x0, x2, x3 + 1, am_pR M r15 x3.toNatClampNeg (some r22)))
  refine am_iload_n 2 dX5_removePart_33 rfl rfl ?_
  refine am_aload_n 0 dX5_removePart_34 rfl rfl ?_
  refine am_getI 4 dX5_removePart_35 fl_RX5_42 h_x0 rfl ?_
  refine am_icmp_ge (tgt := 61) dX5_removePart_38 (by decide) (fun c10 => ?_) (fun c10 => ?_)
  · refine am_aload_n 0 dX5_removePart_61 rfl rfl ?_
    refine am_getR 4 dX5_removePart_62 fl_RX5_20 h_x0 rfl (fun r11 e12 h13 => ?_)
    refine am_aload_n 0 dX5_removePart_65 rfl rfl ?_
    refine am_getI 4 dX5_removePart_66 fl_RX5_42 h_x0 rfl ?_
    refine am_aload_n 1 dX5_removePart_69 rfl rfl ?_
    refine am_aast dX5_removePart_70 h13 h_x2 (fun b14 => ?_)
    refine am_iconst dX5_removePart_71 am_kc_1 ?_
    exact am_zret1 dX5_removePart_72
  · refine am_aload_n 0 dX5_removePart_41 rfl rfl ?_
    refine am_getR 4 dX5_removePart_42 fl_RX5_20 h_x0 rfl (fun r15 e16 h17 => ?_)
    refine am_iload_n 2 dX5_removePart_45 rfl rfl ?_
    refine am_aload_n 0 dX5_removePart_46 rfl rfl ?_
    refine am_getR 4 dX5_removePart_47 fl_RX5_20 h_x0 rfl (fun r18 e19 h20 => ?_)
    refine am_iload_n 2 dX5_removePart_50 rfl rfl ?_
    refine am_iconst dX5_removePart_51 am_kc_1 ?_
    refine am_iadd dX5_removePart_52 ?_
    refine am_aald dX5_removePart_53 h20 (Or.inl rfl) (fun r22 b21 e23 h24 => ?_)
    refine am_aast dX5_removePart_54 h17 h24 (fun b25 => ?_)
    refine am_iinc (L' := [(3, .int (x3 + 1)), (0, .ref x0), (2, .ref x2)]) 2 dX5_removePart_55 rfl (by rfl) (by decide) rfl ?_
    refine am_goto (tgt := 33) dX5_removePart_58 (by decide) ?_
    refine am_sub [1, 2, 0] rfl ?_
    exact hk33 (x0, x2, x3 + 1, am_pR M r15 x3.toNatClampNeg (some r22)) ⟨(am_sh.of h_x0 rfl), (am_sh.of h_x2 rfl)⟩
set_option maxRecDepth 100000 in
set_option maxHeartbeats 4000000 in
theorem lX5_removePart_33 (G : am_G) (n : Nat) (q : (Nat × Nat × Int32 × am_M)) (hq : match q with | (x0, x2, x3, M) => am_sh M x0 9 ∧ am_sh M x2 8) : match q with | (x0, x2, x3, M) => am_S am_ei G 0 yX5_removePart.cls yX5_removePart.name cX5_removePart 4 (some FieldType.boolean) 33 [(0, .ref x0), (2, .ref x2), (3, .int x3)] [] M (am_loop (fX5_removePart_33) n (x0, x2, x3, M)) := by
  exact am_loop_ok (fun q : (Nat × Nat × Int32 × am_M) => match q with | (x0, x2, x3, M) => am_sh M x0 9 ∧ am_sh M x2 8) (fun q X => match q with | (x0, x2, x3, M) => am_S am_ei G 0 yX5_removePart.cls yX5_removePart.name cX5_removePart 4 (some FieldType.boolean) 33 [(0, .ref x0), (2, .ref x2), (3, .int x3)] [] M X) (fun _ => am_none) (fun k33 hk33 q hq => match q, hq with | (x0, x2, x3, M), ⟨h_x0, h_x2⟩ => sX5_removePart_33 G k33 hk33 x0 x2 x3 M h_x0 h_x2) n q hq
set_option maxRecDepth 100000 in
set_option maxHeartbeats 4000000 in
theorem sX5_removePart_0 (G : am_G) (a0 : Nat) (a1 : Int32) (M : am_M) (h_a0 : am_sh M a0 9) : am_S am_ei G 0 yX5_removePart.cls yX5_removePart.name cX5_removePart 4 (some FieldType.boolean) 0 [(0, .ref a0), (1, .int a1)] [] M (fX5_removePart a0 a1 M) := by
  show am_S am_ei G 0 yX5_removePart.cls yX5_removePart.name cX5_removePart 4 (some FieldType.boolean) 0 [(0, .ref a0), (1, .int a1)] [] M (if a1 < 0 then some (0, M) else if a1 < M.1 a0 2 then (M.2.2.1 a0 1).bind fun r3 => if a1 < 0 ∨ am_len M r3 ≤ a1.toNatClampNeg then none else (M.2.2.1 r3 (a1.toNatClampNeg)).bind fun r7 => am_loop (fX5_removePart_33) 100000 (a0, r7, a1, am_pI M a0 2 ((M.1 a0 2) - 1)) else some (0, M))
  refine am_iload_n 1 dX5_removePart_0 rfl rfl ?_
  refine am_if_lt (tgt := 12) dX5_removePart_1 (by decide) (fun c1 => ?_) (fun c1 => ?_)
  · refine am_iconst dX5_removePart_12 am_kc_0 ?_
    exact am_zret0 dX5_removePart_13
  · refine am_iload_n 1 dX5_removePart_4 rfl rfl ?_
    refine am_aload_n 0 dX5_removePart_5 rfl rfl ?_
    refine am_getI 4 dX5_removePart_6 fl_RX5_42 h_a0 rfl ?_
    refine am_icmp_lt (tgt := 14) dX5_removePart_9 (by decide) (fun c2 => ?_) (fun c2 => ?_)
    · refine am_aload_n 0 dX5_removePart_14 rfl rfl ?_
      refine am_getR 4 dX5_removePart_15 fl_RX5_20 h_a0 rfl (fun r3 e4 h5 => ?_)
      refine am_iload_n 1 dX5_removePart_18 rfl rfl ?_
      refine am_aald dX5_removePart_19 h5 (Or.inl rfl) (fun r7 b6 e8 h9 => ?_)
      refine am_astore_n (L' := [(2, .ref r7), (0, .ref a0), (1, .int a1)]) dX5_removePart_20 rfl (by decide) rfl ?_
      refine am_aload_n 1 dX5_removePart_21 rfl rfl ?_
      refine am_dup dX5_removePart_22 rfl ?_
      refine am_getI 4 dX5_removePart_23 fl_RX5_42 h_a0 rfl ?_
      refine am_iconst dX5_removePart_26 am_kc_1 ?_
      refine am_isub dX5_removePart_27 ?_
      refine am_putI 4 dX5_removePart_28 fl_RX5_42 h_a0 rfl rfl rfl rfl ?_
      refine am_iload_n 2 dX5_removePart_31 rfl rfl ?_
      refine am_istore_n (L' := [(3, .int a1), (2, .ref r7), (0, .ref a0), (1, .int a1)]) dX5_removePart_32 rfl (by decide) rfl ?_
      refine am_sub [2, 1, 0] rfl ?_
      exact lX5_removePart_33 G 100000 (a0, r7, a1, am_pI M a0 2 ((M.1 a0 2) - 1)) ⟨(am_sh.of h_a0 rfl), (am_sh.of h9 rfl)⟩
    · refine am_iconst dX5_removePart_12 am_kc_0 ?_
      exact am_zret0 dX5_removePart_13
theorem CX5_removePart (G : am_G) (a0 : Nat) (a1 : Int32) (M : am_M) (h_a0 : am_sh M a0 9) : am_C am_ei G 0 yX5_removePart cX5_removePart 4 (some FieldType.boolean) [.ref a0, .int a1] M (fX5_removePart a0 a1 M) :=
  am_meth (by decide) rfl (Nat.le_of_ble_eq_true rfl) (sX5_removePart_0 G a0 a1 M h_a0)
def fX5_pointKey (a0 : Nat) (a1 : Int32) (M : am_M) : Option (Int32 × am_M) := (M.2.2.1 a0 0).bind fun r1 => (M.2.2.1 r1 0).bind fun r4 => if a1 < 0 ∨ am_len M r4 ≤ a1.toNatClampNeg then none else (M.2.2.1 a0 0).bind fun r8 => (M.2.2.1 r8 1).bind fun r11 => if a1 < 0 ∨ am_len M r11 ≤ a1.toNatClampNeg then none else (fX1_keyOf (M.1 a0 3) (M.1 a0 4) (M.1 r4 (a1.toNatClampNeg)) (M.1 r11 (a1.toNatClampNeg)) M).bind fun p20 => some (p20.1, p20.2)
set_option maxRecDepth 100000 in
set_option maxHeartbeats 4000000 in
theorem sX5_pointKey_0 (G : am_G) (a0 : Nat) (a1 : Int32) (M : am_M) (h_a0 : am_sh M a0 9) : am_S am_ei G 2 yX5_pointKey.cls yX5_pointKey.name cX5_pointKey 2 (some FieldType.int) 0 [(0, .ref a0), (1, .int a1)] [] M (fX5_pointKey a0 a1 M) := by
  show am_S am_ei G 2 yX5_pointKey.cls yX5_pointKey.name cX5_pointKey 2 (some FieldType.int) 0 [(0, .ref a0), (1, .int a1)] [] M ((M.2.2.1 a0 0).bind fun r1 => (M.2.2.1 r1 0).bind fun r4 => if a1 < 0 ∨ am_len M r4 ≤ a1.toNatClampNeg then none else (M.2.2.1 a0 0).bind fun r8 => (M.2.2.1 r8 1).bind fun r11 => if a1 < 0 ∨ am_len M r11 ≤ a1.toNatClampNeg then none else (fX1_keyOf (M.1 a0 3) (M.1 a0 4) (M.1 r4 (a1.toNatClampNeg)) (M.1 r11 (a1.toNatClampNeg)) M).bind fun p20 => some (p20.1, p20.2))
  refine am_aload_n 0 dX5_pointKey_0 rfl rfl ?_
  refine am_getI 4 dX5_pointKey_1 fl_RX5_29 h_a0 rfl ?_
  refine am_aload_n 0 dX5_pointKey_4 rfl rfl ?_
  refine am_getI 4 dX5_pointKey_5 fl_RX5_33 h_a0 rfl ?_
  refine am_aload_n 0 dX5_pointKey_8 rfl rfl ?_
  refine am_getR 4 dX5_pointKey_9 fl_RX5_12 h_a0 rfl (fun r1 e2 h3 => ?_)
  refine am_getR 5 dX5_pointKey_12 fl_RX5_81 h3 rfl (fun r4 e5 h6 => ?_)
  refine am_iload_n 1 dX5_pointKey_15 rfl rfl ?_
  refine am_iald dX5_pointKey_16 h6 (fun b7 => ?_)
  refine am_aload_n 0 dX5_pointKey_17 rfl rfl ?_
  refine am_getR 4 dX5_pointKey_18 fl_RX5_12 h_a0 rfl (fun r8 e9 h10 => ?_)
  refine am_getR 5 dX5_pointKey_21 fl_RX5_85 h10 rfl (fun r11 e12 h13 => ?_)
  refine am_iload_n 1 dX5_pointKey_24 rfl rfl ?_
  refine am_iald dX5_pointKey_25 h13 (fun b14 => ?_)
  refine am_callSi [.int (M.1 a0 3), .int (M.1 a0 4), .int (M.1 r4 (a1.toNatClampNeg)), .int (M.1 r11 (a1.toNatClampNeg))] (CX1_keyOf G (M.1 a0 3) (M.1 a0 4) (M.1 r4 (a1.toNatClampNeg)) (M.1 r11 (a1.toNatClampNeg)) M) dX5_pointKey_26 mb_yX1_keyOf ⟨ml_RX5_97, sm_yX1_keyOf⟩ (by decide) rfl rfl (Nat.le_of_ble_eq_true rfl) (fun v19 M16 q15 w18 l17 => ?_)
  exact am_iret dX5_pointKey_29
theorem CX5_pointKey (G : am_G) (a0 : Nat) (a1 : Int32) (M : am_M) (h_a0 : am_sh M a0 9) : am_C am_ei G 2 yX5_pointKey cX5_pointKey 2 (some FieldType.int) [.ref a0, .int a1] M (fX5_pointKey a0 a1 M) :=
  am_meth (by decide) rfl (Nat.le_of_ble_eq_true rfl) (sX5_pointKey_0 G a0 a1 M h_a0)
def fX5_pointsIn_35 (k5 : (Nat × Int32 × Int32 × Int32 × Int32 × am_M) → Option (Int32 × am_M)) (x0 : Nat) (x1 : Int32) (x2 : Int32) (x3 : Int32) (x4 : Int32) (M : am_M) : Option (Int32 × am_M) := k5 (x0, x1, x2, x3, x4 + 1, M)
def fX5_pointsIn_5 : ((Nat × Int32 × Int32 × Int32 × Int32 × am_M) → Option (Int32 × am_M)) → (Nat × Int32 × Int32 × Int32 × Int32 × am_M) → Option (Int32 × am_M) := fun k5 q0 => match q0 with
  | (x0, x1, x2, x3, x4, M) => (M.2.2.1 x0 0).bind fun r1 => if M.1 r1 4 ≤ x4 then some (x3, M) else (fX5_pointKey x0 x4 M).bind fun p10 => (fX5_tileAround x0 p10.1 x1 p10.2).bind fun p16 => if p16.1 = x2 then fX5_pointsIn_35 k5 x0 x1 x2 (x3 + 1) x4 p16.2 else fX5_pointsIn_35 k5 x0 x1 x2 x3 x4 p16.2
def fX5_pointsIn (a0 : Nat) (a1 : Int32) (a2 : Int32) (M : am_M) : Option (Int32 × am_M) := am_loop (fX5_pointsIn_5) 100000 (a0, a1, a2, 0, 0, M)
set_option maxRecDepth 100000 in
set_option maxHeartbeats 4000000 in
theorem sX5_pointsIn_35 (G : am_G) (k5 : (Nat × Int32 × Int32 × Int32 × Int32 × am_M) → Option (Int32 × am_M)) (hk5 : ∀ q : (Nat × Int32 × Int32 × Int32 × Int32 × am_M), (match q with | (x0, x1, x2, x3, x4, M) => am_sh M x0 9) → match q with | (x0, x1, x2, x3, x4, M) => am_S am_ei G 3 yX5_pointsIn.cls yX5_pointsIn.name cX5_pointsIn 5 (some FieldType.int) 5 [(0, .ref x0), (1, .int x1), (2, .int x2), (3, .int x3), (4, .int x4)] [] M (k5 (x0, x1, x2, x3, x4, M))) (x0 : Nat) (x1 : Int32) (x2 : Int32) (x3 : Int32) (x4 : Int32) (M : am_M) (h_x0 : am_sh M x0 9) : am_S am_ei G 3 yX5_pointsIn.cls yX5_pointsIn.name cX5_pointsIn 5 (some FieldType.int) 35 [(0, .ref x0), (1, .int x1), (2, .int x2), (3, .int x3), (4, .int x4)] [] M (fX5_pointsIn_35 k5 x0 x1 x2 x3 x4 M) := by
  show am_S am_ei G 3 yX5_pointsIn.cls yX5_pointsIn.name cX5_pointsIn 5 (some FieldType.int) 35 [(0, .ref x0), (1, .int x1), (2, .int x2), (3, .int x3), (4, .int x4)] [] M (k5 (x0, x1, x2, x3, x4 + 1, M))
  refine am_iinc (L' := [(4, .int (x4 + 1)), (0, .ref x0), (1, .int x1), (2, .int x2), (3, .int x3)]) 4 dX5_pointsIn_35 rfl (by rfl) (by decide) rfl ?_
  refine am_goto (tgt := 5) dX5_pointsIn_38 (by decide) ?_
  refine am_sub [1, 2, 3, 4, 0] rfl ?_
  exact hk5 (x0, x1, x2, x3, x4 + 1, M) h_x0
set_option maxRecDepth 100000 in
set_option maxHeartbeats 4000000 in
theorem sX5_pointsIn_5 (G : am_G) (k5 : (Nat × Int32 × Int32 × Int32 × Int32 × am_M) → Option (Int32 × am_M)) (hk5 : ∀ q : (Nat × Int32 × Int32 × Int32 × Int32 × am_M), (match q with | (x0, x1, x2, x3, x4, M) => am_sh M x0 9) → match q with | (x0, x1, x2, x3, x4, M) => am_S am_ei G 3 yX5_pointsIn.cls yX5_pointsIn.name cX5_pointsIn 5 (some FieldType.int) 5 [(0, .ref x0), (1, .int x1), (2, .int x2), (3, .int x3), (4, .int x4)] [] M (k5 (x0, x1, x2, x3, x4, M))) (x0 : Nat) (x1 : Int32) (x2 : Int32) (x3 : Int32) (x4 : Int32) (M : am_M) (h_x0 : am_sh M x0 9) : am_S am_ei G 3 yX5_pointsIn.cls yX5_pointsIn.name cX5_pointsIn 5 (some FieldType.int) 5 [(0, .ref x0), (1, .int x1), (2, .int x2), (3, .int x3), (4, .int x4)] [] M (fX5_pointsIn_5 k5 (x0, x1, x2, x3, x4, M)) := by
  show am_S am_ei G 3 yX5_pointsIn.cls yX5_pointsIn.name cX5_pointsIn 5 (some FieldType.int) 5 [(0, .ref x0), (1, .int x1), (2, .int x2), (3, .int x3), (4, .int x4)] [] M ((M.2.2.1 x0 0).bind fun r1 => if M.1 r1 4 ≤ x4 then some (x3, M) else (fX5_pointKey x0 x4 M).bind fun p10 => (fX5_tileAround x0 p10.1 x1 p10.2).bind fun p16 => if p16.1 = x2 then fX5_pointsIn_35 k5 x0 x1 x2 (x3 + 1) x4 p16.2 else fX5_pointsIn_35 k5 x0 x1 x2 x3 x4 p16.2)
  refine am_iload 4 dX5_pointsIn_5 rfl ?_
  refine am_aload_n 0 dX5_pointsIn_7 rfl rfl ?_
  refine am_getR 4 dX5_pointsIn_8 fl_RX5_12 h_x0 rfl (fun r1 e2 h3 => ?_)
  refine am_getI 5 dX5_pointsIn_11 fl_RX5_45 h3 rfl ?_
  refine am_icmp_ge (tgt := 41) dX5_pointsIn_14 (by decide) (fun c4 => ?_) (fun c4 => ?_)
  · refine am_iload_n 3 dX5_pointsIn_41 rfl rfl ?_
    exact am_iret dX5_pointsIn_42
  · refine am_aload_n 0 dX5_pointsIn_17 rfl rfl ?_
    refine am_aload_n 0 dX5_pointsIn_18 rfl rfl ?_
    refine am_iload 4 dX5_pointsIn_19 rfl ?_
    refine am_callVi 4 [.int x4] (CX5_pointKey G x0 x4 M h_x0) dX5_pointsIn_21 mb_yX5_pointKey ⟨ml_RX5_68, im_yX5_pointKey, se_yX5_pointKey⟩ rfl h_x0 (by decide) rfl rfl (Nat.le_of_ble_eq_true rfl) (fun v9 M6 q5 w8 l7 => ?_)
    refine am_iload_n 1 dX5_pointsIn_24 rfl rfl ?_
    refine am_callVi 4 [.int v9, .int x1] (CX5_tileAround G x0 v9 x1 M6 (am_sh.mono l7 h_x0)) dX5_pointsIn_25 mb_yX5_tileAround ⟨ml_RX5_72, im_yX5_tileAround, se_yX5_tileAround⟩ rfl (am_sh.mono l7 h_x0) (by decide) rfl rfl (Nat.le_of_ble_eq_true rfl) (fun v15 M12 q11 w14 l13 => ?_)
    refine am_iload_n 2 dX5_pointsIn_28 rfl rfl ?_
    refine am_icmp_ne (tgt := 35) dX5_pointsIn_29 (by decide) (fun c17 => ?_) (fun c17 => ?_)
    · exact sX5_pointsIn_35 G k5 hk5 x0 x1 x2 x3 x4 M12 (am_sh.mono l13 (am_sh.mono l7 h_x0))
    · refine am_iinc (L' := [(3, .int (x3 + 1)), (0, .ref x0), (1, .int x1), (2, .int x2), (4, .int x4)]) 3 dX5_pointsIn_32 rfl (by rfl) (by decide) rfl ?_
      refine am_sub [1, 2, 3, 0, 4] rfl ?_
      exact sX5_pointsIn_35 G k5 hk5 x0 x1 x2 (x3 + 1) x4 M12 (am_sh.mono l13 (am_sh.mono l7 h_x0))
set_option maxRecDepth 100000 in
set_option maxHeartbeats 4000000 in
theorem lX5_pointsIn_5 (G : am_G) (n : Nat) (q : (Nat × Int32 × Int32 × Int32 × Int32 × am_M)) (hq : match q with | (x0, x1, x2, x3, x4, M) => am_sh M x0 9) : match q with | (x0, x1, x2, x3, x4, M) => am_S am_ei G 3 yX5_pointsIn.cls yX5_pointsIn.name cX5_pointsIn 5 (some FieldType.int) 5 [(0, .ref x0), (1, .int x1), (2, .int x2), (3, .int x3), (4, .int x4)] [] M (am_loop (fX5_pointsIn_5) n (x0, x1, x2, x3, x4, M)) := by
  exact am_loop_ok (fun q : (Nat × Int32 × Int32 × Int32 × Int32 × am_M) => match q with | (x0, x1, x2, x3, x4, M) => am_sh M x0 9) (fun q X => match q with | (x0, x1, x2, x3, x4, M) => am_S am_ei G 3 yX5_pointsIn.cls yX5_pointsIn.name cX5_pointsIn 5 (some FieldType.int) 5 [(0, .ref x0), (1, .int x1), (2, .int x2), (3, .int x3), (4, .int x4)] [] M X) (fun _ => am_none) (fun k5 hk5 q hq => match q, hq with | (x0, x1, x2, x3, x4, M), h_x0 => sX5_pointsIn_5 G k5 hk5 x0 x1 x2 x3 x4 M h_x0) n q hq
set_option maxRecDepth 100000 in
set_option maxHeartbeats 4000000 in
theorem sX5_pointsIn_0 (G : am_G) (a0 : Nat) (a1 : Int32) (a2 : Int32) (M : am_M) (h_a0 : am_sh M a0 9) : am_S am_ei G 3 yX5_pointsIn.cls yX5_pointsIn.name cX5_pointsIn 5 (some FieldType.int) 0 [(0, .ref a0), (1, .int a1), (2, .int a2)] [] M (fX5_pointsIn a0 a1 a2 M) := by
  show am_S am_ei G 3 yX5_pointsIn.cls yX5_pointsIn.name cX5_pointsIn 5 (some FieldType.int) 0 [(0, .ref a0), (1, .int a1), (2, .int a2)] [] M (am_loop (fX5_pointsIn_5) 100000 (a0, a1, a2, 0, 0, M))
  refine am_iconst dX5_pointsIn_0 am_kc_0 ?_
  refine am_istore_n (L' := [(3, .int 0), (0, .ref a0), (1, .int a1), (2, .int a2)]) dX5_pointsIn_1 rfl (by decide) rfl ?_
  refine am_iconst dX5_pointsIn_2 am_kc_0 ?_
  refine am_istore (L' := [(4, .int 0), (3, .int 0), (0, .ref a0), (1, .int a1), (2, .int a2)]) dX5_pointsIn_3 (by decide) rfl ?_
  refine am_sub [2, 3, 4, 1, 0] rfl ?_
  exact lX5_pointsIn_5 G 100000 (a0, a1, a2, 0, 0, M) h_a0
theorem CX5_pointsIn (G : am_G) (a0 : Nat) (a1 : Int32) (a2 : Int32) (M : am_M) (h_a0 : am_sh M a0 9) : am_C am_ei G 3 yX5_pointsIn cX5_pointsIn 5 (some FieldType.int) [.ref a0, .int a1, .int a2] M (fX5_pointsIn a0 a1 a2 M) :=
  am_meth (by decide) rfl (Nat.le_of_ble_eq_true rfl) (sX5_pointsIn_0 G a0 a1 a2 M h_a0)
def fX5_pointsAmong_30 (k4 : (Nat × Nat × Int32 × Int32 × am_M) → Option (Int32 × am_M)) (x0 : Nat) (x1 : Nat) (x2 : Int32) (x3 : Int32) (M : am_M) : Option (Int32 × am_M) := k4 (x0, x1, x2, x3 + 1, M)
def fX5_pointsAmong_4 : ((Nat × Nat × Int32 × Int32 × am_M) → Option (Int32 × am_M)) → (Nat × Nat × Int32 × Int32 × am_M) → Option (Int32 × am_M) := fun k4 q0 => match q0 with
  | (x0, x1, x2, x3, M) => (M.2.2.1 x0 0).bind fun r1 => if M.1 r1 4 ≤ x3 then some (x2, M) else (fX5_pointKey x0 x3 M).bind fun p10 => (fX3_has x1 p10.1 p10.2).bind fun p16 => if p16.1 = 0 then fX5_pointsAmong_30 k4 x0 x1 x2 x3 p16.2 else fX5_pointsAmong_30 k4 x0 x1 (x2 + 1) x3 p16.2
def fX5_pointsAmong (a0 : Nat) (a1 : Nat) (M : am_M) : Option (Int32 × am_M) := am_loop (fX5_pointsAmong_4) 100000 (a0, a1, 0, 0, M)
set_option maxRecDepth 100000 in
set_option maxHeartbeats 4000000 in
theorem sX5_pointsAmong_30 (G : am_G) (k4 : (Nat × Nat × Int32 × Int32 × am_M) → Option (Int32 × am_M)) (hk4 : ∀ q : (Nat × Nat × Int32 × Int32 × am_M), (match q with | (x0, x1, x2, x3, M) => am_sh M x0 9 ∧ am_sh M x1 7) → match q with | (x0, x1, x2, x3, M) => am_S am_ei G 3 yX5_pointsAmong.cls yX5_pointsAmong.name cX5_pointsAmong 4 (some FieldType.int) 4 [(0, .ref x0), (1, .ref x1), (2, .int x2), (3, .int x3)] [] M (k4 (x0, x1, x2, x3, M))) (x0 : Nat) (x1 : Nat) (x2 : Int32) (x3 : Int32) (M : am_M) (h_x0 : am_sh M x0 9) (h_x1 : am_sh M x1 7) : am_S am_ei G 3 yX5_pointsAmong.cls yX5_pointsAmong.name cX5_pointsAmong 4 (some FieldType.int) 30 [(0, .ref x0), (1, .ref x1), (2, .int x2), (3, .int x3)] [] M (fX5_pointsAmong_30 k4 x0 x1 x2 x3 M) := by
  show am_S am_ei G 3 yX5_pointsAmong.cls yX5_pointsAmong.name cX5_pointsAmong 4 (some FieldType.int) 30 [(0, .ref x0), (1, .ref x1), (2, .int x2), (3, .int x3)] [] M (k4 (x0, x1, x2, x3 + 1, M))
  refine am_iinc (L' := [(3, .int (x3 + 1)), (0, .ref x0), (1, .ref x1), (2, .int x2)]) 3 dX5_pointsAmong_30 rfl (by rfl) (by decide) rfl ?_
  refine am_goto (tgt := 4) dX5_pointsAmong_33 (by decide) ?_
  refine am_sub [1, 2, 3, 0] rfl ?_
  exact hk4 (x0, x1, x2, x3 + 1, M) ⟨h_x0, h_x1⟩
set_option maxRecDepth 100000 in
set_option maxHeartbeats 4000000 in
theorem sX5_pointsAmong_4 (G : am_G) (k4 : (Nat × Nat × Int32 × Int32 × am_M) → Option (Int32 × am_M)) (hk4 : ∀ q : (Nat × Nat × Int32 × Int32 × am_M), (match q with | (x0, x1, x2, x3, M) => am_sh M x0 9 ∧ am_sh M x1 7) → match q with | (x0, x1, x2, x3, M) => am_S am_ei G 3 yX5_pointsAmong.cls yX5_pointsAmong.name cX5_pointsAmong 4 (some FieldType.int) 4 [(0, .ref x0), (1, .ref x1), (2, .int x2), (3, .int x3)] [] M (k4 (x0, x1, x2, x3, M))) (x0 : Nat) (x1 : Nat) (x2 : Int32) (x3 : Int32) (M : am_M) (h_x0 : am_sh M x0 9) (h_x1 : am_sh M x1 7) : am_S am_ei G 3 yX5_pointsAmong.cls yX5_pointsAmong.name cX5_pointsAmong 4 (some FieldType.int) 4 [(0, .ref x0), (1, .ref x1), (2, .int x2), (3, .int x3)] [] M (fX5_pointsAmong_4 k4 (x0, x1, x2, x3, M)) := by
  show am_S am_ei G 3 yX5_pointsAmong.cls yX5_pointsAmong.name cX5_pointsAmong 4 (some FieldType.int) 4 [(0, .ref x0), (1, .ref x1), (2, .int x2), (3, .int x3)] [] M ((M.2.2.1 x0 0).bind fun r1 => if M.1 r1 4 ≤ x3 then some (x2, M) else (fX5_pointKey x0 x3 M).bind fun p10 => (fX3_has x1 p10.1 p10.2).bind fun p16 => if p16.1 = 0 then fX5_pointsAmong_30 k4 x0 x1 x2 x3 p16.2 else fX5_pointsAmong_30 k4 x0 x1 (x2 + 1) x3 p16.2)
  refine am_iload_n 3 dX5_pointsAmong_4 rfl rfl ?_
  refine am_aload_n 0 dX5_pointsAmong_5 rfl rfl ?_
  refine am_getR 4 dX5_pointsAmong_6 fl_RX5_12 h_x0 rfl (fun r1 e2 h3 => ?_)
  refine am_getI 5 dX5_pointsAmong_9 fl_RX5_45 h3 rfl ?_
  refine am_icmp_ge (tgt := 36) dX5_pointsAmong_12 (by decide) (fun c4 => ?_) (fun c4 => ?_)
  · refine am_iload_n 2 dX5_pointsAmong_36 rfl rfl ?_
    exact am_iret dX5_pointsAmong_37
  · refine am_aload_n 1 dX5_pointsAmong_15 rfl rfl ?_
    refine am_aload_n 0 dX5_pointsAmong_16 rfl rfl ?_
    refine am_iload_n 3 dX5_pointsAmong_17 rfl rfl ?_
    refine am_callVi 4 [.int x3] (CX5_pointKey G x0 x3 M h_x0) dX5_pointsAmong_18 mb_yX5_pointKey ⟨ml_RX5_68, im_yX5_pointKey, se_yX5_pointKey⟩ rfl h_x0 (by decide) rfl rfl (Nat.le_of_ble_eq_true rfl) (fun v9 M6 q5 w8 l7 => ?_)
    refine am_callVi 2 [.int v9] (CX3_has G x1 v9 M6 (am_sh.mono l7 h_x1)) dX5_pointsAmong_21 mb_yX3_has ⟨ml_RX5_76, im_yX3_has, se_yX3_has⟩ rfl (am_sh.mono l7 h_x1) (by decide) rfl rfl (Nat.le_of_ble_eq_true rfl) (fun v15 M12 q11 w14 l13 => ?_)
    refine am_if_eq (tgt := 30) dX5_pointsAmong_24 (by decide) (fun c17 => ?_) (fun c17 => ?_)
    · exact sX5_pointsAmong_30 G k4 hk4 x0 x1 x2 x3 M12 (am_sh.mono l13 (am_sh.mono l7 h_x0)) (am_sh.mono l13 (am_sh.mono l7 h_x1))
    · refine am_iinc (L' := [(2, .int (x2 + 1)), (0, .ref x0), (1, .ref x1), (3, .int x3)]) 2 dX5_pointsAmong_27 rfl (by rfl) (by decide) rfl ?_
      refine am_sub [1, 2, 0, 3] rfl ?_
      exact sX5_pointsAmong_30 G k4 hk4 x0 x1 (x2 + 1) x3 M12 (am_sh.mono l13 (am_sh.mono l7 h_x0)) (am_sh.mono l13 (am_sh.mono l7 h_x1))
set_option maxRecDepth 100000 in
set_option maxHeartbeats 4000000 in
theorem lX5_pointsAmong_4 (G : am_G) (n : Nat) (q : (Nat × Nat × Int32 × Int32 × am_M)) (hq : match q with | (x0, x1, x2, x3, M) => am_sh M x0 9 ∧ am_sh M x1 7) : match q with | (x0, x1, x2, x3, M) => am_S am_ei G 3 yX5_pointsAmong.cls yX5_pointsAmong.name cX5_pointsAmong 4 (some FieldType.int) 4 [(0, .ref x0), (1, .ref x1), (2, .int x2), (3, .int x3)] [] M (am_loop (fX5_pointsAmong_4) n (x0, x1, x2, x3, M)) := by
  exact am_loop_ok (fun q : (Nat × Nat × Int32 × Int32 × am_M) => match q with | (x0, x1, x2, x3, M) => am_sh M x0 9 ∧ am_sh M x1 7) (fun q X => match q with | (x0, x1, x2, x3, M) => am_S am_ei G 3 yX5_pointsAmong.cls yX5_pointsAmong.name cX5_pointsAmong 4 (some FieldType.int) 4 [(0, .ref x0), (1, .ref x1), (2, .int x2), (3, .int x3)] [] M X) (fun _ => am_none) (fun k4 hk4 q hq => match q, hq with | (x0, x1, x2, x3, M), ⟨h_x0, h_x1⟩ => sX5_pointsAmong_4 G k4 hk4 x0 x1 x2 x3 M h_x0 h_x1) n q hq
set_option maxRecDepth 100000 in
set_option maxHeartbeats 4000000 in
theorem sX5_pointsAmong_0 (G : am_G) (a0 : Nat) (a1 : Nat) (M : am_M) (h_a0 : am_sh M a0 9) (h_a1 : am_sh M a1 7) : am_S am_ei G 3 yX5_pointsAmong.cls yX5_pointsAmong.name cX5_pointsAmong 4 (some FieldType.int) 0 [(0, .ref a0), (1, .ref a1)] [] M (fX5_pointsAmong a0 a1 M) := by
  show am_S am_ei G 3 yX5_pointsAmong.cls yX5_pointsAmong.name cX5_pointsAmong 4 (some FieldType.int) 0 [(0, .ref a0), (1, .ref a1)] [] M (am_loop (fX5_pointsAmong_4) 100000 (a0, a1, 0, 0, M))
  refine am_iconst dX5_pointsAmong_0 am_kc_0 ?_
  refine am_istore_n (L' := [(2, .int 0), (0, .ref a0), (1, .ref a1)]) dX5_pointsAmong_1 rfl (by decide) rfl ?_
  refine am_iconst dX5_pointsAmong_2 am_kc_0 ?_
  refine am_istore_n (L' := [(3, .int 0), (2, .int 0), (0, .ref a0), (1, .ref a1)]) dX5_pointsAmong_3 rfl (by decide) rfl ?_
  refine am_sub [2, 3, 1, 0] rfl ?_
  exact lX5_pointsAmong_4 G 100000 (a0, a1, 0, 0, M) ⟨h_a0, h_a1⟩
theorem CX5_pointsAmong (G : am_G) (a0 : Nat) (a1 : Nat) (M : am_M) (h_a0 : am_sh M a0 9) (h_a1 : am_sh M a1 7) : am_C am_ei G 3 yX5_pointsAmong cX5_pointsAmong 4 (some FieldType.int) [.ref a0, .ref a1] M (fX5_pointsAmong a0 a1 M) :=
  am_meth (by decide) rfl (Nat.le_of_ble_eq_true rfl) (sX5_pointsAmong_0 G a0 a1 M h_a0 h_a1)
def fX5_pointsInShape_43 (k4 : (Nat × Int32 × Int32 × am_M) → Option (Int32 × am_M)) (x0 : Nat) (x1 : Int32) (x2 : Int32) (M : am_M) : Option (Int32 × am_M) := k4 (x0, x1, x2 + 1, M)
def fX5_pointsInShape_4 : ((Nat × Int32 × Int32 × am_M) → Option (Int32 × am_M)) → (Nat × Int32 × Int32 × am_M) → Option (Int32 × am_M) := fun k4 q0 => match q0 with
  | (x0, x1, x2, M) => (M.2.2.1 x0 0).bind fun r1 => if M.1 r1 4 ≤ x2 then some (x1, M) else (M.2.2.1 x0 0).bind fun r5 => (M.2.2.1 r5 0).bind fun r8 => if x2 < 0 ∨ am_len M r8 ≤ x2.toNatClampNeg then none else (M.2.2.1 x0 0).bind fun r12 => (M.2.2.1 r12 1).bind fun r15 => if x2 < 0 ∨ am_len M r15 ≤ x2.toNatClampNeg then none else (fX5_inShape x0 (M.1 r8 (x2.toNatClampNeg)) (M.1 r15 (x2.toNatClampNeg)) M).bind fun p24 => if p24.1 = 0 then fX5_pointsInShape_43 k4 x0 x1 x2 p24.2 else fX5_pointsInShape_43 k4 x0 (x1 + 1) x2 p24.2
def fX5_pointsInShape (a0 : Nat) (M : am_M) : Option (Int32 × am_M) := am_loop (fX5_pointsInShape_4) 100000 (a0, 0, 0, M)
set_option maxRecDepth 100000 in
set_option maxHeartbeats 4000000 in
theorem sX5_pointsInShape_43 (G : am_G) (k4 : (Nat × Int32 × Int32 × am_M) → Option (Int32 × am_M)) (hk4 : ∀ q : (Nat × Int32 × Int32 × am_M), (match q with | (x0, x1, x2, M) => am_sh M x0 9) → match q with | (x0, x1, x2, M) => am_S am_ei G 2 yX5_pointsInShape.cls yX5_pointsInShape.name cX5_pointsInShape 3 (some FieldType.int) 4 [(0, .ref x0), (1, .int x1), (2, .int x2)] [] M (k4 (x0, x1, x2, M))) (x0 : Nat) (x1 : Int32) (x2 : Int32) (M : am_M) (h_x0 : am_sh M x0 9) : am_S am_ei G 2 yX5_pointsInShape.cls yX5_pointsInShape.name cX5_pointsInShape 3 (some FieldType.int) 43 [(0, .ref x0), (1, .int x1), (2, .int x2)] [] M (fX5_pointsInShape_43 k4 x0 x1 x2 M) := by
  show am_S am_ei G 2 yX5_pointsInShape.cls yX5_pointsInShape.name cX5_pointsInShape 3 (some FieldType.int) 43 [(0, .ref x0), (1, .int x1), (2, .int x2)] [] M (k4 (x0, x1, x2 + 1, M))
  refine am_iinc (L' := [(2, .int (x2 + 1)), (0, .ref x0), (1, .int x1)]) 2 dX5_pointsInShape_43 rfl (by rfl) (by decide) rfl ?_
  refine am_goto (tgt := 4) dX5_pointsInShape_46 (by decide) ?_
  refine am_sub [1, 2, 0] rfl ?_
  exact hk4 (x0, x1, x2 + 1, M) h_x0
set_option maxRecDepth 100000 in
set_option maxHeartbeats 4000000 in
theorem sX5_pointsInShape_4 (G : am_G) (k4 : (Nat × Int32 × Int32 × am_M) → Option (Int32 × am_M)) (hk4 : ∀ q : (Nat × Int32 × Int32 × am_M), (match q with | (x0, x1, x2, M) => am_sh M x0 9) → match q with | (x0, x1, x2, M) => am_S am_ei G 2 yX5_pointsInShape.cls yX5_pointsInShape.name cX5_pointsInShape 3 (some FieldType.int) 4 [(0, .ref x0), (1, .int x1), (2, .int x2)] [] M (k4 (x0, x1, x2, M))) (x0 : Nat) (x1 : Int32) (x2 : Int32) (M : am_M) (h_x0 : am_sh M x0 9) : am_S am_ei G 2 yX5_pointsInShape.cls yX5_pointsInShape.name cX5_pointsInShape 3 (some FieldType.int) 4 [(0, .ref x0), (1, .int x1), (2, .int x2)] [] M (fX5_pointsInShape_4 k4 (x0, x1, x2, M)) := by
  show am_S am_ei G 2 yX5_pointsInShape.cls yX5_pointsInShape.name cX5_pointsInShape 3 (some FieldType.int) 4 [(0, .ref x0), (1, .int x1), (2, .int x2)] [] M ((M.2.2.1 x0 0).bind fun r1 => if M.1 r1 4 ≤ x2 then some (x1, M) else (M.2.2.1 x0 0).bind fun r5 => (M.2.2.1 r5 0).bind fun r8 => if x2 < 0 ∨ am_len M r8 ≤ x2.toNatClampNeg then none else (M.2.2.1 x0 0).bind fun r12 => (M.2.2.1 r12 1).bind fun r15 => if x2 < 0 ∨ am_len M r15 ≤ x2.toNatClampNeg then none else (fX5_inShape x0 (M.1 r8 (x2.toNatClampNeg)) (M.1 r15 (x2.toNatClampNeg)) M).bind fun p24 => if p24.1 = 0 then fX5_pointsInShape_43 k4 x0 x1 x2 p24.2 else fX5_pointsInShape_43 k4 x0 (x1 + 1) x2 p24.2)
  refine am_iload_n 2 dX5_pointsInShape_4 rfl rfl ?_
  refine am_aload_n 0 dX5_pointsInShape_5 rfl rfl ?_
  refine am_getR 4 dX5_pointsInShape_6 fl_RX5_12 h_x0 rfl (fun r1 e2 h3 => ?_)
  refine am_getI 5 dX5_pointsInShape_9 fl_RX5_45 h3 rfl ?_
  refine am_icmp_ge (tgt := 49) dX5_pointsInShape_12 (by decide) (fun c4 => ?_) (fun c4 => ?_)
  · refine am_iload_n 1 dX5_pointsInShape_49 rfl rfl ?_
    exact am_iret dX5_pointsInShape_50
  · refine am_aload_n 0 dX5_pointsInShape_15 rfl rfl ?_
    refine am_aload_n 0 dX5_pointsInShape_16 rfl rfl ?_
    refine am_getR 4 dX5_pointsInShape_17 fl_RX5_12 h_x0 rfl (fun r5 e6 h7 => ?_)
    refine am_getR 5 dX5_pointsInShape_20 fl_RX5_81 h7 rfl (fun r8 e9 h10 => ?_)
    refine am_iload_n 2 dX5_pointsInShape_23 rfl rfl ?_
    refine am_iald dX5_pointsInShape_24 h10 (fun b11 => ?_)
    refine am_aload_n 0 dX5_pointsInShape_25 rfl rfl ?_
    refine am_getR 4 dX5_pointsInShape_26 fl_RX5_12 h_x0 rfl (fun r12 e13 h14 => ?_)
    refine am_getR 5 dX5_pointsInShape_29 fl_RX5_85 h14 rfl (fun r15 e16 h17 => ?_)
    refine am_iload_n 2 dX5_pointsInShape_32 rfl rfl ?_
    refine am_iald dX5_pointsInShape_33 h17 (fun b18 => ?_)
    refine am_callVi 4 [.int (M.1 r8 (x2.toNatClampNeg)), .int (M.1 r15 (x2.toNatClampNeg))] (CX5_inShape G x0 (M.1 r8 (x2.toNatClampNeg)) (M.1 r15 (x2.toNatClampNeg)) M h_x0) dX5_pointsInShape_34 mb_yX5_inShape ⟨ml_RX5_88, im_yX5_inShape, se_yX5_inShape⟩ rfl h_x0 (by decide) rfl rfl (Nat.le_of_ble_eq_true rfl) (fun v23 M20 q19 w22 l21 => ?_)
    refine am_if_eq (tgt := 43) dX5_pointsInShape_37 (by decide) (fun c25 => ?_) (fun c25 => ?_)
    · exact sX5_pointsInShape_43 G k4 hk4 x0 x1 x2 M20 (am_sh.mono l21 h_x0)
    · refine am_iinc (L' := [(1, .int (x1 + 1)), (0, .ref x0), (2, .int x2)]) 1 dX5_pointsInShape_40 rfl (by rfl) (by decide) rfl ?_
      refine am_sub [1, 0, 2] rfl ?_
      exact sX5_pointsInShape_43 G k4 hk4 x0 (x1 + 1) x2 M20 (am_sh.mono l21 h_x0)
set_option maxRecDepth 100000 in
set_option maxHeartbeats 4000000 in
theorem lX5_pointsInShape_4 (G : am_G) (n : Nat) (q : (Nat × Int32 × Int32 × am_M)) (hq : match q with | (x0, x1, x2, M) => am_sh M x0 9) : match q with | (x0, x1, x2, M) => am_S am_ei G 2 yX5_pointsInShape.cls yX5_pointsInShape.name cX5_pointsInShape 3 (some FieldType.int) 4 [(0, .ref x0), (1, .int x1), (2, .int x2)] [] M (am_loop (fX5_pointsInShape_4) n (x0, x1, x2, M)) := by
  exact am_loop_ok (fun q : (Nat × Int32 × Int32 × am_M) => match q with | (x0, x1, x2, M) => am_sh M x0 9) (fun q X => match q with | (x0, x1, x2, M) => am_S am_ei G 2 yX5_pointsInShape.cls yX5_pointsInShape.name cX5_pointsInShape 3 (some FieldType.int) 4 [(0, .ref x0), (1, .int x1), (2, .int x2)] [] M X) (fun _ => am_none) (fun k4 hk4 q hq => match q, hq with | (x0, x1, x2, M), h_x0 => sX5_pointsInShape_4 G k4 hk4 x0 x1 x2 M h_x0) n q hq
set_option maxRecDepth 100000 in
set_option maxHeartbeats 4000000 in
theorem sX5_pointsInShape_0 (G : am_G) (a0 : Nat) (M : am_M) (h_a0 : am_sh M a0 9) : am_S am_ei G 2 yX5_pointsInShape.cls yX5_pointsInShape.name cX5_pointsInShape 3 (some FieldType.int) 0 [(0, .ref a0)] [] M (fX5_pointsInShape a0 M) := by
  show am_S am_ei G 2 yX5_pointsInShape.cls yX5_pointsInShape.name cX5_pointsInShape 3 (some FieldType.int) 0 [(0, .ref a0)] [] M (am_loop (fX5_pointsInShape_4) 100000 (a0, 0, 0, M))
  refine am_iconst dX5_pointsInShape_0 am_kc_0 ?_
  refine am_istore_n (L' := [(1, .int 0), (0, .ref a0)]) dX5_pointsInShape_1 rfl (by decide) rfl ?_
  refine am_iconst dX5_pointsInShape_2 am_kc_0 ?_
  refine am_istore_n (L' := [(2, .int 0), (1, .int 0), (0, .ref a0)]) dX5_pointsInShape_3 rfl (by decide) rfl ?_
  refine am_sub [2, 1, 0] rfl ?_
  exact lX5_pointsInShape_4 G 100000 (a0, 0, 0, M) h_a0
theorem CX5_pointsInShape (G : am_G) (a0 : Nat) (M : am_M) (h_a0 : am_sh M a0 9) : am_C am_ei G 2 yX5_pointsInShape cX5_pointsInShape 3 (some FieldType.int) [.ref a0] M (fX5_pointsInShape a0 M) :=
  am_meth (by decide) rfl (Nat.le_of_ble_eq_true rfl) (sX5_pointsInShape_0 G a0 M h_a0)
def fX6_arrange_86 (k2 : (Nat × Int32 × Int32 × Int32 × am_M) → Option am_M) (x0 : Nat) (x1 : Int32) (x2 : Int32) (x3 : Int32) (x4 : Int32) (M : am_M) : Option am_M := (M.2.2.1 x0 2).bind fun r21 => if x4 < 0 ∨ am_len M r21 ≤ x4.toNatClampNeg then none else k2 (x0, x1, x2, x3 + 1, am_pI M r21 x4.toNatClampNeg x3)
def fX6_arrange_36 (k2 : (Nat × Int32 × Int32 × Int32 × am_M) → Option am_M) : ((Nat × Int32 × Int32 × Int32 × Int32 × am_M) → Option am_M) → (Nat × Int32 × Int32 × Int32 × Int32 × am_M) → Option am_M := fun k36 q0 => match q0 with
  | (x0, x1, x2, x3, x4, M) => if x4 ≤ 0 then fX6_arrange_86 k2 x0 x1 x2 x3 x4 M else (M.2.2.1 x0 3).bind fun r25 => (M.2.2.1 x0 2).bind fun r28 => if x4 - 1 < 0 ∨ am_len M r28 ≤ (x4 - 1).toNatClampNeg then none else if M.1 r28 ((x4 - 1).toNatClampNeg) < 0 ∨ am_len M r25 ≤ (M.1 r28 ((x4 - 1).toNatClampNeg)).toNatClampNeg then none else (M.2.2.1 x0 3).bind fun r33 => if x3 < 0 ∨ am_len M r33 ≤ x3.toNatClampNeg then none else if M.1 r25 ((M.1 r28 ((x4 - 1).toNatClampNeg)).toNatClampNeg) ≤ M.1 r33 (x3.toNatClampNeg) then fX6_arrange_86 k2 x0 x1 x2 x3 x4 M else (M.2.2.1 x0 2).bind fun r38 => (M.2.2.1 x0 2).bind fun r41 => if x4 - 1 < 0 ∨ am_len M r41 ≤ (x4 - 1).toNatClampNeg then none else if x4 < 0 ∨ am_len M r38 ≤ x4.toNatClampNeg then none else k36 (x0, x1, x2, x3, x4 + (-1), am_pI M r38 x4.toNatClampNeg (M.1 r41 ((x4 - 1).toNatClampNeg)))
def fX6_arrange_2 : ((Nat × Int32 × Int32 × Int32 × am_M) → Option am_M) → (Nat × Int32 × Int32 × Int32 × am_M) → Option am_M := fun k2 q0 => match q0 with
  | (x0, x1, x2, x3, M) => if M.1 x0 4 ≤ x3 then some M else (M.2.2.1 x0 3).bind fun r2 => (M.2.2.1 x0 0).bind fun r5 => if x3 < 0 ∨ am_len M r5 ≤ x3.toNatClampNeg then none else (M.2.2.1 x0 1).bind fun r9 => if x3 < 0 ∨ am_len M r9 ≤ x3.toNatClampNeg then none else (fX1_keyOf x1 x2 (M.1 r5 (x3.toNatClampNeg)) (M.1 r9 (x3.toNatClampNeg)) M).bind fun p18 => if x3 < 0 ∨ am_len p18.2 r2 ≤ x3.toNatClampNeg then none else am_loop (fX6_arrange_36 k2) 100000 (x0, x1, x2, x3, x3, am_pI p18.2 r2 x3.toNatClampNeg p18.1)
def fX6_arrange (a0 : Nat) (a1 : Int32) (a2 : Int32) (M : am_M) : Option am_M := am_loop (fX6_arrange_2) 100000 (a0, a1, a2, 0, M)
set_option maxRecDepth 100000 in
set_option maxHeartbeats 4000000 in
theorem sX6_arrange_86 (G : am_G) (k2 : (Nat × Int32 × Int32 × Int32 × am_M) → Option am_M) (hk2 : ∀ q : (Nat × Int32 × Int32 × Int32 × am_M), (match q with | (x0, x1, x2, x3, M) => am_sh M x0 10) → match q with | (x0, x1, x2, x3, M) => am_S am_ev G 2 yX6_arrange.cls yX6_arrange.name cX6_arrange 5 none 2 [(0, .ref x0), (1, .int x1), (2, .int x2), (3, .int x3)] [] M (k2 (x0, x1, x2, x3, M))) (x0 : Nat) (x1 : Int32) (x2 : Int32) (x3 : Int32) (x4 : Int32) (M : am_M) (h_x0 : am_sh M x0 10) : am_S am_ev G 2 yX6_arrange.cls yX6_arrange.name cX6_arrange 5 none 86 [(0, .ref x0), (1, .int x1), (2, .int x2), (3, .int x3), (4, .int x4)] [] M (fX6_arrange_86 k2 x0 x1 x2 x3 x4 M) := by
  show am_S am_ev G 2 yX6_arrange.cls yX6_arrange.name cX6_arrange 5 none 86 [(0, .ref x0), (1, .int x1), (2, .int x2), (3, .int x3), (4, .int x4)] [] M ((M.2.2.1 x0 2).bind fun r21 => if x4 < 0 ∨ am_len M r21 ≤ x4.toNatClampNeg then none else k2 (x0, x1, x2, x3 + 1, am_pI M r21 x4.toNatClampNeg x3))
  refine am_aload_n 0 dX6_arrange_86 rfl rfl ?_
  refine am_getR 5 dX6_arrange_87 fl_RX6_18 h_x0 rfl (fun r21 e22 h23 => ?_)
  refine am_iload 4 dX6_arrange_90 rfl ?_
  refine am_iload_n 3 dX6_arrange_92 rfl rfl ?_
  refine am_iast dX6_arrange_93 h23 (fun b24 => ?_)
  refine am_iinc (L' := [(3, .int (x3 + 1)), (0, .ref x0), (1, .int x1), (2, .int x2), (4, .int x4)]) 3 dX6_arrange_94 rfl (by rfl) (by decide) rfl ?_
  refine am_goto (tgt := 2) dX6_arrange_97 (by decide) ?_
  refine am_sub [1, 2, 3, 0] rfl ?_
  exact hk2 (x0, x1, x2, x3 + 1, am_pI M r21 x4.toNatClampNeg x3) (am_sh.of h_x0 rfl)
set_option maxRecDepth 100000 in
set_option maxHeartbeats 4000000 in
theorem sX6_arrange_36 (G : am_G) (k2 : (Nat × Int32 × Int32 × Int32 × am_M) → Option am_M) (hk2 : ∀ q : (Nat × Int32 × Int32 × Int32 × am_M), (match q with | (x0, x1, x2, x3, M) => am_sh M x0 10) → match q with | (x0, x1, x2, x3, M) => am_S am_ev G 2 yX6_arrange.cls yX6_arrange.name cX6_arrange 5 none 2 [(0, .ref x0), (1, .int x1), (2, .int x2), (3, .int x3)] [] M (k2 (x0, x1, x2, x3, M))) (k36 : (Nat × Int32 × Int32 × Int32 × Int32 × am_M) → Option am_M) (hk36 : ∀ q : (Nat × Int32 × Int32 × Int32 × Int32 × am_M), (match q with | (x0, x1, x2, x3, x4, M) => am_sh M x0 10) → match q with | (x0, x1, x2, x3, x4, M) => am_S am_ev G 2 yX6_arrange.cls yX6_arrange.name cX6_arrange 5 none 36 [(0, .ref x0), (1, .int x1), (2, .int x2), (3, .int x3), (4, .int x4)] [] M (k36 (x0, x1, x2, x3, x4, M))) (x0 : Nat) (x1 : Int32) (x2 : Int32) (x3 : Int32) (x4 : Int32) (M : am_M) (h_x0 : am_sh M x0 10) : am_S am_ev G 2 yX6_arrange.cls yX6_arrange.name cX6_arrange 5 none 36 [(0, .ref x0), (1, .int x1), (2, .int x2), (3, .int x3), (4, .int x4)] [] M (fX6_arrange_36 k2 k36 (x0, x1, x2, x3, x4, M)) := by
  show am_S am_ev G 2 yX6_arrange.cls yX6_arrange.name cX6_arrange 5 none 36 [(0, .ref x0), (1, .int x1), (2, .int x2), (3, .int x3), (4, .int x4)] [] M (if x4 ≤ 0 then fX6_arrange_86 k2 x0 x1 x2 x3 x4 M else (M.2.2.1 x0 3).bind fun r25 => (M.2.2.1 x0 2).bind fun r28 => if x4 - 1 < 0 ∨ am_len M r28 ≤ (x4 - 1).toNatClampNeg then none else if M.1 r28 ((x4 - 1).toNatClampNeg) < 0 ∨ am_len M r25 ≤ (M.1 r28 ((x4 - 1).toNatClampNeg)).toNatClampNeg then none else (M.2.2.1 x0 3).bind fun r33 => if x3 < 0 ∨ am_len M r33 ≤ x3.toNatClampNeg then none else if M.1 r25 ((M.1 r28 ((x4 - 1).toNatClampNeg)).toNatClampNeg) ≤ M.1 r33 (x3.toNatClampNeg) then fX6_arrange_86 k2 x0 x1 x2 x3 x4 M else (M.2.2.1 x0 2).bind fun r38 => (M.2.2.1 x0 2).bind fun r41 => if x4 - 1 < 0 ∨ am_len M r41 ≤ (x4 - 1).toNatClampNeg then none else if x4 < 0 ∨ am_len M r38 ≤ x4.toNatClampNeg then none else k36 (x0, x1, x2, x3, x4 + (-1), am_pI M r38 x4.toNatClampNeg (M.1 r41 ((x4 - 1).toNatClampNeg))))
  refine am_iload 4 dX6_arrange_36 rfl ?_
  refine am_if_le (tgt := 86) dX6_arrange_38 (by decide) (fun c20 => ?_) (fun c20 => ?_)
  · exact sX6_arrange_86 G k2 hk2 x0 x1 x2 x3 x4 M h_x0
  · refine am_aload_n 0 dX6_arrange_41 rfl rfl ?_
    refine am_getR 5 dX6_arrange_42 fl_RX6_21 h_x0 rfl (fun r25 e26 h27 => ?_)
    refine am_aload_n 0 dX6_arrange_45 rfl rfl ?_
    refine am_getR 5 dX6_arrange_46 fl_RX6_18 h_x0 rfl (fun r28 e29 h30 => ?_)
    refine am_iload 4 dX6_arrange_49 rfl ?_
    refine am_iconst dX6_arrange_51 am_kc_1 ?_
    refine am_isub dX6_arrange_52 ?_
    refine am_iald dX6_arrange_53 h30 (fun b31 => ?_)
    refine am_iald dX6_arrange_54 h27 (fun b32 => ?_)
    refine am_aload_n 0 dX6_arrange_55 rfl rfl ?_
    refine am_getR 5 dX6_arrange_56 fl_RX6_21 h_x0 rfl (fun r33 e34 h35 => ?_)
    refine am_iload_n 3 dX6_arrange_59 rfl rfl ?_
    refine am_iald dX6_arrange_60 h35 (fun b36 => ?_)
    refine am_icmp_le (tgt := 86) dX6_arrange_61 (by decide) (fun c37 => ?_) (fun c37 => ?_)
    · exact sX6_arrange_86 G k2 hk2 x0 x1 x2 x3 x4 M h_x0
    · refine am_aload_n 0 dX6_arrange_64 rfl rfl ?_
      refine am_getR 5 dX6_arrange_65 fl_RX6_18 h_x0 rfl (fun r38 e39 h40 => ?_)
      refine am_iload 4 dX6_arrange_68 rfl ?_
      refine am_aload_n 0 dX6_arrange_70 rfl rfl ?_
      refine am_getR 5 dX6_arrange_71 fl_RX6_18 h_x0 rfl (fun r41 e42 h43 => ?_)
      refine am_iload 4 dX6_arrange_74 rfl ?_
      refine am_iconst dX6_arrange_76 am_kc_1 ?_
      refine am_isub dX6_arrange_77 ?_
      refine am_iald dX6_arrange_78 h43 (fun b44 => ?_)
      refine am_iast dX6_arrange_79 h40 (fun b45 => ?_)
      refine am_iinc (L' := [(4, .int (x4 + (-1))), (0, .ref x0), (1, .int x1), (2, .int x2), (3, .int x3)]) 4 dX6_arrange_80 rfl (by rfl) (by decide) rfl ?_
      refine am_goto (tgt := 36) dX6_arrange_83 (by decide) ?_
      refine am_sub [1, 2, 3, 4, 0] rfl ?_
      exact hk36 (x0, x1, x2, x3, x4 + (-1), am_pI M r38 x4.toNatClampNeg (M.1 r41 ((x4 - 1).toNatClampNeg))) (am_sh.of h_x0 rfl)
set_option maxRecDepth 100000 in
set_option maxHeartbeats 4000000 in
theorem lX6_arrange_36 (G : am_G) (k2 : (Nat × Int32 × Int32 × Int32 × am_M) → Option am_M) (hk2 : ∀ q : (Nat × Int32 × Int32 × Int32 × am_M), (match q with | (x0, x1, x2, x3, M) => am_sh M x0 10) → match q with | (x0, x1, x2, x3, M) => am_S am_ev G 2 yX6_arrange.cls yX6_arrange.name cX6_arrange 5 none 2 [(0, .ref x0), (1, .int x1), (2, .int x2), (3, .int x3)] [] M (k2 (x0, x1, x2, x3, M))) (n : Nat) (q : (Nat × Int32 × Int32 × Int32 × Int32 × am_M)) (hq : match q with | (x0, x1, x2, x3, x4, M) => am_sh M x0 10) : match q with | (x0, x1, x2, x3, x4, M) => am_S am_ev G 2 yX6_arrange.cls yX6_arrange.name cX6_arrange 5 none 36 [(0, .ref x0), (1, .int x1), (2, .int x2), (3, .int x3), (4, .int x4)] [] M (am_loop (fX6_arrange_36 k2) n (x0, x1, x2, x3, x4, M)) := by
  exact am_loop_ok (fun q : (Nat × Int32 × Int32 × Int32 × Int32 × am_M) => match q with | (x0, x1, x2, x3, x4, M) => am_sh M x0 10) (fun q X => match q with | (x0, x1, x2, x3, x4, M) => am_S am_ev G 2 yX6_arrange.cls yX6_arrange.name cX6_arrange 5 none 36 [(0, .ref x0), (1, .int x1), (2, .int x2), (3, .int x3), (4, .int x4)] [] M X) (fun _ => am_none) (fun k36 hk36 q hq => match q, hq with | (x0, x1, x2, x3, x4, M), h_x0 => sX6_arrange_36 G k2 hk2 k36 hk36 x0 x1 x2 x3 x4 M h_x0) n q hq
set_option maxRecDepth 100000 in
set_option maxHeartbeats 4000000 in
theorem sX6_arrange_2 (G : am_G) (k2 : (Nat × Int32 × Int32 × Int32 × am_M) → Option am_M) (hk2 : ∀ q : (Nat × Int32 × Int32 × Int32 × am_M), (match q with | (x0, x1, x2, x3, M) => am_sh M x0 10) → match q with | (x0, x1, x2, x3, M) => am_S am_ev G 2 yX6_arrange.cls yX6_arrange.name cX6_arrange 5 none 2 [(0, .ref x0), (1, .int x1), (2, .int x2), (3, .int x3)] [] M (k2 (x0, x1, x2, x3, M))) (x0 : Nat) (x1 : Int32) (x2 : Int32) (x3 : Int32) (M : am_M) (h_x0 : am_sh M x0 10) : am_S am_ev G 2 yX6_arrange.cls yX6_arrange.name cX6_arrange 5 none 2 [(0, .ref x0), (1, .int x1), (2, .int x2), (3, .int x3)] [] M (fX6_arrange_2 k2 (x0, x1, x2, x3, M)) := by
  show am_S am_ev G 2 yX6_arrange.cls yX6_arrange.name cX6_arrange 5 none 2 [(0, .ref x0), (1, .int x1), (2, .int x2), (3, .int x3)] [] M (if M.1 x0 4 ≤ x3 then some M else (M.2.2.1 x0 3).bind fun r2 => (M.2.2.1 x0 0).bind fun r5 => if x3 < 0 ∨ am_len M r5 ≤ x3.toNatClampNeg then none else (M.2.2.1 x0 1).bind fun r9 => if x3 < 0 ∨ am_len M r9 ≤ x3.toNatClampNeg then none else (fX1_keyOf x1 x2 (M.1 r5 (x3.toNatClampNeg)) (M.1 r9 (x3.toNatClampNeg)) M).bind fun p18 => if x3 < 0 ∨ am_len p18.2 r2 ≤ x3.toNatClampNeg then none else am_loop (fX6_arrange_36 k2) 100000 (x0, x1, x2, x3, x3, am_pI p18.2 r2 x3.toNatClampNeg p18.1))
  refine am_iload_n 3 dX6_arrange_2 rfl rfl ?_
  refine am_aload_n 0 dX6_arrange_3 rfl rfl ?_
  refine am_getI 5 dX6_arrange_4 fl_RX6_24 h_x0 rfl ?_
  refine am_icmp_ge (tgt := 100) dX6_arrange_7 (by decide) (fun c1 => ?_) (fun c1 => ?_)
  · exact am_vret dX6_arrange_100
  · refine am_aload_n 0 dX6_arrange_10 rfl rfl ?_
    refine am_getR 5 dX6_arrange_11 fl_RX6_21 h_x0 rfl (fun r2 e3 h4 => ?_)
    refine am_iload_n 3 dX6_arrange_14 rfl rfl ?_
    refine am_iload_n 1 dX6_arrange_15 rfl rfl ?_
    refine am_iload_n 2 dX6_arrange_16 rfl rfl ?_
    refine am_aload_n 0 dX6_arrange_17 rfl rfl ?_
    refine am_getR 5 dX6_arrange_18 fl_RX6_9 h_x0 rfl (fun r5 e6 h7 => ?_)
    refine am_iload_n 3 dX6_arrange_21 rfl rfl ?_
    refine am_iald dX6_arrange_22 h7 (fun b8 => ?_)
    refine am_aload_n 0 dX6_arrange_23 rfl rfl ?_
    refine am_getR 5 dX6_arrange_24 fl_RX6_15 h_x0 rfl (fun r9 e10 h11 => ?_)
    refine am_iload_n 3 dX6_arrange_27 rfl rfl ?_
    refine am_iald dX6_arrange_28 h11 (fun b12 => ?_)
    refine am_callSi [.int x1, .int x2, .int (M.1 r5 (x3.toNatClampNeg)), .int (M.1 r9 (x3.toNatClampNeg))] (CX1_keyOf G x1 x2 (M.1 r5 (x3.toNatClampNeg)) (M.1 r9 (x3.toNatClampNeg)) M) dX6_arrange_29 mb_yX1_keyOf ⟨ml_RX6_32, sm_yX1_keyOf⟩ (by decide) rfl rfl (Nat.le_of_ble_eq_true rfl) (fun v17 M14 q13 w16 l15 => ?_)
    refine am_iast dX6_arrange_32 (am_sh.mono l15 h4) (fun b19 => ?_)
    refine am_iload_n 3 dX6_arrange_33 rfl rfl ?_
    refine am_istore (L' := [(4, .int x3), (0, .ref x0), (1, .int x1), (2, .int x2), (3, .int x3)]) dX6_arrange_34 (by decide) rfl ?_
    refine am_sub [1, 2, 3, 4, 0] rfl ?_
    exact lX6_arrange_36 G k2 hk2 100000 (x0, x1, x2, x3, x3, am_pI M14 r2 x3.toNatClampNeg v17) (am_sh.of (am_sh.mono l15 h_x0) rfl)
set_option maxRecDepth 100000 in
set_option maxHeartbeats 4000000 in
theorem lX6_arrange_2 (G : am_G) (n : Nat) (q : (Nat × Int32 × Int32 × Int32 × am_M)) (hq : match q with | (x0, x1, x2, x3, M) => am_sh M x0 10) : match q with | (x0, x1, x2, x3, M) => am_S am_ev G 2 yX6_arrange.cls yX6_arrange.name cX6_arrange 5 none 2 [(0, .ref x0), (1, .int x1), (2, .int x2), (3, .int x3)] [] M (am_loop (fX6_arrange_2) n (x0, x1, x2, x3, M)) := by
  exact am_loop_ok (fun q : (Nat × Int32 × Int32 × Int32 × am_M) => match q with | (x0, x1, x2, x3, M) => am_sh M x0 10) (fun q X => match q with | (x0, x1, x2, x3, M) => am_S am_ev G 2 yX6_arrange.cls yX6_arrange.name cX6_arrange 5 none 2 [(0, .ref x0), (1, .int x1), (2, .int x2), (3, .int x3)] [] M X) (fun _ => am_none) (fun k2 hk2 q hq => match q, hq with | (x0, x1, x2, x3, M), h_x0 => sX6_arrange_2 G k2 hk2 x0 x1 x2 x3 M h_x0) n q hq
set_option maxRecDepth 100000 in
set_option maxHeartbeats 4000000 in
theorem sX6_arrange_0 (G : am_G) (a0 : Nat) (a1 : Int32) (a2 : Int32) (M : am_M) (h_a0 : am_sh M a0 10) : am_S am_ev G 2 yX6_arrange.cls yX6_arrange.name cX6_arrange 5 none 0 [(0, .ref a0), (1, .int a1), (2, .int a2)] [] M (fX6_arrange a0 a1 a2 M) := by
  show am_S am_ev G 2 yX6_arrange.cls yX6_arrange.name cX6_arrange 5 none 0 [(0, .ref a0), (1, .int a1), (2, .int a2)] [] M (am_loop (fX6_arrange_2) 100000 (a0, a1, a2, 0, M))
  refine am_iconst dX6_arrange_0 am_kc_0 ?_
  refine am_istore_n (L' := [(3, .int 0), (0, .ref a0), (1, .int a1), (2, .int a2)]) dX6_arrange_1 rfl (by decide) rfl ?_
  refine am_sub [1, 2, 3, 0] rfl ?_
  exact lX6_arrange_2 G 100000 (a0, a1, a2, 0, M) h_a0
theorem CX6_arrange (G : am_G) (a0 : Nat) (a1 : Int32) (a2 : Int32) (M : am_M) (h_a0 : am_sh M a0 10) : am_C am_ev G 2 yX6_arrange cX6_arrange 5 none [.ref a0, .int a1, .int a2] M (fX6_arrange a0 a1 a2 M) :=
  am_meth (by decide) rfl (Nat.le_of_ble_eq_true rfl) (sX6_arrange_0 G a0 a1 a2 M h_a0)
def fX5_pointInShape_79 (k19 : (Nat × Int32 × Int32 × Int32 × am_M) → Option (Int32 × am_M)) (x0 : Nat) (x1 : Int32) (x2 : Int32) (x3 : Int32) (M : am_M) : Option (Int32 × am_M) := k19 (x0, x1, x2, x3 + 1, M)
def fX5_pointInShape_19 : ((Nat × Int32 × Int32 × Int32 × am_M) → Option (Int32 × am_M)) → (Nat × Int32 × Int32 × Int32 × am_M) → Option (Int32 × am_M) := fun k19 q0 => match q0 with
  | (x0, x1, x2, x3, M) => (M.2.2.1 x0 0).bind fun r9 => if M.1 r9 4 ≤ x3 then some ((-4), M) else (M.2.2.1 x0 0).bind fun r13 => (M.2.2.1 r13 2).bind fun r16 => if x3 < 0 ∨ am_len M r16 ≤ x3.toNatClampNeg then none else (M.2.2.1 x0 0).bind fun r20 => (M.2.2.1 r20 0).bind fun r23 => if M.1 r16 (x3.toNatClampNeg) < 0 ∨ am_len M r23 ≤ (M.1 r16 (x3.toNatClampNeg)).toNatClampNeg then none else (M.2.2.1 x0 0).bind fun r27 => (M.2.2.1 r27 1).bind fun r30 => if M.1 r16 (x3.toNatClampNeg) < 0 ∨ am_len M r30 ≤ (M.1 r16 (x3.toNatClampNeg)).toNatClampNeg then none else (fX5_inShape x0 (M.1 r23 ((M.1 r16 (x3.toNatClampNeg)).toNatClampNeg)) (M.1 r30 ((M.1 r16 (x3.toNatClampNeg)).toNatClampNeg)) M).bind fun p39 => if p39.1 = 0 then fX5_pointInShape_79 k19 x0 x1 x2 x3 p39.2 else if x2 = x1 then some (M.1 r16 (x3.toNatClampNeg), p39.2) else fX5_pointInShape_79 k19 x0 x1 (x2 + 1) x3 p39.2
def fX5_pointInShape (a0 : Nat) (a1 : Int32) (M : am_M) : Option (Int32 × am_M) := (M.2.2.1 a0 0).bind fun r1 => (fX6_arrange r1 (M.1 a0 3) (M.1 a0 4) M).bind fun M5 => am_loop (fX5_pointInShape_19) 100000 (a0, a1, 0, 0, M5)
set_option maxRecDepth 100000 in
set_option maxHeartbeats 4000000 in
theorem sX5_pointInShape_79 (G : am_G) (k19 : (Nat × Int32 × Int32 × Int32 × am_M) → Option (Int32 × am_M)) (hk19 : ∀ q : (Nat × Int32 × Int32 × Int32 × am_M), (match q with | (x0, x1, x2, x3, M) => am_sh M x0 9) → match q with | (x0, x1, x2, x3, M) => am_S am_ei G 3 yX5_pointInShape.cls yX5_pointInShape.name cX5_pointInShape 5 (some FieldType.int) 19 [(0, .ref x0), (1, .int x1), (2, .int x2), (3, .int x3)] [] M (k19 (x0, x1, x2, x3, M))) (x0 : Nat) (x1 : Int32) (x2 : Int32) (x3 : Int32) (M : am_M) (h_x0 : am_sh M x0 9) : am_S am_ei G 3 yX5_pointInShape.cls yX5_pointInShape.name cX5_pointInShape 5 (some FieldType.int) 79 [(0, .ref x0), (1, .int x1), (2, .int x2), (3, .int x3)] [] M (fX5_pointInShape_79 k19 x0 x1 x2 x3 M) := by
  show am_S am_ei G 3 yX5_pointInShape.cls yX5_pointInShape.name cX5_pointInShape 5 (some FieldType.int) 79 [(0, .ref x0), (1, .int x1), (2, .int x2), (3, .int x3)] [] M (k19 (x0, x1, x2, x3 + 1, M))
  refine am_iinc (L' := [(3, .int (x3 + 1)), (0, .ref x0), (1, .int x1), (2, .int x2)]) 3 dX5_pointInShape_79 rfl (by rfl) (by decide) rfl ?_
  refine am_goto (tgt := 19) dX5_pointInShape_82 (by decide) ?_
  refine am_sub [1, 2, 3, 0] rfl ?_
  exact hk19 (x0, x1, x2, x3 + 1, M) h_x0
set_option maxRecDepth 100000 in
set_option maxHeartbeats 4000000 in
theorem sX5_pointInShape_19 (G : am_G) (k19 : (Nat × Int32 × Int32 × Int32 × am_M) → Option (Int32 × am_M)) (hk19 : ∀ q : (Nat × Int32 × Int32 × Int32 × am_M), (match q with | (x0, x1, x2, x3, M) => am_sh M x0 9) → match q with | (x0, x1, x2, x3, M) => am_S am_ei G 3 yX5_pointInShape.cls yX5_pointInShape.name cX5_pointInShape 5 (some FieldType.int) 19 [(0, .ref x0), (1, .int x1), (2, .int x2), (3, .int x3)] [] M (k19 (x0, x1, x2, x3, M))) (x0 : Nat) (x1 : Int32) (x2 : Int32) (x3 : Int32) (M : am_M) (h_x0 : am_sh M x0 9) : am_S am_ei G 3 yX5_pointInShape.cls yX5_pointInShape.name cX5_pointInShape 5 (some FieldType.int) 19 [(0, .ref x0), (1, .int x1), (2, .int x2), (3, .int x3)] [] M (fX5_pointInShape_19 k19 (x0, x1, x2, x3, M)) := by
  show am_S am_ei G 3 yX5_pointInShape.cls yX5_pointInShape.name cX5_pointInShape 5 (some FieldType.int) 19 [(0, .ref x0), (1, .int x1), (2, .int x2), (3, .int x3)] [] M ((M.2.2.1 x0 0).bind fun r9 => if M.1 r9 4 ≤ x3 then some ((-4), M) else (M.2.2.1 x0 0).bind fun r13 => (M.2.2.1 r13 2).bind fun r16 => if x3 < 0 ∨ am_len M r16 ≤ x3.toNatClampNeg then none else (M.2.2.1 x0 0).bind fun r20 => (M.2.2.1 r20 0).bind fun r23 => if M.1 r16 (x3.toNatClampNeg) < 0 ∨ am_len M r23 ≤ (M.1 r16 (x3.toNatClampNeg)).toNatClampNeg then none else (M.2.2.1 x0 0).bind fun r27 => (M.2.2.1 r27 1).bind fun r30 => if M.1 r16 (x3.toNatClampNeg) < 0 ∨ am_len M r30 ≤ (M.1 r16 (x3.toNatClampNeg)).toNatClampNeg then none else (fX5_inShape x0 (M.1 r23 ((M.1 r16 (x3.toNatClampNeg)).toNatClampNeg)) (M.1 r30 ((M.1 r16 (x3.toNatClampNeg)).toNatClampNeg)) M).bind fun p39 => if p39.1 = 0 then fX5_pointInShape_79 k19 x0 x1 x2 x3 p39.2 else if x2 = x1 then some (M.1 r16 (x3.toNatClampNeg), p39.2) else fX5_pointInShape_79 k19 x0 x1 (x2 + 1) x3 p39.2)
  refine am_iload_n 3 dX5_pointInShape_19 rfl rfl ?_
  refine am_aload_n 0 dX5_pointInShape_20 rfl rfl ?_
  refine am_getR 4 dX5_pointInShape_21 fl_RX5_12 h_x0 rfl (fun r9 e10 h11 => ?_)
  refine am_getI 5 dX5_pointInShape_24 fl_RX5_45 h11 rfl ?_
  refine am_icmp_ge (tgt := 85) dX5_pointInShape_27 (by decide) (fun c12 => ?_) (fun c12 => ?_)
  · refine am_bipush (x := -4) dX5_pointInShape_85 (by decide) ?_
    exact am_iret dX5_pointInShape_87
  · refine am_aload_n 0 dX5_pointInShape_30 rfl rfl ?_
    refine am_getR 4 dX5_pointInShape_31 fl_RX5_12 h_x0 rfl (fun r13 e14 h15 => ?_)
    refine am_getR 5 dX5_pointInShape_34 fl_RX5_94 h15 rfl (fun r16 e17 h18 => ?_)
    refine am_iload_n 3 dX5_pointInShape_37 rfl rfl ?_
    refine am_iald dX5_pointInShape_38 h18 (fun b19 => ?_)
    refine am_istore (L' := [(4, .int (M.1 r16 (x3.toNatClampNeg))), (0, .ref x0), (1, .int x1), (2, .int x2), (3, .int x3)]) dX5_pointInShape_39 (by decide) rfl ?_
    refine am_aload_n 1 dX5_pointInShape_41 rfl rfl ?_
    refine am_aload_n 1 dX5_pointInShape_42 rfl rfl ?_
    refine am_getR 4 dX5_pointInShape_43 fl_RX5_12 h_x0 rfl (fun r20 e21 h22 => ?_)
    refine am_getR 5 dX5_pointInShape_46 fl_RX5_81 h22 rfl (fun r23 e24 h25 => ?_)
    refine am_iload 0 dX5_pointInShape_49 rfl ?_
    refine am_iald dX5_pointInShape_51 h25 (fun b26 => ?_)
    refine am_aload_n 1 dX5_pointInShape_52 rfl rfl ?_
    refine am_getR 4 dX5_pointInShape_53 fl_RX5_12 h_x0 rfl (fun r27 e28 h29 => ?_)
    refine am_getR 5 dX5_pointInShape_56 fl_RX5_85 h29 rfl (fun r30 e31 h32 => ?_)
    refine am_iload 0 dX5_pointInShape_59 rfl ?_
    refine am_iald dX5_pointInShape_61 h32 (fun b33 => ?_)
    refine am_callVi 4 [.int (M.1 r23 ((M.1 r16 (x3.toNatClampNeg)).toNatClampNeg)), .int (M.1 r30 ((M.1 r16 (x3.toNatClampNeg)).toNatClampNeg))] (CX5_inShape G x0 (M.1 r23 ((M.1 r16 (x3.toNatClampNeg)).toNatClampNeg)) (M.1 r30 ((M.1 r16 (x3.toNatClampNeg)).toNatClampNeg)) M h_x0) dX5_pointInShape_62 mb_yX5_inShape ⟨ml_RX5_88, im_yX5_inShape, se_yX5_inShape⟩ rfl h_x0 (by decide) rfl rfl (Nat.le_of_ble_eq_true rfl) (fun v38 M35 q34 w37 l36 => ?_)
    refine am_if_eq (tgt := 79) dX5_pointInShape_65 (by decide) (fun c40 => ?_) (fun c40 => ?_)
    · refine am_sub [1, 2, 3, 4] rfl ?_
      exact sX5_pointInShape_79 G k19 hk19 x0 x1 x2 x3 M35 (am_sh.mono l36 h_x0)
    · refine am_iload_n 3 dX5_pointInShape_68 rfl rfl ?_
      refine am_iload_n 2 dX5_pointInShape_69 rfl rfl ?_
      refine am_icmp_ne (tgt := 76) dX5_pointInShape_70 (by decide) (fun c41 => ?_) (fun c41 => ?_)
      · refine am_iinc (L' := [(2, .int (x2 + 1)), (4, .int (M.1 r16 (x3.toNatClampNeg))), (0, .ref x0), (1, .int x1), (3, .int x3)]) 3 dX5_pointInShape_76 rfl (by rfl) (by decide) rfl ?_
        refine am_sub [2, 3, 0, 4] rfl ?_
        exact sX5_pointInShape_79 G k19 hk19 x0 x1 (x2 + 1) x3 M35 (am_sh.mono l36 h_x0)
      · refine am_iload 0 dX5_pointInShape_73 rfl ?_
        exact am_iret dX5_pointInShape_75
set_option maxRecDepth 100000 in
set_option maxHeartbeats 4000000 in
theorem lX5_pointInShape_19 (G : am_G) (n : Nat) (q : (Nat × Int32 × Int32 × Int32 × am_M)) (hq : match q with | (x0, x1, x2, x3, M) => am_sh M x0 9) : match q with | (x0, x1, x2, x3, M) => am_S am_ei G 3 yX5_pointInShape.cls yX5_pointInShape.name cX5_pointInShape 5 (some FieldType.int) 19 [(0, .ref x0), (1, .int x1), (2, .int x2), (3, .int x3)] [] M (am_loop (fX5_pointInShape_19) n (x0, x1, x2, x3, M)) := by
  exact am_loop_ok (fun q : (Nat × Int32 × Int32 × Int32 × am_M) => match q with | (x0, x1, x2, x3, M) => am_sh M x0 9) (fun q X => match q with | (x0, x1, x2, x3, M) => am_S am_ei G 3 yX5_pointInShape.cls yX5_pointInShape.name cX5_pointInShape 5 (some FieldType.int) 19 [(0, .ref x0), (1, .int x1), (2, .int x2), (3, .int x3)] [] M X) (fun _ => am_none) (fun k19 hk19 q hq => match q, hq with | (x0, x1, x2, x3, M), h_x0 => sX5_pointInShape_19 G k19 hk19 x0 x1 x2 x3 M h_x0) n q hq
set_option maxRecDepth 100000 in
set_option maxHeartbeats 4000000 in
theorem sX5_pointInShape_0 (G : am_G) (a0 : Nat) (a1 : Int32) (M : am_M) (h_a0 : am_sh M a0 9) : am_S am_ei G 3 yX5_pointInShape.cls yX5_pointInShape.name cX5_pointInShape 5 (some FieldType.int) 0 [(0, .ref a0), (1, .int a1)] [] M (fX5_pointInShape a0 a1 M) := by
  show am_S am_ei G 3 yX5_pointInShape.cls yX5_pointInShape.name cX5_pointInShape 5 (some FieldType.int) 0 [(0, .ref a0), (1, .int a1)] [] M ((M.2.2.1 a0 0).bind fun r1 => (fX6_arrange r1 (M.1 a0 3) (M.1 a0 4) M).bind fun M5 => am_loop (fX5_pointInShape_19) 100000 (a0, a1, 0, 0, M5))
  refine am_aload_n 0 dX5_pointInShape_0 rfl rfl ?_
  refine am_getR 4 dX5_pointInShape_1 fl_RX5_12 h_a0 rfl (fun r1 e2 h3 => ?_)
  refine am_aload_n 0 dX5_pointInShape_4 rfl rfl ?_
  refine am_getI 4 dX5_pointInShape_5 fl_RX5_29 h_a0 rfl ?_
  refine am_aload_n 0 dX5_pointInShape_8 rfl rfl ?_
  refine am_getI 4 dX5_pointInShape_9 fl_RX5_33 h_a0 rfl ?_
  refine am_callVv 5 [.int (M.1 a0 3), .int (M.1 a0 4)] (CX6_arrange G r1 (M.1 a0 3) (M.1 a0 4) M h3) dX5_pointInShape_12 mb_yX6_arrange ⟨ml_RX5_91, im_yX6_arrange, se_yX6_arrange⟩ rfl h3 (by decide) rfl rfl (Nat.le_of_ble_eq_true rfl) (fun M5 q4 w7 l6 => ?_)
  refine am_iconst dX5_pointInShape_15 am_kc_0 ?_
  refine am_istore_n (L' := [(2, .int 0), (0, .ref a0), (1, .int a1)]) dX5_pointInShape_16 rfl (by decide) rfl ?_
  refine am_iconst dX5_pointInShape_17 am_kc_0 ?_
  refine am_istore_n (L' := [(3, .int 0), (2, .int 0), (0, .ref a0), (1, .int a1)]) dX5_pointInShape_18 rfl (by decide) rfl ?_
  refine am_sub [2, 3, 1, 0] rfl ?_
  exact lX5_pointInShape_19 G 100000 (a0, a1, 0, 0, M5) (am_sh.mono l6 h_a0)
theorem CX5_pointInShape (G : am_G) (a0 : Nat) (a1 : Int32) (M : am_M) (h_a0 : am_sh M a0 9) : am_C am_ei G 3 yX5_pointInShape cX5_pointInShape 5 (some FieldType.int) [.ref a0, .int a1] M (fX5_pointInShape a0 a1 M) :=
  am_meth (by decide) rfl (Nat.le_of_ble_eq_true rfl) (sX5_pointInShape_0 G a0 a1 M h_a0)
def fX6_has (a0 : Nat) (a1 : Int32) (M : am_M) : Option (Int32 × am_M) := if a1 < 0 then some (0, M) else if M.1 a0 4 ≤ a1 then some (0, M) else some (1, M)
set_option maxRecDepth 100000 in
set_option maxHeartbeats 4000000 in
theorem sX6_has_0 (G : am_G) (a0 : Nat) (a1 : Int32) (M : am_M) (h_a0 : am_sh M a0 10) : am_S am_ei G 0 yX6_has.cls yX6_has.name cX6_has 2 (some FieldType.boolean) 0 [(0, .ref a0), (1, .int a1)] [] M (fX6_has a0 a1 M) := by
  show am_S am_ei G 0 yX6_has.cls yX6_has.name cX6_has 2 (some FieldType.boolean) 0 [(0, .ref a0), (1, .int a1)] [] M (if a1 < 0 then some (0, M) else if M.1 a0 4 ≤ a1 then some (0, M) else some (1, M))
  refine am_iload_n 1 dX6_has_0 rfl rfl ?_
  refine am_if_lt (tgt := 16) dX6_has_1 (by decide) (fun c1 => ?_) (fun c1 => ?_)
  · refine am_iconst dX6_has_16 am_kc_0 ?_
    exact am_zret0 dX6_has_17
  · refine am_iload_n 1 dX6_has_4 rfl rfl ?_
    refine am_aload_n 0 dX6_has_5 rfl rfl ?_
    refine am_getI 5 dX6_has_6 fl_RX6_24 h_a0 rfl ?_
    refine am_icmp_ge (tgt := 16) dX6_has_9 (by decide) (fun c2 => ?_) (fun c2 => ?_)
    · refine am_iconst dX6_has_16 am_kc_0 ?_
      exact am_zret0 dX6_has_17
    · refine am_iconst dX6_has_12 am_kc_1 ?_
      refine am_goto (tgt := 17) dX6_has_13 (by decide) ?_
      exact am_zret1 dX6_has_17
theorem CX6_has (G : am_G) (a0 : Nat) (a1 : Int32) (M : am_M) (h_a0 : am_sh M a0 10) : am_C am_ei G 0 yX6_has cX6_has 2 (some FieldType.boolean) [.ref a0, .int a1] M (fX6_has a0 a1 M) :=
  am_meth (by decide) rfl (Nat.le_of_ble_eq_true rfl) (sX6_has_0 G a0 a1 M h_a0)
def fX6_add (a0 : Nat) (a1 : Int32) (a2 : Int32) (M : am_M) : Option (Int32 × am_M) := if M.1 a0 4 < 40 then (M.2.2.1 a0 0).bind fun r2 => if M.1 a0 4 < 0 ∨ am_len M r2 ≤ (M.1 a0 4).toNatClampNeg then none else ((am_pI M r2 (M.1 a0 4).toNatClampNeg a1).2.2.1 a0 1).bind fun r6 => if (am_pI M r2 (M.1 a0 4).toNatClampNeg a1).1 a0 4 < 0 ∨ am_len (am_pI M r2 (M.1 a0 4).toNatClampNeg a1) r6 ≤ ((am_pI M r2 (M.1 a0 4).toNatClampNeg a1).1 a0 4).toNatClampNeg then none else some (1, am_pI (am_pI (am_pI M r2 (M.1 a0 4).toNatClampNeg a1) r6 ((am_pI M r2 (M.1 a0 4).toNatClampNeg a1).1 a0 4).toNatClampNeg a2) a0 4 (((am_pI (am_pI M r2 (M.1 a0 4).toNatClampNeg a1) r6 ((am_pI M r2 (M.1 a0 4).toNatClampNeg a1).1 a0 4).toNatClampNeg a2).1 a0 4) + 1)) else some (0, M)
set_option maxRecDepth 100000 in
set_option maxHeartbeats 4000000 in
theorem sX6_add_0 (G : am_G) (a0 : Nat) (a1 : Int32) (a2 : Int32) (M : am_M) (h_a0 : am_sh M a0 10) : am_S am_ei G 0 yX6_add.cls yX6_add.name cX6_add 3 (some FieldType.boolean) 0 [(0, .ref a0), (1, .int a1), (2, .int a2)] [] M (fX6_add a0 a1 a2 M) := by
  show am_S am_ei G 0 yX6_add.cls yX6_add.name cX6_add 3 (some FieldType.boolean) 0 [(0, .ref a0), (1, .int a1), (2, .int a2)] [] M (if M.1 a0 4 < 40 then (M.2.2.1 a0 0).bind fun r2 => if M.1 a0 4 < 0 ∨ am_len M r2 ≤ (M.1 a0 4).toNatClampNeg then none else ((am_pI M r2 (M.1 a0 4).toNatClampNeg a1).2.2.1 a0 1).bind fun r6 => if (am_pI M r2 (M.1 a0 4).toNatClampNeg a1).1 a0 4 < 0 ∨ am_len (am_pI M r2 (M.1 a0 4).toNatClampNeg a1) r6 ≤ ((am_pI M r2 (M.1 a0 4).toNatClampNeg a1).1 a0 4).toNatClampNeg then none else some (1, am_pI (am_pI (am_pI M r2 (M.1 a0 4).toNatClampNeg a1) r6 ((am_pI M r2 (M.1 a0 4).toNatClampNeg a1).1 a0 4).toNatClampNeg a2) a0 4 (((am_pI (am_pI M r2 (M.1 a0 4).toNatClampNeg a1) r6 ((am_pI M r2 (M.1 a0 4).toNatClampNeg a1).1 a0 4).toNatClampNeg a2).1 a0 4) + 1)) else some (0, M))
  refine am_aload_n 0 dX6_add_0 rfl rfl ?_
  refine am_getI 5 dX6_add_1 fl_RX6_24 h_a0 rfl ?_
  refine am_bipush (x := 40) dX6_add_4 (by decide) ?_
  refine am_icmp_lt (tgt := 11) dX6_add_6 (by decide) (fun c1 => ?_) (fun c1 => ?_)
  · refine am_aload_n 0 dX6_add_11 rfl rfl ?_
    refine am_getR 5 dX6_add_12 fl_RX6_9 h_a0 rfl (fun r2 e3 h4 => ?_)
    refine am_aload_n 0 dX6_add_15 rfl rfl ?_
    refine am_getI 5 dX6_add_16 fl_RX6_24 h_a0 rfl ?_
    refine am_iload_n 1 dX6_add_19 rfl rfl ?_
    refine am_iast dX6_add_20 h4 (fun b5 => ?_)
    refine am_aload_n 0 dX6_add_21 rfl rfl ?_
    refine am_getR 5 dX6_add_22 fl_RX6_15 (am_sh.of h_a0 rfl) rfl (fun r6 e7 h8 => ?_)
    refine am_aload_n 0 dX6_add_25 rfl rfl ?_
    refine am_getI 5 dX6_add_26 fl_RX6_24 (am_sh.of h_a0 rfl) rfl ?_
    refine am_iload_n 2 dX6_add_29 rfl rfl ?_
    refine am_iast dX6_add_30 (am_sh.of (am_sh.of (M := am_pI M r2 (M.1 a0 4).toNatClampNeg a1) h8 rfl) rfl) (fun b9 => ?_)
    refine am_aload_n 0 dX6_add_31 rfl rfl ?_
    refine am_dup dX6_add_32 rfl ?_
    refine am_getI 5 dX6_add_33 fl_RX6_24 (am_sh.of h_a0 rfl) rfl ?_
    refine am_iconst dX6_add_36 am_kc_1 ?_
    refine am_iadd dX6_add_37 ?_
    refine am_putI 5 dX6_add_38 fl_RX6_24 (am_sh.of h_a0 rfl) rfl rfl rfl rfl ?_
    refine am_iconst dX6_add_41 am_kc_1 ?_
    exact am_zret1 dX6_add_42
  · refine am_iconst dX6_add_9 am_kc_0 ?_
    exact am_zret0 dX6_add_10
theorem CX6_add (G : am_G) (a0 : Nat) (a1 : Int32) (a2 : Int32) (M : am_M) (h_a0 : am_sh M a0 10) : am_C am_ei G 0 yX6_add cX6_add 3 (some FieldType.boolean) [.ref a0, .int a1, .int a2] M (fX6_add a0 a1 a2 M) :=
  am_meth (by decide) rfl (Nat.le_of_ble_eq_true rfl) (sX6_add_0 G a0 a1 a2 M h_a0)
def fX6_remove_22 : ((Nat × Int32 × am_M) → Option (Int32 × am_M)) → (Nat × Int32 × am_M) → Option (Int32 × am_M) := fun k22 q0 => match q0 with
  | (x0, x2, M) => if M.1 x0 4 ≤ x2 then some (1, M) else (M.2.2.1 x0 0).bind fun r9 => (M.2.2.1 x0 0).bind fun r12 => if x2 + 1 < 0 ∨ am_len M r12 ≤ (x2 + 1).toNatClampNeg then none else if x2 < 0 ∨ am_len M r9 ≤ x2.toNatClampNeg then none else ((am_pI M r9 x2.toNatClampNeg (M.1 r12 ((x2 + 1).toNatClampNeg))).2.2.1 x0 1).bind fun r17 => ((am_pI M r9 x2.toNatClampNeg (M.1 r12 ((x2 + 1).toNatClampNeg))).2.2.1 x0 1).bind fun r20 => if x2 + 1 < 0 ∨ am_len (am_pI M r9 x2.toNatClampNeg (M.1 r12 ((x2 + 1).toNatClampNeg))) r20 ≤ (x2 + 1).toNatClampNeg then none else if x2 < 0 ∨ am_len (am_pI M r9 x2.toNatClampNeg (M.1 r12 ((x2 + 1).toNatClampNeg))) r17 ≤ x2.toNatClampNeg then none else k22 (x0, x2 + 1, am_pI (am_pI M r9 x2.toNatClampNeg (M.1 r12 ((x2 + 1).toNatClampNeg))) r17 x2.toNatClampNeg ((am_pI M r9 x2.toNatClampNeg (M.1 r12 ((x2 + 1).toNatClampNeg))).1 r20 ((x2 + 1).toNatClampNeg)))
def fX6_remove (a0 : Nat) (a1 : Int32) (M : am_M) : Option (Int32 × am_M) := (fX6_has a0 a1 M).bind fun p6 => if p6.1 = 0 then some (0, p6.2) else am_loop (fX6_remove_22) 100000 (a0, a1, am_pI p6.2 a0 4 ((p6.2.1 a0 4) - 1))
set_option maxRecDepth 100000 in
set_option maxHeartbeats 4000000 in
theorem sX6_remove_22 (G : am_G) (k22 : (Nat × Int32 × am_M) → Option (Int32 × am_M)) (hk22 : ∀ q : (Nat × Int32 × am_M), (match q with | (x0, x2, M) => am_sh M x0 10) → match q with | (x0, x2, M) => am_S am_ei G 1 yX6_remove.cls yX6_remove.name cX6_remove 3 (some FieldType.boolean) 22 [(0, .ref x0), (2, .int x2)] [] M (k22 (x0, x2, M))) (x0 : Nat) (x2 : Int32) (M : am_M) (h_x0 : am_sh M x0 10) : am_S am_ei G 1 yX6_remove.cls yX6_remove.name cX6_remove 3 (some FieldType.boolean) 22 [(0, .ref x0), (2, .int x2)] [] M (fX6_remove_22 k22 (x0, x2, M)) := by
  show am_S am_ei G 1 yX6_remove.cls yX6_remove.name cX6_remove 3 (some FieldType.boolean) 22 [(0, .ref x0), (2, .int x2)] [] M (if M.1 x0 4 ≤ x2 then some (1, M) else (M.2.2.1 x0 0).bind fun r9 => (M.2.2.1 x0 0).bind fun r12 => if x2 + 1 < 0 ∨ am_len M r12 ≤ (x2 + 1).toNatClampNeg then none else if x2 < 0 ∨ am_len M r9 ≤ x2.toNatClampNeg then none else ((am_pI M r9 x2.toNatClampNeg (M.1 r12 ((x2 + 1).toNatClampNeg))).2.2.1 x0 1).bind fun r17 => ((am_pI M r9 x2.toNatClampNeg (M.1 r12 ((x2 + 1).toNatClampNeg))).2.2.1 x0 1).bind fun r20 => if x2 + 1 < 0 ∨ am_len (am_pI M r9 x2.toNatClampNeg (M.1 r12 ((x2 + 1).toNatClampNeg))) r20 ≤ (x2 + 1).toNatClampNeg then none else if x2 < 0 ∨ am_len (am_pI M r9 x2.toNatClampNeg (M.1 r12 ((x2 + 1).toNatClampNeg))) r17 ≤ x2.toNatClampNeg then none else k22 (x0, x2 + 1, am_pI (am_pI M r9 x2.toNatClampNeg (M.1 r12 ((x2 + 1).toNatClampNeg))) r17 x2.toNatClampNeg ((am_pI M r9 x2.toNatClampNeg (M.1 r12 ((x2 + 1).toNatClampNeg))).1 r20 ((x2 + 1).toNatClampNeg))))
  refine am_iload_n 1 dX6_remove_22 rfl rfl ?_
  refine am_aload_n 0 dX6_remove_23 rfl rfl ?_
  refine am_getI 5 dX6_remove_24 fl_RX6_24 h_x0 rfl ?_
  refine am_icmp_ge (tgt := 64) dX6_remove_27 (by decide) (fun c8 => ?_) (fun c8 => ?_)
  · refine am_iconst dX6_remove_64 am_kc_1 ?_
    exact am_zret1 dX6_remove_65
  · refine am_aload_n 0 dX6_remove_30 rfl rfl ?_
    refine am_getR 5 dX6_remove_31 fl_RX6_9 h_x0 rfl (fun r9 e10 h11 => ?_)
    refine am_iload_n 1 dX6_remove_34 rfl rfl ?_
    refine am_aload_n 0 dX6_remove_35 rfl rfl ?_
    refine am_getR 5 dX6_remove_36 fl_RX6_9 h_x0 rfl (fun r12 e13 h14 => ?_)
    refine am_iload_n 1 dX6_remove_39 rfl rfl ?_
    refine am_iconst dX6_remove_40 am_kc_1 ?_
    refine am_iadd dX6_remove_41 ?_
    refine am_iald dX6_remove_42 h14 (fun b15 => ?_)
    refine am_iast dX6_remove_43 h11 (fun b16 => ?_)
    refine am_aload_n 0 dX6_remove_44 rfl rfl ?_
    refine am_getR 5 dX6_remove_45 fl_RX6_15 (am_sh.of h_x0 rfl) rfl (fun r17 e18 h19 => ?_)
    refine am_iload_n 1 dX6_remove_48 rfl rfl ?_
    refine am_aload_n 0 dX6_remove_49 rfl rfl ?_
    refine am_getR 5 dX6_remove_50 fl_RX6_15 (am_sh.of h_x0 rfl) rfl (fun r20 e21 h22 => ?_)
    refine am_iload_n 1 dX6_remove_53 rfl rfl ?_
    refine am_iconst dX6_remove_54 am_kc_1 ?_
    refine am_iadd dX6_remove_55 ?_
    refine am_iald dX6_remove_56 (am_sh.of (am_sh.of (M := am_pI M r9 x2.toNatClampNeg (M.1 r12 ((x2 + 1).toNatClampNeg))) h22 rfl) rfl) (fun b23 => ?_)
    refine am_iast dX6_remove_57 (am_sh.of (am_sh.of (M := am_pI M r9 x2.toNatClampNeg (M.1 r12 ((x2 + 1).toNatClampNeg))) h19 rfl) rfl) (fun b24 => ?_)
    refine am_iinc (L' := [(2, .int (x2 + 1)), (0, .ref x0)]) 1 dX6_remove_58 rfl (by rfl) (by decide) rfl ?_
    refine am_goto (tgt := 22) dX6_remove_61 (by decide) ?_
    refine am_sub [1, 0] rfl ?_
    exact hk22 (x0, x2 + 1, am_pI (am_pI M r9 x2.toNatClampNeg (M.1 r12 ((x2 + 1).toNatClampNeg))) r17 x2.toNatClampNeg ((am_pI M r9 x2.toNatClampNeg (M.1 r12 ((x2 + 1).toNatClampNeg))).1 r20 ((x2 + 1).toNatClampNeg))) (am_sh.of h_x0 rfl)
set_option maxRecDepth 100000 in
set_option maxHeartbeats 4000000 in
theorem lX6_remove_22 (G : am_G) (n : Nat) (q : (Nat × Int32 × am_M)) (hq : match q with | (x0, x2, M) => am_sh M x0 10) : match q with | (x0, x2, M) => am_S am_ei G 1 yX6_remove.cls yX6_remove.name cX6_remove 3 (some FieldType.boolean) 22 [(0, .ref x0), (2, .int x2)] [] M (am_loop (fX6_remove_22) n (x0, x2, M)) := by
  exact am_loop_ok (fun q : (Nat × Int32 × am_M) => match q with | (x0, x2, M) => am_sh M x0 10) (fun q X => match q with | (x0, x2, M) => am_S am_ei G 1 yX6_remove.cls yX6_remove.name cX6_remove 3 (some FieldType.boolean) 22 [(0, .ref x0), (2, .int x2)] [] M X) (fun _ => am_none) (fun k22 hk22 q hq => match q, hq with | (x0, x2, M), h_x0 => sX6_remove_22 G k22 hk22 x0 x2 M h_x0) n q hq
set_option maxRecDepth 100000 in
set_option maxHeartbeats 4000000 in
theorem sX6_remove_0 (G : am_G) (a0 : Nat) (a1 : Int32) (M : am_M) (h_a0 : am_sh M a0 10) : am_S am_ei G 1 yX6_remove.cls yX6_remove.name cX6_remove 3 (some FieldType.boolean) 0 [(0, .ref a0), (1, .int a1)] [] M (fX6_remove a0 a1 M) := by
  show am_S am_ei G 1 yX6_remove.cls yX6_remove.name cX6_remove 3 (some FieldType.boolean) 0 [(0, .ref a0), (1, .int a1)] [] M ((fX6_has a0 a1 M).bind fun p6 => if p6.1 = 0 then some (0, p6.2) else am_loop (fX6_remove_22) 100000 (a0, a1, am_pI p6.2 a0 4 ((p6.2.1 a0 4) - 1)))
  refine am_aload_n 0 dX6_remove_0 rfl rfl ?_
  refine am_iload_n 1 dX6_remove_1 rfl rfl ?_
  refine am_callVi 5 [.int a1] (CX6_has G a0 a1 M h_a0) dX6_remove_2 mb_yX6_has ⟨ml_RX6_28, im_yX6_has, se_yX6_has⟩ rfl h_a0 (by decide) rfl rfl (Nat.le_of_ble_eq_true rfl) (fun v5 M2 q1 w4 l3 => ?_)
  refine am_if_ne (tgt := 10) dX6_remove_5 (by decide) (fun c7 => ?_) (fun c7 => ?_)
  · refine am_aload_n 0 dX6_remove_10 rfl rfl ?_
    refine am_dup dX6_remove_11 rfl ?_
    refine am_getI 5 dX6_remove_12 fl_RX6_24 (am_sh.mono l3 h_a0) rfl ?_
    refine am_iconst dX6_remove_15 am_kc_1 ?_
    refine am_isub dX6_remove_16 ?_
    refine am_putI 5 dX6_remove_17 fl_RX6_24 (am_sh.mono l3 h_a0) rfl rfl rfl rfl ?_
    refine am_iload_n 1 dX6_remove_20 rfl rfl ?_
    refine am_istore_n (L' := [(2, .int a1), (0, .ref a0), (1, .int a1)]) dX6_remove_21 rfl (by decide) rfl ?_
    refine am_sub [1, 0] rfl ?_
    exact lX6_remove_22 G 100000 (a0, a1, am_pI M2 a0 4 ((M2.1 a0 4) - 1)) (am_sh.of (am_sh.mono l3 h_a0) rfl)
  · refine am_iconst dX6_remove_8 am_kc_0 ?_
    exact am_zret0 dX6_remove_9
theorem CX6_remove (G : am_G) (a0 : Nat) (a1 : Int32) (M : am_M) (h_a0 : am_sh M a0 10) : am_C am_ei G 1 yX6_remove cX6_remove 3 (some FieldType.boolean) [.ref a0, .int a1] M (fX6_remove a0 a1 M) :=
  am_meth (by decide) rfl (Nat.le_of_ble_eq_true rfl) (sX6_remove_0 G a0 a1 M h_a0)
def fX6_rankOf_2 : ((Nat × Int32 × Int32 × am_M) → Option (Int32 × am_M)) → (Nat × Int32 × Int32 × am_M) → Option (Int32 × am_M) := fun k2 q0 => match q0 with
  | (x0, x1, x2, M) => if M.1 x0 4 ≤ x2 then some ((-4), M) else (M.2.2.1 x0 2).bind fun r2 => if x2 < 0 ∨ am_len M r2 ≤ x2.toNatClampNeg then none else if M.1 r2 (x2.toNatClampNeg) = x1 then some (x2, M) else k2 (x0, x1, x2 + 1, M)
def fX6_rankOf (a0 : Nat) (a1 : Int32) (M : am_M) : Option (Int32 × am_M) := am_loop (fX6_rankOf_2) 100000 (a0, a1, 0, M)
set_option maxRecDepth 100000 in
set_option maxHeartbeats 4000000 in
theorem sX6_rankOf_2 (G : am_G) (k2 : (Nat × Int32 × Int32 × am_M) → Option (Int32 × am_M)) (hk2 : ∀ q : (Nat × Int32 × Int32 × am_M), (match q with | (x0, x1, x2, M) => am_sh M x0 10) → match q with | (x0, x1, x2, M) => am_S am_ei G 0 yX6_rankOf.cls yX6_rankOf.name cX6_rankOf 3 (some FieldType.int) 2 [(0, .ref x0), (1, .int x1), (2, .int x2)] [] M (k2 (x0, x1, x2, M))) (x0 : Nat) (x1 : Int32) (x2 : Int32) (M : am_M) (h_x0 : am_sh M x0 10) : am_S am_ei G 0 yX6_rankOf.cls yX6_rankOf.name cX6_rankOf 3 (some FieldType.int) 2 [(0, .ref x0), (1, .int x1), (2, .int x2)] [] M (fX6_rankOf_2 k2 (x0, x1, x2, M)) := by
  show am_S am_ei G 0 yX6_rankOf.cls yX6_rankOf.name cX6_rankOf 3 (some FieldType.int) 2 [(0, .ref x0), (1, .int x1), (2, .int x2)] [] M (if M.1 x0 4 ≤ x2 then some ((-4), M) else (M.2.2.1 x0 2).bind fun r2 => if x2 < 0 ∨ am_len M r2 ≤ x2.toNatClampNeg then none else if M.1 r2 (x2.toNatClampNeg) = x1 then some (x2, M) else k2 (x0, x1, x2 + 1, M))
  refine am_iload_n 2 dX6_rankOf_2 rfl rfl ?_
  refine am_aload_n 0 dX6_rankOf_3 rfl rfl ?_
  refine am_getI 5 dX6_rankOf_4 fl_RX6_24 h_x0 rfl ?_
  refine am_icmp_ge (tgt := 28) dX6_rankOf_7 (by decide) (fun c1 => ?_) (fun c1 => ?_)
  · refine am_bipush (x := -4) dX6_rankOf_28 (by decide) ?_
    exact am_iret dX6_rankOf_30
  · refine am_aload_n 0 dX6_rankOf_10 rfl rfl ?_
    refine am_getR 5 dX6_rankOf_11 fl_RX6_18 h_x0 rfl (fun r2 e3 h4 => ?_)
    refine am_iload_n 2 dX6_rankOf_14 rfl rfl ?_
    refine am_iald dX6_rankOf_15 h4 (fun b5 => ?_)
    refine am_iload_n 1 dX6_rankOf_16 rfl rfl ?_
    refine am_icmp_ne (tgt := 22) dX6_rankOf_17 (by decide) (fun c6 => ?_) (fun c6 => ?_)
    · refine am_iinc (L' := [(2, .int (x2 + 1)), (0, .ref x0), (1, .int x1)]) 2 dX6_rankOf_22 rfl (by rfl) (by decide) rfl ?_
      refine am_goto (tgt := 2) dX6_rankOf_25 (by decide) ?_
      refine am_sub [1, 2, 0] rfl ?_
      exact hk2 (x0, x1, x2 + 1, M) h_x0
    · refine am_iload_n 2 dX6_rankOf_20 rfl rfl ?_
      exact am_iret dX6_rankOf_21
set_option maxRecDepth 100000 in
set_option maxHeartbeats 4000000 in
theorem lX6_rankOf_2 (G : am_G) (n : Nat) (q : (Nat × Int32 × Int32 × am_M)) (hq : match q with | (x0, x1, x2, M) => am_sh M x0 10) : match q with | (x0, x1, x2, M) => am_S am_ei G 0 yX6_rankOf.cls yX6_rankOf.name cX6_rankOf 3 (some FieldType.int) 2 [(0, .ref x0), (1, .int x1), (2, .int x2)] [] M (am_loop (fX6_rankOf_2) n (x0, x1, x2, M)) := by
  exact am_loop_ok (fun q : (Nat × Int32 × Int32 × am_M) => match q with | (x0, x1, x2, M) => am_sh M x0 10) (fun q X => match q with | (x0, x1, x2, M) => am_S am_ei G 0 yX6_rankOf.cls yX6_rankOf.name cX6_rankOf 3 (some FieldType.int) 2 [(0, .ref x0), (1, .int x1), (2, .int x2)] [] M X) (fun _ => am_none) (fun k2 hk2 q hq => match q, hq with | (x0, x1, x2, M), h_x0 => sX6_rankOf_2 G k2 hk2 x0 x1 x2 M h_x0) n q hq
set_option maxRecDepth 100000 in
set_option maxHeartbeats 4000000 in
theorem sX6_rankOf_0 (G : am_G) (a0 : Nat) (a1 : Int32) (M : am_M) (h_a0 : am_sh M a0 10) : am_S am_ei G 0 yX6_rankOf.cls yX6_rankOf.name cX6_rankOf 3 (some FieldType.int) 0 [(0, .ref a0), (1, .int a1)] [] M (fX6_rankOf a0 a1 M) := by
  show am_S am_ei G 0 yX6_rankOf.cls yX6_rankOf.name cX6_rankOf 3 (some FieldType.int) 0 [(0, .ref a0), (1, .int a1)] [] M (am_loop (fX6_rankOf_2) 100000 (a0, a1, 0, M))
  refine am_iconst dX6_rankOf_0 am_kc_0 ?_
  refine am_istore_n (L' := [(2, .int 0), (0, .ref a0), (1, .int a1)]) dX6_rankOf_1 rfl (by decide) rfl ?_
  refine am_sub [1, 2, 0] rfl ?_
  exact lX6_rankOf_2 G 100000 (a0, a1, 0, M) h_a0
theorem CX6_rankOf (G : am_G) (a0 : Nat) (a1 : Int32) (M : am_M) (h_a0 : am_sh M a0 10) : am_C am_ei G 0 yX6_rankOf cX6_rankOf 3 (some FieldType.int) [.ref a0, .int a1] M (fX6_rankOf a0 a1 M) :=
  am_meth (by decide) rfl (Nat.le_of_ble_eq_true rfl) (sX6_rankOf_0 G a0 a1 M h_a0)
def fX6_nearestTo_73 (k9 : (Nat × Int32 × Int32 × Int32 × Int32 × Int32 × am_M) → Option (Int32 × am_M)) (x0 : Nat) (x1 : Int32) (x2 : Int32) (x3 : Int32) (x4 : Int32) (x5 : Int32) (M : am_M) : Option (Int32 × am_M) := k9 (x0, x1, x2, x3, x4, x5 + 1, M)
def fX6_nearestTo_66 (k9 : (Nat × Int32 × Int32 × Int32 × Int32 × Int32 × am_M) → Option (Int32 × am_M)) (x0 : Nat) (x1 : Int32) (x2 : Int32) (x5 : Int32) (x8 : Int32) (M : am_M) : Option (Int32 × am_M) := fX6_nearestTo_73 k9 x0 x1 x2 x5 x8 x5 M
def fX6_nearestTo_9 : ((Nat × Int32 × Int32 × Int32 × Int32 × Int32 × am_M) → Option (Int32 × am_M)) → (Nat × Int32 × Int32 × Int32 × Int32 × Int32 × am_M) → Option (Int32 × am_M) := fun k9 q0 => match q0 with
  | (x0, x1, x2, x3, x4, x5, M) => if M.1 x0 4 ≤ x5 then some (x3, M) else (M.2.2.1 x0 0).bind fun r2 => if x5 < 0 ∨ am_len M r2 ≤ x5.toNatClampNeg then none else (M.2.2.1 x0 1).bind fun r6 => if x5 < 0 ∨ am_len M r6 ≤ x5.toNatClampNeg then none else if x3 = (-4) then fX6_nearestTo_66 k9 x0 x1 x2 x5 ((((M.1 r2 (x5.toNatClampNeg)) - x1) * ((M.1 r2 (x5.toNatClampNeg)) - x1)) + (((M.1 r6 (x5.toNatClampNeg)) - x2) * ((M.1 r6 (x5.toNatClampNeg)) - x2))) M else if x4 ≤ (((M.1 r2 (x5.toNatClampNeg)) - x1) * ((M.1 r2 (x5.toNatClampNeg)) - x1)) + (((M.1 r6 (x5.toNatClampNeg)) - x2) * ((M.1 r6 (x5.toNatClampNeg)) - x2)) then fX6_nearestTo_73 k9 x0 x1 x2 x3 x4 x5 M else fX6_nearestTo_66 k9 x0 x1 x2 x5 ((((M.1 r2 (x5.toNatClampNeg)) - x1) * ((M.1 r2 (x5.toNatClampNeg)) - x1)) + (((M.1 r6 (x5.toNatClampNeg)) - x2) * ((M.1 r6 (x5.toNatClampNeg)) - x2))) M
def fX6_nearestTo (a0 : Nat) (a1 : Int32) (a2 : Int32) (M : am_M) : Option (Int32 × am_M) := am_loop (fX6_nearestTo_9) 100000 (a0, a1, a2, (-4), 0, 0, M)
set_option maxRecDepth 100000 in
set_option maxHeartbeats 4000000 in
theorem sX6_nearestTo_73 (G : am_G) (k9 : (Nat × Int32 × Int32 × Int32 × Int32 × Int32 × am_M) → Option (Int32 × am_M)) (hk9 : ∀ q : (Nat × Int32 × Int32 × Int32 × Int32 × Int32 × am_M), (match q with | (x0, x1, x2, x3, x4, x5, M) => am_sh M x0 10) → match q with | (x0, x1, x2, x3, x4, x5, M) => am_S am_ei G 0 yX6_nearestTo.cls yX6_nearestTo.name cX6_nearestTo 9 (some FieldType.int) 9 [(0, .ref x0), (1, .int x1), (2, .int x2), (3, .int x3), (4, .int x4), (5, .int x5)] [] M (k9 (x0, x1, x2, x3, x4, x5, M))) (x0 : Nat) (x1 : Int32) (x2 : Int32) (x3 : Int32) (x4 : Int32) (x5 : Int32) (M : am_M) (h_x0 : am_sh M x0 10) : am_S am_ei G 0 yX6_nearestTo.cls yX6_nearestTo.name cX6_nearestTo 9 (some FieldType.int) 73 [(0, .ref x0), (1, .int x1), (2, .int x2), (3, .int x3), (4, .int x4), (5, .int x5)] [] M (fX6_nearestTo_73 k9 x0 x1 x2 x3 x4 x5 M) := by
  show am_S am_ei G 0 yX6_nearestTo.cls yX6_nearestTo.name cX6_nearestTo 9 (some FieldType.int) 73 [(0, .ref x0), (1, .int x1), (2, .int x2), (3, .int x3), (4, .int x4), (5, .int x5)] [] M (k9 (x0, x1, x2, x3, x4, x5 + 1, M))
  refine am_iinc (L' := [(5, .int (x5 + 1)), (0, .ref x0), (1, .int x1), (2, .int x2), (3, .int x3), (4, .int x4)]) 5 dX6_nearestTo_73 rfl (by rfl) (by decide) rfl ?_
  refine am_goto (tgt := 9) dX6_nearestTo_76 (by decide) ?_
  refine am_sub [1, 2, 3, 4, 5, 0] rfl ?_
  exact hk9 (x0, x1, x2, x3, x4, x5 + 1, M) h_x0
set_option maxRecDepth 100000 in
set_option maxHeartbeats 4000000 in
theorem sX6_nearestTo_66 (G : am_G) (k9 : (Nat × Int32 × Int32 × Int32 × Int32 × Int32 × am_M) → Option (Int32 × am_M)) (hk9 : ∀ q : (Nat × Int32 × Int32 × Int32 × Int32 × Int32 × am_M), (match q with | (x0, x1, x2, x3, x4, x5, M) => am_sh M x0 10) → match q with | (x0, x1, x2, x3, x4, x5, M) => am_S am_ei G 0 yX6_nearestTo.cls yX6_nearestTo.name cX6_nearestTo 9 (some FieldType.int) 9 [(0, .ref x0), (1, .int x1), (2, .int x2), (3, .int x3), (4, .int x4), (5, .int x5)] [] M (k9 (x0, x1, x2, x3, x4, x5, M))) (x0 : Nat) (x1 : Int32) (x2 : Int32) (x5 : Int32) (x8 : Int32) (M : am_M) (h_x0 : am_sh M x0 10) : am_S am_ei G 0 yX6_nearestTo.cls yX6_nearestTo.name cX6_nearestTo 9 (some FieldType.int) 66 [(0, .ref x0), (1, .int x1), (2, .int x2), (5, .int x5), (8, .int x8)] [] M (fX6_nearestTo_66 k9 x0 x1 x2 x5 x8 M) := by
  show am_S am_ei G 0 yX6_nearestTo.cls yX6_nearestTo.name cX6_nearestTo 9 (some FieldType.int) 66 [(0, .ref x0), (1, .int x1), (2, .int x2), (5, .int x5), (8, .int x8)] [] M (fX6_nearestTo_73 k9 x0 x1 x2 x5 x8 x5 M)
  refine am_iload 3 dX6_nearestTo_66 rfl ?_
  refine am_istore_n (L' := [(3, .int x5), (0, .ref x0), (1, .int x1), (2, .int x2), (5, .int x5), (8, .int x8)]) dX6_nearestTo_68 rfl (by decide) rfl ?_
  refine am_iload 5 dX6_nearestTo_69 rfl ?_
  refine am_istore (L' := [(4, .int x8), (3, .int x5), (0, .ref x0), (1, .int x1), (2, .int x2), (5, .int x5), (8, .int x8)]) dX6_nearestTo_71 (by decide) rfl ?_
  refine am_sub [2, 3, 4, 1, 0, 5] rfl ?_
  exact sX6_nearestTo_73 G k9 hk9 x0 x1 x2 x5 x8 x5 M h_x0
set_option maxRecDepth 100000 in
set_option maxHeartbeats 4000000 in
theorem sX6_nearestTo_9 (G : am_G) (k9 : (Nat × Int32 × Int32 × Int32 × Int32 × Int32 × am_M) → Option (Int32 × am_M)) (hk9 : ∀ q : (Nat × Int32 × Int32 × Int32 × Int32 × Int32 × am_M), (match q with | (x0, x1, x2, x3, x4, x5, M) => am_sh M x0 10) → match q with | (x0, x1, x2, x3, x4, x5, M) => am_S am_ei G 0 yX6_nearestTo.cls yX6_nearestTo.name cX6_nearestTo 9 (some FieldType.int) 9 [(0, .ref x0), (1, .int x1), (2, .int x2), (3, .int x3), (4, .int x4), (5, .int x5)] [] M (k9 (x0, x1, x2, x3, x4, x5, M))) (x0 : Nat) (x1 : Int32) (x2 : Int32) (x3 : Int32) (x4 : Int32) (x5 : Int32) (M : am_M) (h_x0 : am_sh M x0 10) : am_S am_ei G 0 yX6_nearestTo.cls yX6_nearestTo.name cX6_nearestTo 9 (some FieldType.int) 9 [(0, .ref x0), (1, .int x1), (2, .int x2), (3, .int x3), (4, .int x4), (5, .int x5)] [] M (fX6_nearestTo_9 k9 (x0, x1, x2, x3, x4, x5, M)) := by
  show am_S am_ei G 0 yX6_nearestTo.cls yX6_nearestTo.name cX6_nearestTo 9 (some FieldType.int) 9 [(0, .ref x0), (1, .int x1), (2, .int x2), (3, .int x3), (4, .int x4), (5, .int x5)] [] M (if M.1 x0 4 ≤ x5 then some (x3, M) else (M.2.2.1 x0 0).bind fun r2 => if x5 < 0 ∨ am_len M r2 ≤ x5.toNatClampNeg then none else (M.2.2.1 x0 1).bind fun r6 => if x5 < 0 ∨ am_len M r6 ≤ x5.toNatClampNeg then none else if x3 = (-4) then fX6_nearestTo_66 k9 x0 x1 x2 x5 ((((M.1 r2 (x5.toNatClampNeg)) - x1) * ((M.1 r2 (x5.toNatClampNeg)) - x1)) + (((M.1 r6 (x5.toNatClampNeg)) - x2) * ((M.1 r6 (x5.toNatClampNeg)) - x2))) M else if x4 ≤ (((M.1 r2 (x5.toNatClampNeg)) - x1) * ((M.1 r2 (x5.toNatClampNeg)) - x1)) + (((M.1 r6 (x5.toNatClampNeg)) - x2) * ((M.1 r6 (x5.toNatClampNeg)) - x2)) then fX6_nearestTo_73 k9 x0 x1 x2 x3 x4 x5 M else fX6_nearestTo_66 k9 x0 x1 x2 x5 ((((M.1 r2 (x5.toNatClampNeg)) - x1) * ((M.1 r2 (x5.toNatClampNeg)) - x1)) + (((M.1 r6 (x5.toNatClampNeg)) - x2) * ((M.1 r6 (x5.toNatClampNeg)) - x2))) M)
  refine am_iload 5 dX6_nearestTo_9 rfl ?_
  refine am_aload_n 0 dX6_nearestTo_11 rfl rfl ?_
  refine am_getI 5 dX6_nearestTo_12 fl_RX6_24 h_x0 rfl ?_
  refine am_icmp_ge (tgt := 79) dX6_nearestTo_15 (by decide) (fun c1 => ?_) (fun c1 => ?_)
  · refine am_iload_n 3 dX6_nearestTo_79 rfl rfl ?_
    exact am_iret dX6_nearestTo_80
  · refine am_aload_n 0 dX6_nearestTo_18 rfl rfl ?_
    refine am_getR 5 dX6_nearestTo_19 fl_RX6_9 h_x0 rfl (fun r2 e3 h4 => ?_)
    refine am_iload 5 dX6_nearestTo_22 rfl ?_
    refine am_iald dX6_nearestTo_24 h4 (fun b5 => ?_)
    refine am_iload_n 1 dX6_nearestTo_25 rfl rfl ?_
    refine am_isub dX6_nearestTo_26 ?_
    refine am_istore (L' := [(6, .int ((M.1 r2 (x5.toNatClampNeg)) - x1)), (0, .ref x0), (1, .int x1), (2, .int x2), (3, .int x3), (4, .int x4), (5, .int x5)]) dX6_nearestTo_27 (by decide) rfl ?_
    refine am_aload_n 1 dX6_nearestTo_29 rfl rfl ?_
    refine am_getR 5 dX6_nearestTo_30 fl_RX6_15 h_x0 rfl (fun r6 e7 h8 => ?_)
    refine am_iload 6 dX6_nearestTo_33 rfl ?_
    refine am_iald dX6_nearestTo_35 h8 (fun b9 => ?_)
    refine am_iload_n 3 dX6_nearestTo_36 rfl rfl ?_
    refine am_isub dX6_nearestTo_37 ?_
    refine am_istore (L' := [(7, .int ((M.1 r6 (x5.toNatClampNeg)) - x2)), (6, .int ((M.1 r2 (x5.toNatClampNeg)) - x1)), (0, .ref x0), (1, .int x1), (2, .int x2), (3, .int x3), (4, .int x4), (5, .int x5)]) dX6_nearestTo_38 (by decide) rfl ?_
    refine am_iload 1 dX6_nearestTo_40 rfl ?_
    refine am_iload 1 dX6_nearestTo_42 rfl ?_
    refine am_imul dX6_nearestTo_44 ?_
    refine am_iload 0 dX6_nearestTo_45 rfl ?_
    refine am_iload 0 dX6_nearestTo_47 rfl ?_
    refine am_imul dX6_nearestTo_49 ?_
    refine am_iadd dX6_nearestTo_50 ?_
    refine am_istore (L' := [(8, .int ((((M.1 r2 (x5.toNatClampNeg)) - x1) * ((M.1 r2 (x5.toNatClampNeg)) - x1)) + (((M.1 r6 (x5.toNatClampNeg)) - x2) * ((M.1 r6 (x5.toNatClampNeg)) - x2)))), (7, .int ((M.1 r6 (x5.toNatClampNeg)) - x2)), (6, .int ((M.1 r2 (x5.toNatClampNeg)) - x1)), (0, .ref x0), (1, .int x1), (2, .int x2), (3, .int x3), (4, .int x4), (5, .int x5)]) dX6_nearestTo_51 (by decide) rfl ?_
    refine am_iload_n 6 dX6_nearestTo_53 rfl rfl ?_
    refine am_bipush (x := -4) dX6_nearestTo_54 (by decide) ?_
    refine am_icmp_eq (tgt := 66) dX6_nearestTo_56 (by decide) (fun c10 => ?_) (fun c10 => ?_)
    · refine am_sub [3, 4, 5, 8, 0] rfl ?_
      exact sX6_nearestTo_66 G k9 hk9 x0 x1 x2 x5 ((((M.1 r2 (x5.toNatClampNeg)) - x1) * ((M.1 r2 (x5.toNatClampNeg)) - x1)) + (((M.1 r6 (x5.toNatClampNeg)) - x2) * ((M.1 r6 (x5.toNatClampNeg)) - x2))) M h_x0
    · refine am_iload 0 dX6_nearestTo_59 rfl ?_
      refine am_iload 7 dX6_nearestTo_61 rfl ?_
      refine am_icmp_ge (tgt := 73) dX6_nearestTo_63 (by decide) (fun c11 => ?_) (fun c11 => ?_)
      · refine am_sub [3, 4, 5, 6, 7, 8] rfl ?_
        exact sX6_nearestTo_73 G k9 hk9 x0 x1 x2 x3 x4 x5 M h_x0
      · refine am_sub [3, 4, 5, 8, 0] rfl ?_
        exact sX6_nearestTo_66 G k9 hk9 x0 x1 x2 x5 ((((M.1 r2 (x5.toNatClampNeg)) - x1) * ((M.1 r2 (x5.toNatClampNeg)) - x1)) + (((M.1 r6 (x5.toNatClampNeg)) - x2) * ((M.1 r6 (x5.toNatClampNeg)) - x2))) M h_x0
set_option maxRecDepth 100000 in
set_option maxHeartbeats 4000000 in
theorem lX6_nearestTo_9 (G : am_G) (n : Nat) (q : (Nat × Int32 × Int32 × Int32 × Int32 × Int32 × am_M)) (hq : match q with | (x0, x1, x2, x3, x4, x5, M) => am_sh M x0 10) : match q with | (x0, x1, x2, x3, x4, x5, M) => am_S am_ei G 0 yX6_nearestTo.cls yX6_nearestTo.name cX6_nearestTo 9 (some FieldType.int) 9 [(0, .ref x0), (1, .int x1), (2, .int x2), (3, .int x3), (4, .int x4), (5, .int x5)] [] M (am_loop (fX6_nearestTo_9) n (x0, x1, x2, x3, x4, x5, M)) := by
  exact am_loop_ok (fun q : (Nat × Int32 × Int32 × Int32 × Int32 × Int32 × am_M) => match q with | (x0, x1, x2, x3, x4, x5, M) => am_sh M x0 10) (fun q X => match q with | (x0, x1, x2, x3, x4, x5, M) => am_S am_ei G 0 yX6_nearestTo.cls yX6_nearestTo.name cX6_nearestTo 9 (some FieldType.int) 9 [(0, .ref x0), (1, .int x1), (2, .int x2), (3, .int x3), (4, .int x4), (5, .int x5)] [] M X) (fun _ => am_none) (fun k9 hk9 q hq => match q, hq with | (x0, x1, x2, x3, x4, x5, M), h_x0 => sX6_nearestTo_9 G k9 hk9 x0 x1 x2 x3 x4 x5 M h_x0) n q hq
set_option maxRecDepth 100000 in
set_option maxHeartbeats 4000000 in
theorem sX6_nearestTo_0 (G : am_G) (a0 : Nat) (a1 : Int32) (a2 : Int32) (M : am_M) (h_a0 : am_sh M a0 10) : am_S am_ei G 0 yX6_nearestTo.cls yX6_nearestTo.name cX6_nearestTo 9 (some FieldType.int) 0 [(0, .ref a0), (1, .int a1), (2, .int a2)] [] M (fX6_nearestTo a0 a1 a2 M) := by
  show am_S am_ei G 0 yX6_nearestTo.cls yX6_nearestTo.name cX6_nearestTo 9 (some FieldType.int) 0 [(0, .ref a0), (1, .int a1), (2, .int a2)] [] M (am_loop (fX6_nearestTo_9) 100000 (a0, a1, a2, (-4), 0, 0, M))
  refine am_bipush (x := -4) dX6_nearestTo_0 (by decide) ?_
  refine am_istore_n (L' := [(3, .int (-4)), (0, .ref a0), (1, .int a1), (2, .int a2)]) dX6_nearestTo_2 rfl (by decide) rfl ?_
  refine am_iconst dX6_nearestTo_3 am_kc_0 ?_
  refine am_istore (L' := [(4, .int 0), (3, .int (-4)), (0, .ref a0), (1, .int a1), (2, .int a2)]) dX6_nearestTo_4 (by decide) rfl ?_
  refine am_iconst dX6_nearestTo_6 am_kc_0 ?_
  refine am_istore (L' := [(5, .int 0), (4, .int 0), (3, .int (-4)), (0, .ref a0), (1, .int a1), (2, .int a2)]) dX6_nearestTo_7 (by decide) rfl ?_
  refine am_sub [3, 4, 5, 2, 1, 0] rfl ?_
  exact lX6_nearestTo_9 G 100000 (a0, a1, a2, (-4), 0, 0, M) h_a0
theorem CX6_nearestTo (G : am_G) (a0 : Nat) (a1 : Int32) (a2 : Int32) (M : am_M) (h_a0 : am_sh M a0 10) : am_C am_ei G 0 yX6_nearestTo cX6_nearestTo 9 (some FieldType.int) [.ref a0, .int a1, .int a2] M (fX6_nearestTo a0 a1 a2 M) :=
  am_meth (by decide) rfl (Nat.le_of_ble_eq_true rfl) (sX6_nearestTo_0 G a0 a1 a2 M h_a0)
def fX7_init_24 (s0 : Nat) (s1 : Nat) (M : am_M) : Option am_M := some (am_pR M s1 2 (some s0))
def fX7_init_17 (x0 : Nat) (s0 : Nat) (s1 : Nat) (M : am_M) : Option am_M := fX7_init_24 (am_n (am_pR M s1 1 (some s0))) x0 (am_new (am_pR M s1 1 (some s0)) 0 3)
def fX7_init_10 (x0 : Nat) (s0 : Nat) (s1 : Nat) (M : am_M) : Option am_M := fX7_init_17 x0 (am_n (am_pR M s1 0 (some s0))) x0 (am_new (am_pR M s1 0 (some s0)) 0 4)
def fX7_init (a0 : Nat) (M : am_M) : Option am_M := fX7_init_10 a0 (am_n M) a0 (am_new M 2 200)
set_option maxRecDepth 100000 in
set_option maxHeartbeats 4000000 in
theorem sX7_init_24 (G : am_G) (s0 : Nat) (s1 : Nat) (M : am_M) (h_s0 : am_sh M s0 0) (h_s1 : am_sh M s1 11) : am_S am_ev G 1 yX7_init.cls yX7_init.name cX7_init 1 none 24 [] [.ref s0, .ref s1] M (fX7_init_24 s0 s1 M) := by
  show am_S am_ev G 1 yX7_init.cls yX7_init.name cX7_init 1 none 24 [] [.ref s0, .ref s1] M (some (am_pR M s1 2 (some s0)))
  refine am_putFR 6 dX7_init_24 fl_RX7_19 h_s1 rfl h_s0 rfl rfl rfl ?_
  exact am_vret dX7_init_27
set_option maxRecDepth 100000 in
set_option maxHeartbeats 4000000 in
theorem sX7_init_17 (G : am_G) (x0 : Nat) (s0 : Nat) (s1 : Nat) (M : am_M) (h_x0 : am_sh M x0 11) (h_s0 : am_sh M s0 0) (h_s1 : am_sh M s1 11) : am_S am_ev G 1 yX7_init.cls yX7_init.name cX7_init 1 none 17 [(0, .ref x0)] [.ref s0, .ref s1] M (fX7_init_17 x0 s0 s1 M) := by
  show am_S am_ev G 1 yX7_init.cls yX7_init.name cX7_init 1 none 17 [(0, .ref x0)] [.ref s0, .ref s1] M (fX7_init_24 (am_n (am_pR M s1 1 (some s0))) x0 (am_new (am_pR M s1 1 (some s0)) 0 3))
  refine am_putFR 6 dX7_init_17 fl_RX7_15 h_s1 rfl h_s0 rfl rfl rfl ?_
  refine am_aload_n 0 dX7_init_20 rfl rfl ?_
  refine am_iconst dX7_init_21 am_kc_3 ?_
  refine am_newaI 3 dX7_init_22 ac_int (by decide) (by decide) (by decide) ?_
  refine am_sub [] rfl ?_
  exact sX7_init_24 G (am_n (am_pR M s1 1 (some s0))) x0 (am_new (am_pR M s1 1 (some s0)) 0 3) (am_sh_new _ _ _) (am_sh.mono (am_le_new _ _ _) (am_sh.of h_x0 rfl))
set_option maxRecDepth 100000 in
set_option maxHeartbeats 4000000 in
theorem sX7_init_10 (G : am_G) (x0 : Nat) (s0 : Nat) (s1 : Nat) (M : am_M) (h_x0 : am_sh M x0 11) (h_s0 : am_sh M s0 2) (h_s1 : am_sh M s1 11) : am_S am_ev G 1 yX7_init.cls yX7_init.name cX7_init 1 none 10 [(0, .ref x0)] [.ref s0, .ref s1] M (fX7_init_10 x0 s0 s1 M) := by
  show am_S am_ev G 1 yX7_init.cls yX7_init.name cX7_init 1 none 10 [(0, .ref x0)] [.ref s0, .ref s1] M (fX7_init_17 x0 (am_n (am_pR M s1 0 (some s0))) x0 (am_new (am_pR M s1 0 (some s0)) 0 4))
  refine am_putFR 6 dX7_init_10 fl_RX7_9 h_s1 rfl h_s0 rfl rfl rfl ?_
  refine am_aload_n 0 dX7_init_13 rfl rfl ?_
  refine am_iconst dX7_init_14 am_kc_4 ?_
  refine am_newaI 4 dX7_init_15 ac_int (by decide) (by decide) (by decide) ?_
  exact sX7_init_17 G x0 (am_n (am_pR M s1 0 (some s0))) x0 (am_new (am_pR M s1 0 (some s0)) 0 4) (am_sh.mono (am_le_new _ _ _) (am_sh.of h_x0 rfl)) (am_sh_new _ _ _) (am_sh.mono (am_le_new _ _ _) (am_sh.of h_x0 rfl))
set_option maxRecDepth 100000 in
set_option maxHeartbeats 4000000 in
theorem sX7_init_0 (G : am_G) (a0 : Nat) (M : am_M) (h_a0 : am_sh M a0 11) : am_S am_ev G 1 yX7_init.cls yX7_init.name cX7_init 1 none 0 [(0, .ref a0)] [] M (fX7_init a0 M) := by
  show am_S am_ev G 1 yX7_init.cls yX7_init.name cX7_init 1 none 0 [(0, .ref a0)] [] M (fX7_init_10 a0 (am_n M) a0 (am_new M 2 200))
  refine am_aload_n 0 dX7_init_0 rfl rfl ?_
  refine am_obj dX7_init_1 ⟨ml_RX7_3, oc_im, oc_code⟩ (by decide) (Nat.le_of_ble_eq_true rfl) ?_
  refine am_aload_n 0 dX7_init_4 rfl rfl ?_
  refine am_sipush (x := 200) dX7_init_5 (by decide) ?_
  refine am_newaC 200 dX7_init_8 ac_char (by decide) (by decide) (by decide) ?_
  exact sX7_init_10 G a0 (am_n M) a0 (am_new M 2 200) (am_sh.mono (am_le_new _ _ _) h_a0) (am_sh_new _ _ _) (am_sh.mono (am_le_new _ _ _) h_a0)
theorem CX7_init (G : am_G) (a0 : Nat) (M : am_M) (h_a0 : am_sh M a0 11) : am_C am_ev G 1 yX7_init cX7_init 1 none [.ref a0] M (fX7_init a0 M) :=
  am_meth (by decide) rfl (Nat.le_of_ble_eq_true rfl) (sX7_init_0 G a0 M h_a0)
def fX7_append (a0 : Nat) (a1 : Int32) (M : am_M) : Option (Int32 × am_M) := if M.1 a0 3 < 200 then (M.2.2.1 a0 0).bind fun r2 => if M.1 a0 3 < 0 ∨ am_len M r2 ≤ (M.1 a0 3).toNatClampNeg then none else some (1, am_pI (am_pI M r2 (M.1 a0 3).toNatClampNeg (vp_nar .char a1)) a0 3 (((am_pI M r2 (M.1 a0 3).toNatClampNeg (vp_nar .char a1)).1 a0 3) + 1)) else some (0, M)
set_option maxRecDepth 100000 in
set_option maxHeartbeats 4000000 in
theorem sX7_append_0 (G : am_G) (a0 : Nat) (a1 : Int32) (M : am_M) (h_a0 : am_sh M a0 11) : am_S am_ei G 0 yX7_append.cls yX7_append.name cX7_append 2 (some FieldType.boolean) 0 [(0, .ref a0), (1, .int a1)] [] M (fX7_append a0 a1 M) := by
  show am_S am_ei G 0 yX7_append.cls yX7_append.name cX7_append 2 (some FieldType.boolean) 0 [(0, .ref a0), (1, .int a1)] [] M (if M.1 a0 3 < 200 then (M.2.2.1 a0 0).bind fun r2 => if M.1 a0 3 < 0 ∨ am_len M r2 ≤ (M.1 a0 3).toNatClampNeg then none else some (1, am_pI (am_pI M r2 (M.1 a0 3).toNatClampNeg (vp_nar .char a1)) a0 3 (((am_pI M r2 (M.1 a0 3).toNatClampNeg (vp_nar .char a1)).1 a0 3) + 1)) else some (0, M))
  refine am_aload_n 0 dX7_append_0 rfl rfl ?_
  refine am_getI 6 dX7_append_1 fl_RX7_22 h_a0 rfl ?_
  refine am_sipush (x := 200) dX7_append_4 (by decide) ?_
  refine am_icmp_lt (tgt := 12) dX7_append_7 (by decide) (fun c1 => ?_) (fun c1 => ?_)
  · refine am_aload_n 0 dX7_append_12 rfl rfl ?_
    refine am_getR 6 dX7_append_13 fl_RX7_9 h_a0 rfl (fun r2 e3 h4 => ?_)
    refine am_aload_n 0 dX7_append_16 rfl rfl ?_
    refine am_getI 6 dX7_append_17 fl_RX7_22 h_a0 rfl ?_
    refine am_iload_n 1 dX7_append_20 rfl rfl ?_
    refine am_cast dX7_append_21 h4 (fun b5 => ?_)
    refine am_aload_n 0 dX7_append_22 rfl rfl ?_
    refine am_dup dX7_append_23 rfl ?_
    refine am_getI 6 dX7_append_24 fl_RX7_22 (am_sh.of h_a0 rfl) rfl ?_
    refine am_iconst dX7_append_27 am_kc_1 ?_
    refine am_iadd dX7_append_28 ?_
    refine am_putI 6 dX7_append_29 fl_RX7_22 (am_sh.of h_a0 rfl) rfl rfl rfl rfl ?_
    refine am_iconst dX7_append_32 am_kc_1 ?_
    exact am_zret1 dX7_append_33
  · refine am_iconst dX7_append_10 am_kc_0 ?_
    exact am_zret0 dX7_append_11
theorem CX7_append (G : am_G) (a0 : Nat) (a1 : Int32) (M : am_M) (h_a0 : am_sh M a0 11) : am_C am_ei G 0 yX7_append cX7_append 2 (some FieldType.boolean) [.ref a0, .int a1] M (fX7_append a0 a1 M) :=
  am_meth (by decide) rfl (Nat.le_of_ble_eq_true rfl) (sX7_append_0 G a0 a1 M h_a0)
def fX7_clear (a0 : Nat) (M : am_M) : Option am_M := some (am_pI M a0 3 0)
set_option maxRecDepth 100000 in
set_option maxHeartbeats 4000000 in
theorem sX7_clear_0 (G : am_G) (a0 : Nat) (M : am_M) (h_a0 : am_sh M a0 11) : am_S am_ev G 0 yX7_clear.cls yX7_clear.name cX7_clear 1 none 0 [(0, .ref a0)] [] M (fX7_clear a0 M) := by
  show am_S am_ev G 0 yX7_clear.cls yX7_clear.name cX7_clear 1 none 0 [(0, .ref a0)] [] M (some (am_pI M a0 3 0))
  refine am_aload_n 0 dX7_clear_0 rfl rfl ?_
  refine am_iconst dX7_clear_1 am_kc_0 ?_
  refine am_putI 6 dX7_clear_2 fl_RX7_22 h_a0 rfl rfl rfl rfl ?_
  exact am_vret dX7_clear_5
theorem CX7_clear (G : am_G) (a0 : Nat) (M : am_M) (h_a0 : am_sh M a0 11) : am_C am_ev G 0 yX7_clear cX7_clear 1 none [.ref a0] M (fX7_clear a0 M) :=
  am_meth (by decide) rfl (Nat.le_of_ble_eq_true rfl) (sX7_clear_0 G a0 M h_a0)
def fX7_blameEmptiness (a0 : Nat) (M : am_M) : Option am_M := (M.2.2.1 a0 2).bind fun r1 => if (0 : Int32) < 0 ∨ am_len M r1 ≤ (0 : Int32).toNatClampNeg then none else some (am_pI (am_pI M r1 ((0 : Int32).toNatClampNeg) 5) a0 4 1)
set_option maxRecDepth 100000 in
set_option maxHeartbeats 4000000 in
theorem sX7_blameEmptiness_0 (G : am_G) (a0 : Nat) (M : am_M) (h_a0 : am_sh M a0 11) : am_S am_ev G 0 yX7_blameEmptiness.cls yX7_blameEmptiness.name cX7_blameEmptiness 1 none 0 [(0, .ref a0)] [] M (fX7_blameEmptiness a0 M) := by
  show am_S am_ev G 0 yX7_blameEmptiness.cls yX7_blameEmptiness.name cX7_blameEmptiness 1 none 0 [(0, .ref a0)] [] M ((M.2.2.1 a0 2).bind fun r1 => if (0 : Int32) < 0 ∨ am_len M r1 ≤ (0 : Int32).toNatClampNeg then none else some (am_pI (am_pI M r1 ((0 : Int32).toNatClampNeg) 5) a0 4 1))
  refine am_aload_n 0 dX7_blameEmptiness_0 rfl rfl ?_
  refine am_getR 6 dX7_blameEmptiness_1 fl_RX7_19 h_a0 rfl (fun r1 e2 h3 => ?_)
  refine am_iconst dX7_blameEmptiness_4 am_kc_0 ?_
  refine am_iconst dX7_blameEmptiness_5 am_kc_5 ?_
  refine am_iast dX7_blameEmptiness_6 h3 (fun b4 => ?_)
  refine am_aload_n 0 dX7_blameEmptiness_7 rfl rfl ?_
  refine am_iconst dX7_blameEmptiness_8 am_kc_1 ?_
  refine am_putI 6 dX7_blameEmptiness_9 fl_RX7_26 (am_sh.of h_a0 rfl) rfl rfl rfl rfl ?_
  exact am_vret dX7_blameEmptiness_12
theorem CX7_blameEmptiness (G : am_G) (a0 : Nat) (M : am_M) (h_a0 : am_sh M a0 11) : am_C am_ev G 0 yX7_blameEmptiness cX7_blameEmptiness 1 none [.ref a0] M (fX7_blameEmptiness a0 M) :=
  am_meth (by decide) rfl (Nat.le_of_ble_eq_true rfl) (sX7_blameEmptiness_0 G a0 M h_a0)
def fX7_letterHere (a0 : Nat) (M : am_M) : Option (Int32 × am_M) := if M.1 a0 3 ≤ M.1 a0 5 then some ((0 : Int32).toUInt32.toUInt16.toUInt32.toInt32, M) else (M.2.2.1 a0 0).bind fun r2 => if M.1 a0 5 < 0 ∨ am_len M r2 ≤ (M.1 a0 5).toNatClampNeg then none else some ((M.1 r2 ((M.1 a0 5).toNatClampNeg)).toUInt32.toUInt16.toUInt32.toInt32, M)
set_option maxRecDepth 100000 in
set_option maxHeartbeats 4000000 in
theorem sX7_letterHere_0 (G : am_G) (a0 : Nat) (M : am_M) (h_a0 : am_sh M a0 11) : am_S am_ei G 0 yX7_letterHere.cls yX7_letterHere.name cX7_letterHere 1 (some FieldType.char) 0 [(0, .ref a0)] [] M (fX7_letterHere a0 M) := by
  show am_S am_ei G 0 yX7_letterHere.cls yX7_letterHere.name cX7_letterHere 1 (some FieldType.char) 0 [(0, .ref a0)] [] M (if M.1 a0 3 ≤ M.1 a0 5 then some ((0 : Int32).toUInt32.toUInt16.toUInt32.toInt32, M) else (M.2.2.1 a0 0).bind fun r2 => if M.1 a0 5 < 0 ∨ am_len M r2 ≤ (M.1 a0 5).toNatClampNeg then none else some ((M.1 r2 ((M.1 a0 5).toNatClampNeg)).toUInt32.toUInt16.toUInt32.toInt32, M))
  refine am_aload_n 0 dX7_letterHere_0 rfl rfl ?_
  refine am_getI 6 dX7_letterHere_1 fl_RX7_35 h_a0 rfl ?_
  refine am_aload_n 0 dX7_letterHere_4 rfl rfl ?_
  refine am_getI 6 dX7_letterHere_5 fl_RX7_22 h_a0 rfl ?_
  refine am_icmp_ge (tgt := 23) dX7_letterHere_8 (by decide) (fun c1 => ?_) (fun c1 => ?_)
  · refine am_iconst dX7_letterHere_23 am_kc_0 ?_
    exact am_cret dX7_letterHere_24
  · refine am_aload_n 0 dX7_letterHere_11 rfl rfl ?_
    refine am_getR 6 dX7_letterHere_12 fl_RX7_9 h_a0 rfl (fun r2 e3 h4 => ?_)
    refine am_aload_n 0 dX7_letterHere_15 rfl rfl ?_
    refine am_getI 6 dX7_letterHere_16 fl_RX7_35 h_a0 rfl ?_
    refine am_cald dX7_letterHere_19 h4 (fun b5 => ?_)
    refine am_goto (tgt := 24) dX7_letterHere_20 (by decide) ?_
    exact am_cret dX7_letterHere_24
theorem CX7_letterHere (G : am_G) (a0 : Nat) (M : am_M) (h_a0 : am_sh M a0 11) : am_C am_ei G 0 yX7_letterHere cX7_letterHere 1 (some FieldType.char) [.ref a0] M (fX7_letterHere a0 M) :=
  am_meth (by decide) rfl (Nat.le_of_ble_eq_true rfl) (sX7_letterHere_0 G a0 M h_a0)
def fX7_readKind_43 (x0 : Nat) (M : am_M) : Option (Int32 × am_M) := (fX7_letterHere x0 M).bind fun p15 => if p15.1 = 98 then some (p15.1.toUInt32.toUInt16.toUInt32.toInt32, am_pI p15.2 x0 5 ((p15.2.1 x0 5) + 1)) else if p15.1 = 100 then some (p15.1.toUInt32.toUInt16.toUInt32.toInt32, am_pI p15.2 x0 5 ((p15.2.1 x0 5) + 1)) else some ((0 : Int32).toUInt32.toUInt16.toUInt32.toInt32, am_pI p15.2 x0 5 ((p15.2.1 x0 5) + 1))
def fX7_readKind (a0 : Nat) (M : am_M) : Option (Int32 × am_M) := (fX7_letterHere a0 M).bind fun p6 => if p6.1 = 119 then some (p6.1.toUInt32.toUInt16.toUInt32.toInt32, am_pI p6.2 a0 5 ((p6.2.1 a0 5) + 1)) else if p6.1 = 112 then some (p6.1.toUInt32.toUInt16.toUInt32.toInt32, am_pI p6.2 a0 5 ((p6.2.1 a0 5) + 1)) else if p6.1 = 43 then fX7_readKind_43 a0 (am_pI p6.2 a0 5 ((p6.2.1 a0 5) + 1)) else if p6.1 = 45 then fX7_readKind_43 a0 (am_pI p6.2 a0 5 ((p6.2.1 a0 5) + 1)) else some ((0 : Int32).toUInt32.toUInt16.toUInt32.toInt32, am_pI p6.2 a0 5 ((p6.2.1 a0 5) + 1))
set_option maxRecDepth 100000 in
set_option maxHeartbeats 4000000 in
theorem sX7_readKind_43 (G : am_G) (x0 : Nat) (M : am_M) (h_x0 : am_sh M x0 11) : am_S am_ei G 1 yX7_readKind.cls yX7_readKind.name cX7_readKind 3 (some FieldType.char) 43 [(0, .ref x0)] [] M (fX7_readKind_43 x0 M) := by
  show am_S am_ei G 1 yX7_readKind.cls yX7_readKind.name cX7_readKind 3 (some FieldType.char) 43 [(0, .ref x0)] [] M ((fX7_letterHere x0 M).bind fun p15 => if p15.1 = 98 then some (p15.1.toUInt32.toUInt16.toUInt32.toInt32, am_pI p15.2 x0 5 ((p15.2.1 x0 5) + 1)) else if p15.1 = 100 then some (p15.1.toUInt32.toUInt16.toUInt32.toInt32, am_pI p15.2 x0 5 ((p15.2.1 x0 5) + 1)) else some ((0 : Int32).toUInt32.toUInt16.toUInt32.toInt32, am_pI p15.2 x0 5 ((p15.2.1 x0 5) + 1)))
  refine am_aload_n 0 dX7_readKind_43 rfl rfl ?_
  refine am_callVi 6 [] (CX7_letterHere G x0 M h_x0) dX7_readKind_44 mb_yX7_letterHere ⟨ml_RX7_45, im_yX7_letterHere, se_yX7_letterHere⟩ rfl h_x0 (by decide) rfl rfl (Nat.le_of_ble_eq_true rfl) (fun v14 M11 q10 w13 l12 => ?_)
  refine am_istore_n (L' := [(2, .int v14), (0, .ref x0)]) dX7_readKind_47 rfl (by decide) rfl ?_
  refine am_aload_n 1 dX7_readKind_48 rfl rfl ?_
  refine am_dup dX7_readKind_49 rfl ?_
  refine am_getI 6 dX7_readKind_50 fl_RX7_35 (am_sh.mono l12 h_x0) rfl ?_
  refine am_iconst dX7_readKind_53 am_kc_1 ?_
  refine am_iadd dX7_readKind_54 ?_
  refine am_putI 6 dX7_readKind_55 fl_RX7_35 (am_sh.mono l12 h_x0) rfl rfl rfl rfl ?_
  refine am_iload_n 0 dX7_readKind_58 rfl rfl ?_
  refine am_bipush (x := 98) dX7_readKind_59 (by decide) ?_
  refine am_icmp_eq (tgt := 70) dX7_readKind_61 (by decide) (fun c16 => ?_) (fun c16 => ?_)
  · refine am_iload_n 0 dX7_readKind_70 rfl rfl ?_
    refine am_goto (tgt := 75) dX7_readKind_71 (by decide) ?_
    exact am_cret dX7_readKind_75
  · refine am_iload_n 0 dX7_readKind_64 rfl rfl ?_
    refine am_bipush (x := 100) dX7_readKind_65 (by decide) ?_
    refine am_icmp_ne (tgt := 74) dX7_readKind_67 (by decide) (fun c17 => ?_) (fun c17 => ?_)
    · refine am_iconst dX7_readKind_74 am_kc_0 ?_
      exact am_cret dX7_readKind_75
    · refine am_iload_n 0 dX7_readKind_70 rfl rfl ?_
      refine am_goto (tgt := 75) dX7_readKind_71 (by decide) ?_
      exact am_cret dX7_readKind_75
set_option maxRecDepth 100000 in
set_option maxHeartbeats 4000000 in
theorem sX7_readKind_0 (G : am_G) (a0 : Nat) (M : am_M) (h_a0 : am_sh M a0 11) : am_S am_ei G 1 yX7_readKind.cls yX7_readKind.name cX7_readKind 3 (some FieldType.char) 0 [(0, .ref a0)] [] M (fX7_readKind a0 M) := by
  show am_S am_ei G 1 yX7_readKind.cls yX7_readKind.name cX7_readKind 3 (some FieldType.char) 0 [(0, .ref a0)] [] M ((fX7_letterHere a0 M).bind fun p6 => if p6.1 = 119 then some (p6.1.toUInt32.toUInt16.toUInt32.toInt32, am_pI p6.2 a0 5 ((p6.2.1 a0 5) + 1)) else if p6.1 = 112 then some (p6.1.toUInt32.toUInt16.toUInt32.toInt32, am_pI p6.2 a0 5 ((p6.2.1 a0 5) + 1)) else if p6.1 = 43 then fX7_readKind_43 a0 (am_pI p6.2 a0 5 ((p6.2.1 a0 5) + 1)) else if p6.1 = 45 then fX7_readKind_43 a0 (am_pI p6.2 a0 5 ((p6.2.1 a0 5) + 1)) else some ((0 : Int32).toUInt32.toUInt16.toUInt32.toInt32, am_pI p6.2 a0 5 ((p6.2.1 a0 5) + 1)))
  refine am_aload_n 0 dX7_readKind_0 rfl rfl ?_
  refine am_callVi 6 [] (CX7_letterHere G a0 M h_a0) dX7_readKind_1 mb_yX7_letterHere ⟨ml_RX7_45, im_yX7_letterHere, se_yX7_letterHere⟩ rfl h_a0 (by decide) rfl rfl (Nat.le_of_ble_eq_true rfl) (fun v5 M2 q1 w4 l3 => ?_)
  refine am_istore_n (L' := [(1, .int v5), (0, .ref a0)]) dX7_readKind_4 rfl (by decide) rfl ?_
  refine am_aload_n 1 dX7_readKind_5 rfl rfl ?_
  refine am_dup dX7_readKind_6 rfl ?_
  refine am_getI 6 dX7_readKind_7 fl_RX7_35 (am_sh.mono l3 h_a0) rfl ?_
  refine am_iconst dX7_readKind_10 am_kc_1 ?_
  refine am_iadd dX7_readKind_11 ?_
  refine am_putI 6 dX7_readKind_12 fl_RX7_35 (am_sh.mono l3 h_a0) rfl rfl rfl rfl ?_
  refine am_iload_n 0 dX7_readKind_15 rfl rfl ?_
  refine am_bipush (x := 119) dX7_readKind_16 (by decide) ?_
  refine am_icmp_eq (tgt := 27) dX7_readKind_18 (by decide) (fun c7 => ?_) (fun c7 => ?_)
  · refine am_iload_n 0 dX7_readKind_27 rfl rfl ?_
    exact am_cret dX7_readKind_28
  · refine am_iload_n 0 dX7_readKind_21 rfl rfl ?_
    refine am_bipush (x := 112) dX7_readKind_22 (by decide) ?_
    refine am_icmp_ne (tgt := 29) dX7_readKind_24 (by decide) (fun c8 => ?_) (fun c8 => ?_)
    · refine am_iload_n 0 dX7_readKind_29 rfl rfl ?_
      refine am_bipush (x := 43) dX7_readKind_30 (by decide) ?_
      refine am_icmp_eq (tgt := 43) dX7_readKind_32 (by decide) (fun c9 => ?_) (fun c9 => ?_)
      · refine am_sub [1] rfl ?_
        exact sX7_readKind_43 G a0 (am_pI M2 a0 5 ((M2.1 a0 5) + 1)) (am_sh.of (am_sh.mono l3 h_a0) rfl)
      · refine am_iload_n 0 dX7_readKind_35 rfl rfl ?_
        refine am_bipush (x := 45) dX7_readKind_36 (by decide) ?_
        refine am_icmp_eq (tgt := 43) dX7_readKind_38 (by decide) (fun c18 => ?_) (fun c18 => ?_)
        · refine am_sub [1] rfl ?_
          exact sX7_readKind_43 G a0 (am_pI M2 a0 5 ((M2.1 a0 5) + 1)) (am_sh.of (am_sh.mono l3 h_a0) rfl)
        · refine am_iconst dX7_readKind_41 am_kc_0 ?_
          exact am_cret dX7_readKind_42
    · refine am_iload_n 0 dX7_readKind_27 rfl rfl ?_
      exact am_cret dX7_readKind_28
theorem CX7_readKind (G : am_G) (a0 : Nat) (M : am_M) (h_a0 : am_sh M a0 11) : am_C am_ei G 1 yX7_readKind cX7_readKind 3 (some FieldType.char) [.ref a0] M (fX7_readKind a0 M) :=
  am_meth (by decide) rfl (Nat.le_of_ble_eq_true rfl) (sX7_readKind_0 G a0 M h_a0)
def fX7_mayStand_24 (x1 : Nat) (x2 : Int32) (s0 : Int32) (s1 : Int32) (M : am_M) : Option (Int32 × am_M) := if s1 = s0 then if x2 = 112 then (M.2.2.1 x1 0).bind fun r7 => if (40 : Int32) ≤ M.1 r7 4 then some (0, M) else some (1, M) else if (8 : Int32) ≤ M.1 x1 2 then some (0, M) else some (1, M) else some (0, M)
def fX7_mayStand_15 (x1 : Nat) (x2 : Int32) (x3 : Int32) (s0 : Int32) (M : am_M) : Option (Int32 × am_M) := if x3 = 0 then fX7_mayStand_24 x1 x2 1 s0 M else fX7_mayStand_24 x1 x2 0 s0 M
def fX7_mayStand (a0 : Nat) (a1 : Nat) (a2 : Int32) (a3 : Int32) (M : am_M) : Option (Int32 × am_M) := if a2 = 0 then some (0, M) else if a2 = 119 then fX7_mayStand_15 a1 a2 a3 1 M else fX7_mayStand_15 a1 a2 a3 0 M
set_option maxRecDepth 100000 in
set_option maxHeartbeats 4000000 in
theorem sX7_mayStand_24 (G : am_G) (x1 : Nat) (x2 : Int32) (s0 : Int32) (s1 : Int32) (M : am_M) (h_x1 : am_sh M x1 9) : am_S am_ei G 0 yX7_mayStand.cls yX7_mayStand.name cX7_mayStand 4 (some FieldType.boolean) 24 [(1, .ref x1), (2, .int x2)] [.int s0, .int s1] M (fX7_mayStand_24 x1 x2 s0 s1 M) := by
  show am_S am_ei G 0 yX7_mayStand.cls yX7_mayStand.name cX7_mayStand 4 (some FieldType.boolean) 24 [(1, .ref x1), (2, .int x2)] [.int s0, .int s1] M (if s1 = s0 then if x2 = 112 then (M.2.2.1 x1 0).bind fun r7 => if (40 : Int32) ≤ M.1 r7 4 then some (0, M) else some (1, M) else if (8 : Int32) ≤ M.1 x1 2 then some (0, M) else some (1, M) else some (0, M))
  refine am_icmp_eq (tgt := 29) dX7_mayStand_24 (by decide) (fun c4 => ?_) (fun c4 => ?_)
  · refine am_iload_n 1 dX7_mayStand_29 rfl rfl ?_
    refine am_bipush (x := 112) dX7_mayStand_30 (by decide) ?_
    refine am_icmp_ne (tgt := 53) dX7_mayStand_32 (by decide) (fun c5 => ?_) (fun c5 => ?_)
    · refine am_aload_n 0 dX7_mayStand_53 rfl rfl ?_
      refine am_getI 4 dX7_mayStand_54 fl_RX7_76 h_x1 rfl ?_
      refine am_bipush (x := 8) dX7_mayStand_57 (by decide) ?_
      refine am_icmp_ge (tgt := 66) dX7_mayStand_59 (by decide) (fun c6 => ?_) (fun c6 => ?_)
      · refine am_iconst dX7_mayStand_66 am_kc_0 ?_
        exact am_zret0 dX7_mayStand_67
      · refine am_iconst dX7_mayStand_62 am_kc_1 ?_
        refine am_goto (tgt := 67) dX7_mayStand_63 (by decide) ?_
        exact am_zret1 dX7_mayStand_67
    · refine am_aload_n 0 dX7_mayStand_35 rfl rfl ?_
      refine am_getR 4 dX7_mayStand_36 fl_RX7_67 h_x1 rfl (fun r7 e8 h9 => ?_)
      refine am_getI 5 dX7_mayStand_39 fl_RX7_71 h9 rfl ?_
      refine am_bipush (x := 40) dX7_mayStand_42 (by decide) ?_
      refine am_icmp_ge (tgt := 51) dX7_mayStand_44 (by decide) (fun c10 => ?_) (fun c10 => ?_)
      · refine am_iconst dX7_mayStand_51 am_kc_0 ?_
        exact am_zret0 dX7_mayStand_52
      · refine am_iconst dX7_mayStand_47 am_kc_1 ?_
        refine am_goto (tgt := 52) dX7_mayStand_48 (by decide) ?_
        exact am_zret1 dX7_mayStand_52
  · refine am_iconst dX7_mayStand_27 am_kc_0 ?_
    exact am_zret0 dX7_mayStand_28
set_option maxRecDepth 100000 in
set_option maxHeartbeats 4000000 in
theorem sX7_mayStand_15 (G : am_G) (x1 : Nat) (x2 : Int32) (x3 : Int32) (s0 : Int32) (M : am_M) (h_x1 : am_sh M x1 9) : am_S am_ei G 0 yX7_mayStand.cls yX7_mayStand.name cX7_mayStand 4 (some FieldType.boolean) 15 [(1, .ref x1), (2, .int x2), (3, .int x3)] [.int s0] M (fX7_mayStand_15 x1 x2 x3 s0 M) := by
  show am_S am_ei G 0 yX7_mayStand.cls yX7_mayStand.name cX7_mayStand 4 (some FieldType.boolean) 15 [(1, .ref x1), (2, .int x2), (3, .int x3)] [.int s0] M (if x3 = 0 then fX7_mayStand_24 x1 x2 1 s0 M else fX7_mayStand_24 x1 x2 0 s0 M)
  refine am_iload_n 2 dX7_mayStand_15 rfl rfl ?_
  refine am_if_ne (tgt := 23) dX7_mayStand_16 (by decide) (fun c3 => ?_) (fun c3 => ?_)
  · refine am_iconst dX7_mayStand_23 am_kc_0 ?_
    refine am_sub [0, 1] rfl ?_
    exact sX7_mayStand_24 G x1 x2 0 s0 M h_x1
  · refine am_iconst dX7_mayStand_19 am_kc_1 ?_
    refine am_goto (tgt := 24) dX7_mayStand_20 (by decide) ?_
    refine am_sub [0, 1] rfl ?_
    exact sX7_mayStand_24 G x1 x2 1 s0 M h_x1
set_option maxRecDepth 100000 in
set_option maxHeartbeats 4000000 in
theorem sX7_mayStand_0 (G : am_G) (a0 : Nat) (a1 : Nat) (a2 : Int32) (a3 : Int32) (M : am_M) (h_a0 : am_sh M a0 11) (h_a1 : am_sh M a1 9) : am_S am_ei G 0 yX7_mayStand.cls yX7_mayStand.name cX7_mayStand 4 (some FieldType.boolean) 0 [(0, .ref a0), (1, .ref a1), (2, .int a2), (3, .int a3)] [] M (fX7_mayStand a0 a1 a2 a3 M) := by
  show am_S am_ei G 0 yX7_mayStand.cls yX7_mayStand.name cX7_mayStand 4 (some FieldType.boolean) 0 [(0, .ref a0), (1, .ref a1), (2, .int a2), (3, .int a3)] [] M (if a2 = 0 then some (0, M) else if a2 = 119 then fX7_mayStand_15 a1 a2 a3 1 M else fX7_mayStand_15 a1 a2 a3 0 M)
  refine am_iload_n 2 dX7_mayStand_0 rfl rfl ?_
  refine am_if_eq (tgt := 27) dX7_mayStand_1 (by decide) (fun c1 => ?_) (fun c1 => ?_)
  · refine am_iconst dX7_mayStand_27 am_kc_0 ?_
    exact am_zret0 dX7_mayStand_28
  · refine am_iload_n 2 dX7_mayStand_4 rfl rfl ?_
    refine am_bipush (x := 119) dX7_mayStand_5 (by decide) ?_
    refine am_icmp_ne (tgt := 14) dX7_mayStand_7 (by decide) (fun c2 => ?_) (fun c2 => ?_)
    · refine am_iconst dX7_mayStand_14 am_kc_0 ?_
      refine am_sub [1, 2, 3] rfl ?_
      exact sX7_mayStand_15 G a1 a2 a3 0 M h_a1
    · refine am_iconst dX7_mayStand_10 am_kc_1 ?_
      refine am_goto (tgt := 15) dX7_mayStand_11 (by decide) ?_
      refine am_sub [1, 2, 3] rfl ?_
      exact sX7_mayStand_15 G a1 a2 a3 1 M h_a1
theorem CX7_mayStand (G : am_G) (a0 : Nat) (a1 : Nat) (a2 : Int32) (a3 : Int32) (M : am_M) (h_a0 : am_sh M a0 11) (h_a1 : am_sh M a1 9) : am_C am_ei G 0 yX7_mayStand cX7_mayStand 4 (some FieldType.boolean) [.ref a0, .ref a1, .int a2, .int a3] M (fX7_mayStand a0 a1 a2 a3 M) :=
  am_meth (by decide) rfl (Nat.le_of_ble_eq_true rfl) (sX7_mayStand_0 G a0 a1 a2 a3 M h_a0 h_a1)
def fX7_isFigure (a0 : Int32) (M : am_M) : Option (Int32 × am_M) := if a0 < 48 then some (0, M) else if (57 : Int32) < a0 then some (0, M) else some (1, M)
set_option maxRecDepth 100000 in
set_option maxHeartbeats 4000000 in
theorem sX7_isFigure_0 (G : am_G) (a0 : Int32) (M : am_M) : am_S am_ei G 0 yX7_isFigure.cls yX7_isFigure.name cX7_isFigure 1 (some FieldType.boolean) 0 [(0, .int a0)] [] M (fX7_isFigure a0 M) := by
  show am_S am_ei G 0 yX7_isFigure.cls yX7_isFigure.name cX7_isFigure 1 (some FieldType.boolean) 0 [(0, .int a0)] [] M (if a0 < 48 then some (0, M) else if (57 : Int32) < a0 then some (0, M) else some (1, M))
  refine am_iload_n 0 dX7_isFigure_0 rfl rfl ?_
  refine am_bipush (x := 48) dX7_isFigure_1 (by decide) ?_
  refine am_icmp_lt (tgt := 16) dX7_isFigure_3 (by decide) (fun c1 => ?_) (fun c1 => ?_)
  · refine am_iconst dX7_isFigure_16 am_kc_0 ?_
    exact am_zret0 dX7_isFigure_17
  · refine am_iload_n 0 dX7_isFigure_6 rfl rfl ?_
    refine am_bipush (x := 57) dX7_isFigure_7 (by decide) ?_
    refine am_icmp_gt (tgt := 16) dX7_isFigure_9 (by decide) (fun c2 => ?_) (fun c2 => ?_)
    · refine am_iconst dX7_isFigure_16 am_kc_0 ?_
      exact am_zret0 dX7_isFigure_17
    · refine am_iconst dX7_isFigure_12 am_kc_1 ?_
      refine am_goto (tgt := 17) dX7_isFigure_13 (by decide) ?_
      exact am_zret1 dX7_isFigure_17
theorem CX7_isFigure (G : am_G) (a0 : Int32) (M : am_M) : am_C am_ei G 0 yX7_isFigure cX7_isFigure 1 (some FieldType.boolean) [.int a0] M (fX7_isFigure a0 M) :=
  am_meth (by decide) rfl (Nat.le_of_ble_eq_true rfl) (sX7_isFigure_0 G a0 M)
def fX7_readNumber_50 (x0 : Nat) (x1 : Int32) (x2 : Int32) (x3 : Int32) (x4 : Int32) (M : am_M) : Option (Int32 × am_M) := if x4 = 0 then some (2, M) else (fX7_letterHere x0 M).bind fun p8 => (fX7_isFigure p8.1 p8.2).bind fun p14 => if p14.1 = 0 then (fX7_letterHere x0 p14.2).bind fun p21 => if p21.1 = x2 then ((am_pI p21.2 x0 5 ((p21.2.1 x0 5) + 1)).2.2.1 x0 1).bind fun r23 => if x1 < 0 ∨ am_len (am_pI p21.2 x0 5 ((p21.2.1 x0 5) + 1)) r23 ≤ x1.toNatClampNeg then none else some (0, am_pI (am_pI p21.2 x0 5 ((p21.2.1 x0 5) + 1)) r23 x1.toNatClampNeg x3) else some (3, p21.2) else some (2, p14.2)
def fX7_readNumber_5 : ((Nat × Int32 × Int32 × Int32 × Int32 × am_M) → Option (Int32 × am_M)) → (Nat × Int32 × Int32 × Int32 × Int32 × am_M) → Option (Int32 × am_M) := fun k5 q0 => match q0 with
  | (x0, x1, x2, x3, x4, M) => if (3 : Int32) ≤ x4 then fX7_readNumber_50 x0 x1 x2 x3 x4 M else (fX7_letterHere x0 M).bind fun p32 => (fX7_isFigure p32.1 p32.2).bind fun p38 => if p38.1 = 0 then fX7_readNumber_50 x0 x1 x2 x3 x4 p38.2 else (fX7_letterHere x0 p38.2).bind fun p45 => k5 (x0, x1, x2, ((10 * x3) + p45.1) - 48, x4 + 1, am_pI p45.2 x0 5 ((p45.2.1 x0 5) + 1))
def fX7_readNumber (a0 : Nat) (a1 : Int32) (a2 : Int32) (M : am_M) : Option (Int32 × am_M) := am_loop (fX7_readNumber_5) 100000 (a0, a1, a2, 0, 0, M)
set_option maxRecDepth 100000 in
set_option maxHeartbeats 4000000 in
theorem sX7_readNumber_50 (G : am_G) (x0 : Nat) (x1 : Int32) (x2 : Int32) (x3 : Int32) (x4 : Int32) (M : am_M) (h_x0 : am_sh M x0 11) : am_S am_ei G 1 yX7_readNumber.cls yX7_readNumber.name cX7_readNumber 5 (some FieldType.int) 50 [(0, .ref x0), (1, .int x1), (2, .int x2), (3, .int x3), (4, .int x4)] [] M (fX7_readNumber_50 x0 x1 x2 x3 x4 M) := by
  show am_S am_ei G 1 yX7_readNumber.cls yX7_readNumber.name cX7_readNumber 5 (some FieldType.int) 50 [(0, .ref x0), (1, .int x1), (2, .int x2), (3, .int x3), (4, .int x4)] [] M (if x4 = 0 then some (2, M) else (fX7_letterHere x0 M).bind fun p8 => (fX7_isFigure p8.1 p8.2).bind fun p14 => if p14.1 = 0 then (fX7_letterHere x0 p14.2).bind fun p21 => if p21.1 = x2 then ((am_pI p21.2 x0 5 ((p21.2.1 x0 5) + 1)).2.2.1 x0 1).bind fun r23 => if x1 < 0 ∨ am_len (am_pI p21.2 x0 5 ((p21.2.1 x0 5) + 1)) r23 ≤ x1.toNatClampNeg then none else some (0, am_pI (am_pI p21.2 x0 5 ((p21.2.1 x0 5) + 1)) r23 x1.toNatClampNeg x3) else some (3, p21.2) else some (2, p14.2))
  refine am_iload 4 dX7_readNumber_50 rfl ?_
  refine am_if_eq (tgt := 65) dX7_readNumber_52 (by decide) (fun c2 => ?_) (fun c2 => ?_)
  · refine am_iconst dX7_readNumber_65 am_kc_2 ?_
    exact am_iret dX7_readNumber_66
  · refine am_aload_n 0 dX7_readNumber_55 rfl rfl ?_
    refine am_callVi 6 [] (CX7_letterHere G x0 M h_x0) dX7_readNumber_56 mb_yX7_letterHere ⟨ml_RX7_45, im_yX7_letterHere, se_yX7_letterHere⟩ rfl h_x0 (by decide) rfl rfl (Nat.le_of_ble_eq_true rfl) (fun v7 M4 q3 w6 l5 => ?_)
    refine am_callSi [.int v7] (CX7_isFigure G v7 M4) dX7_readNumber_59 mb_yX7_isFigure ⟨ml_RX7_79, sm_yX7_isFigure⟩ (by decide) rfl rfl (Nat.le_of_ble_eq_true rfl) (fun v13 M10 q9 w12 l11 => ?_)
    refine am_if_eq (tgt := 67) dX7_readNumber_62 (by decide) (fun c15 => ?_) (fun c15 => ?_)
    · refine am_aload_n 0 dX7_readNumber_67 rfl rfl ?_
      refine am_callVi 6 [] (CX7_letterHere G x0 M10 (am_sh.mono l11 (am_sh.mono l5 h_x0))) dX7_readNumber_68 mb_yX7_letterHere ⟨ml_RX7_45, im_yX7_letterHere, se_yX7_letterHere⟩ rfl (am_sh.mono l11 (am_sh.mono l5 h_x0)) (by decide) rfl rfl (Nat.le_of_ble_eq_true rfl) (fun v20 M17 q16 w19 l18 => ?_)
      refine am_iload_n 2 dX7_readNumber_71 rfl rfl ?_
      refine am_icmp_eq (tgt := 77) dX7_readNumber_72 (by decide) (fun c22 => ?_) (fun c22 => ?_)
      · refine am_aload_n 0 dX7_readNumber_77 rfl rfl ?_
        refine am_dup dX7_readNumber_78 rfl ?_
        refine am_getI 6 dX7_readNumber_79 fl_RX7_35 (am_sh.mono l18 (am_sh.mono l11 (am_sh.mono l5 h_x0))) rfl ?_
        refine am_iconst dX7_readNumber_82 am_kc_1 ?_
        refine am_iadd dX7_readNumber_83 ?_
        refine am_putI 6 dX7_readNumber_84 fl_RX7_35 (am_sh.mono l18 (am_sh.mono l11 (am_sh.mono l5 h_x0))) rfl rfl rfl rfl ?_
        refine am_aload_n 0 dX7_readNumber_87 rfl rfl ?_
        refine am_getR 6 dX7_readNumber_88 fl_RX7_15 (am_sh.of (am_sh.mono l18 (am_sh.mono l11 (am_sh.mono l5 h_x0))) rfl) rfl (fun r23 e24 h25 => ?_)
        refine am_iload_n 1 dX7_readNumber_91 rfl rfl ?_
        refine am_iload_n 3 dX7_readNumber_92 rfl rfl ?_
        refine am_iast dX7_readNumber_93 (am_sh.of (am_sh.of (M := am_pI M17 x0 5 ((M17.1 x0 5) + 1)) h25 rfl) rfl) (fun b26 => ?_)
        refine am_iconst dX7_readNumber_94 am_kc_0 ?_
        exact am_iret dX7_readNumber_95
      · refine am_iconst dX7_readNumber_75 am_kc_3 ?_
        exact am_iret dX7_readNumber_76
    · refine am_iconst dX7_readNumber_65 am_kc_2 ?_
      exact am_iret dX7_readNumber_66
set_option maxRecDepth 100000 in
set_option maxHeartbeats 4000000 in
theorem sX7_readNumber_5 (G : am_G) (k5 : (Nat × Int32 × Int32 × Int32 × Int32 × am_M) → Option (Int32 × am_M)) (hk5 : ∀ q : (Nat × Int32 × Int32 × Int32 × Int32 × am_M), (match q with | (x0, x1, x2, x3, x4, M) => am_sh M x0 11) → match q with | (x0, x1, x2, x3, x4, M) => am_S am_ei G 1 yX7_readNumber.cls yX7_readNumber.name cX7_readNumber 5 (some FieldType.int) 5 [(0, .ref x0), (1, .int x1), (2, .int x2), (3, .int x3), (4, .int x4)] [] M (k5 (x0, x1, x2, x3, x4, M))) (x0 : Nat) (x1 : Int32) (x2 : Int32) (x3 : Int32) (x4 : Int32) (M : am_M) (h_x0 : am_sh M x0 11) : am_S am_ei G 1 yX7_readNumber.cls yX7_readNumber.name cX7_readNumber 5 (some FieldType.int) 5 [(0, .ref x0), (1, .int x1), (2, .int x2), (3, .int x3), (4, .int x4)] [] M (fX7_readNumber_5 k5 (x0, x1, x2, x3, x4, M)) := by
  show am_S am_ei G 1 yX7_readNumber.cls yX7_readNumber.name cX7_readNumber 5 (some FieldType.int) 5 [(0, .ref x0), (1, .int x1), (2, .int x2), (3, .int x3), (4, .int x4)] [] M (if (3 : Int32) ≤ x4 then fX7_readNumber_50 x0 x1 x2 x3 x4 M else (fX7_letterHere x0 M).bind fun p32 => (fX7_isFigure p32.1 p32.2).bind fun p38 => if p38.1 = 0 then fX7_readNumber_50 x0 x1 x2 x3 x4 p38.2 else (fX7_letterHere x0 p38.2).bind fun p45 => k5 (x0, x1, x2, ((10 * x3) + p45.1) - 48, x4 + 1, am_pI p45.2 x0 5 ((p45.2.1 x0 5) + 1)))
  refine am_iload 4 dX7_readNumber_5 rfl ?_
  refine am_iconst dX7_readNumber_7 am_kc_3 ?_
  refine am_icmp_ge (tgt := 50) dX7_readNumber_8 (by decide) (fun c1 => ?_) (fun c1 => ?_)
  · exact sX7_readNumber_50 G x0 x1 x2 x3 x4 M h_x0
  · refine am_aload_n 0 dX7_readNumber_11 rfl rfl ?_
    refine am_callVi 6 [] (CX7_letterHere G x0 M h_x0) dX7_readNumber_12 mb_yX7_letterHere ⟨ml_RX7_45, im_yX7_letterHere, se_yX7_letterHere⟩ rfl h_x0 (by decide) rfl rfl (Nat.le_of_ble_eq_true rfl) (fun v31 M28 q27 w30 l29 => ?_)
    refine am_callSi [.int v31] (CX7_isFigure G v31 M28) dX7_readNumber_15 mb_yX7_isFigure ⟨ml_RX7_79, sm_yX7_isFigure⟩ (by decide) rfl rfl (Nat.le_of_ble_eq_true rfl) (fun v37 M34 q33 w36 l35 => ?_)
    refine am_if_eq (tgt := 50) dX7_readNumber_18 (by decide) (fun c39 => ?_) (fun c39 => ?_)
    · exact sX7_readNumber_50 G x0 x1 x2 x3 x4 M34 (am_sh.mono l35 (am_sh.mono l29 h_x0))
    · refine am_bipush (x := 10) dX7_readNumber_21 (by decide) ?_
      refine am_iload_n 3 dX7_readNumber_23 rfl rfl ?_
      refine am_imul dX7_readNumber_24 ?_
      refine am_aload_n 0 dX7_readNumber_25 rfl rfl ?_
      refine am_callVi 6 [] (CX7_letterHere G x0 M34 (am_sh.mono l35 (am_sh.mono l29 h_x0))) dX7_readNumber_26 mb_yX7_letterHere ⟨ml_RX7_45, im_yX7_letterHere, se_yX7_letterHere⟩ rfl (am_sh.mono l35 (am_sh.mono l29 h_x0)) (by decide) rfl rfl (Nat.le_of_ble_eq_true rfl) (fun v44 M41 q40 w43 l42 => ?_)
      refine am_iadd dX7_readNumber_29 ?_
      refine am_bipush (x := 48) dX7_readNumber_30 (by decide) ?_
      refine am_isub dX7_readNumber_32 ?_
      refine am_istore_n (L' := [(3, .int (((10 * x3) + v44) - 48)), (0, .ref x0), (1, .int x1), (2, .int x2), (4, .int x4)]) dX7_readNumber_33 rfl (by decide) rfl ?_
      refine am_iinc (L' := [(4, .int (x4 + 1)), (3, .int (((10 * x3) + v44) - 48)), (0, .ref x0), (1, .int x1), (2, .int x2)]) 4 dX7_readNumber_34 rfl (by rfl) (by decide) rfl ?_
      refine am_aload_n 2 dX7_readNumber_37 rfl rfl ?_
      refine am_dup dX7_readNumber_38 rfl ?_
      refine am_getI 6 dX7_readNumber_39 fl_RX7_35 (am_sh.mono l42 (am_sh.mono l35 (am_sh.mono l29 h_x0))) rfl ?_
      refine am_iconst dX7_readNumber_42 am_kc_1 ?_
      refine am_iadd dX7_readNumber_43 ?_
      refine am_putI 6 dX7_readNumber_44 fl_RX7_35 (am_sh.mono l42 (am_sh.mono l35 (am_sh.mono l29 h_x0))) rfl rfl rfl rfl ?_
      refine am_goto (tgt := 5) dX7_readNumber_47 (by decide) ?_
      refine am_sub [2, 3, 4, 1, 0] rfl ?_
      exact hk5 (x0, x1, x2, ((10 * x3) + v44) - 48, x4 + 1, am_pI M41 x0 5 ((M41.1 x0 5) + 1)) (am_sh.of (am_sh.mono l42 (am_sh.mono l35 (am_sh.mono l29 h_x0))) rfl)
set_option maxRecDepth 100000 in
set_option maxHeartbeats 4000000 in
theorem lX7_readNumber_5 (G : am_G) (n : Nat) (q : (Nat × Int32 × Int32 × Int32 × Int32 × am_M)) (hq : match q with | (x0, x1, x2, x3, x4, M) => am_sh M x0 11) : match q with | (x0, x1, x2, x3, x4, M) => am_S am_ei G 1 yX7_readNumber.cls yX7_readNumber.name cX7_readNumber 5 (some FieldType.int) 5 [(0, .ref x0), (1, .int x1), (2, .int x2), (3, .int x3), (4, .int x4)] [] M (am_loop (fX7_readNumber_5) n (x0, x1, x2, x3, x4, M)) := by
  exact am_loop_ok (fun q : (Nat × Int32 × Int32 × Int32 × Int32 × am_M) => match q with | (x0, x1, x2, x3, x4, M) => am_sh M x0 11) (fun q X => match q with | (x0, x1, x2, x3, x4, M) => am_S am_ei G 1 yX7_readNumber.cls yX7_readNumber.name cX7_readNumber 5 (some FieldType.int) 5 [(0, .ref x0), (1, .int x1), (2, .int x2), (3, .int x3), (4, .int x4)] [] M X) (fun _ => am_none) (fun k5 hk5 q hq => match q, hq with | (x0, x1, x2, x3, x4, M), h_x0 => sX7_readNumber_5 G k5 hk5 x0 x1 x2 x3 x4 M h_x0) n q hq
set_option maxRecDepth 100000 in
set_option maxHeartbeats 4000000 in
theorem sX7_readNumber_0 (G : am_G) (a0 : Nat) (a1 : Int32) (a2 : Int32) (M : am_M) (h_a0 : am_sh M a0 11) : am_S am_ei G 1 yX7_readNumber.cls yX7_readNumber.name cX7_readNumber 5 (some FieldType.int) 0 [(0, .ref a0), (1, .int a1), (2, .int a2)] [] M (fX7_readNumber a0 a1 a2 M) := by
  show am_S am_ei G 1 yX7_readNumber.cls yX7_readNumber.name cX7_readNumber 5 (some FieldType.int) 0 [(0, .ref a0), (1, .int a1), (2, .int a2)] [] M (am_loop (fX7_readNumber_5) 100000 (a0, a1, a2, 0, 0, M))
  refine am_iconst dX7_readNumber_0 am_kc_0 ?_
  refine am_istore_n (L' := [(3, .int 0), (0, .ref a0), (1, .int a1), (2, .int a2)]) dX7_readNumber_1 rfl (by decide) rfl ?_
  refine am_iconst dX7_readNumber_2 am_kc_0 ?_
  refine am_istore (L' := [(4, .int 0), (3, .int 0), (0, .ref a0), (1, .int a1), (2, .int a2)]) dX7_readNumber_3 (by decide) rfl ?_
  refine am_sub [2, 3, 4, 1, 0] rfl ?_
  exact lX7_readNumber_5 G 100000 (a0, a1, a2, 0, 0, M) h_a0
theorem CX7_readNumber (G : am_G) (a0 : Nat) (a1 : Int32) (a2 : Int32) (M : am_M) (h_a0 : am_sh M a0 11) : am_C am_ei G 1 yX7_readNumber cX7_readNumber 5 (some FieldType.int) [.ref a0, .int a1, .int a2] M (fX7_readNumber a0 a1 a2 M) :=
  am_meth (by decide) rfl (Nat.le_of_ble_eq_true rfl) (sX7_readNumber_0 G a0 a1 a2 M h_a0)
def fX9_isBit (a0 : Int32) (M : am_M) : Option (Int32 × am_M) := if a0 = 0 then some (1, M) else if a0 = 1 then some (1, M) else some (0, M)
set_option maxRecDepth 100000 in
set_option maxHeartbeats 4000000 in
theorem sX9_isBit_0 (G : am_G) (a0 : Int32) (M : am_M) : am_S am_ei G 0 yX9_isBit.cls yX9_isBit.name cX9_isBit 1 (some FieldType.boolean) 0 [(0, .int a0)] [] M (fX9_isBit a0 M) := by
  show am_S am_ei G 0 yX9_isBit.cls yX9_isBit.name cX9_isBit 1 (some FieldType.boolean) 0 [(0, .int a0)] [] M (if a0 = 0 then some (1, M) else if a0 = 1 then some (1, M) else some (0, M))
  refine am_iload_n 0 dX9_isBit_0 rfl rfl ?_
  refine am_if_eq (tgt := 9) dX9_isBit_1 (by decide) (fun c1 => ?_) (fun c1 => ?_)
  · refine am_iconst dX9_isBit_9 am_kc_1 ?_
    refine am_goto (tgt := 14) dX9_isBit_10 (by decide) ?_
    exact am_zret1 dX9_isBit_14
  · refine am_iload_n 0 dX9_isBit_4 rfl rfl ?_
    refine am_iconst dX9_isBit_5 am_kc_1 ?_
    refine am_icmp_ne (tgt := 13) dX9_isBit_6 (by decide) (fun c2 => ?_) (fun c2 => ?_)
    · refine am_iconst dX9_isBit_13 am_kc_0 ?_
      exact am_zret0 dX9_isBit_14
    · refine am_iconst dX9_isBit_9 am_kc_1 ?_
      refine am_goto (tgt := 14) dX9_isBit_10 (by decide) ?_
      exact am_zret1 dX9_isBit_14
theorem CX9_isBit (G : am_G) (a0 : Int32) (M : am_M) : am_C am_ei G 0 yX9_isBit cX9_isBit 1 (some FieldType.boolean) [.int a0] M (fX9_isBit a0 M) :=
  am_meth (by decide) rfl (Nat.le_of_ble_eq_true rfl) (sX9_isBit_0 G a0 M)
def fX7_isTold_69 (x0 : Nat) (x1 : Nat) (x3 : Int32) (x4 : Int32) (M : am_M) : Option (Int32 × am_M) := (fX5_side x1 M).bind fun p12 => if p12.1 ≤ x4 then some (0, p12.2) else if x3 < 2 then some (1, p12.2) else (p12.2.2.2.1 x0 1).bind fun r15 => if x3 - 2 < 0 ∨ am_len p12.2 r15 ≤ (x3 - 2).toNatClampNeg then none else if x4 < p12.2.1 r15 ((x3 - 2).toNatClampNeg) then some (0, p12.2) else some (1, p12.2)
def fX7_isTold (a0 : Nat) (a1 : Nat) (a2 : Int32) (a3 : Int32) (M : am_M) : Option (Int32 × am_M) := (M.2.2.1 a0 1).bind fun r1 => if a3 < 0 ∨ am_len M r1 ≤ a3.toNatClampNeg then none else if a2 = 119 then if a3 = 0 then if M.1 r1 (a3.toNatClampNeg) < 1 then some (0, M) else if (6 : Int32) < M.1 r1 (a3.toNatClampNeg) then some (0, M) else some (1, M) else (fX9_isBit (M.1 r1 (a3.toNatClampNeg)) M).bind fun p28 => some (p28.1 &&& 1, p28.2) else if a2 = 100 then if a3 = 2 then if (63 : Int32) < M.1 r1 (a3.toNatClampNeg) then some (0, M) else some (1, M) else fX7_isTold_69 a0 a1 a3 (M.1 r1 (a3.toNatClampNeg)) M else fX7_isTold_69 a0 a1 a3 (M.1 r1 (a3.toNatClampNeg)) M
set_option maxRecDepth 100000 in
set_option maxHeartbeats 4000000 in
theorem sX7_isTold_69 (G : am_G) (x0 : Nat) (x1 : Nat) (x3 : Int32) (x4 : Int32) (M : am_M) (h_x0 : am_sh M x0 11) (h_x1 : am_sh M x1 9) : am_S am_ei G 1 yX7_isTold.cls yX7_isTold.name cX7_isTold 5 (some FieldType.boolean) 69 [(0, .ref x0), (1, .ref x1), (3, .int x3), (4, .int x4)] [] M (fX7_isTold_69 x0 x1 x3 x4 M) := by
  show am_S am_ei G 1 yX7_isTold.cls yX7_isTold.name cX7_isTold 5 (some FieldType.boolean) 69 [(0, .ref x0), (1, .ref x1), (3, .int x3), (4, .int x4)] [] M ((fX5_side x1 M).bind fun p12 => if p12.1 ≤ x4 then some (0, p12.2) else if x3 < 2 then some (1, p12.2) else (p12.2.2.2.1 x0 1).bind fun r15 => if x3 - 2 < 0 ∨ am_len p12.2 r15 ≤ (x3 - 2).toNatClampNeg then none else if x4 < p12.2.1 r15 ((x3 - 2).toNatClampNeg) then some (0, p12.2) else some (1, p12.2))
  refine am_iload 3 dX7_isTold_69 rfl ?_
  refine am_aload_n 1 dX7_isTold_71 rfl rfl ?_
  refine am_callVi 4 [] (CX5_side G x1 M h_x1) dX7_isTold_72 mb_yX5_side ⟨ml_RX7_87, im_yX5_side, se_yX5_side⟩ rfl h_x1 (by decide) rfl rfl (Nat.le_of_ble_eq_true rfl) (fun v11 M8 q7 w10 l9 => ?_)
  refine am_icmp_ge (tgt := 100) dX7_isTold_75 (by decide) (fun c13 => ?_) (fun c13 => ?_)
  · refine am_iconst dX7_isTold_100 am_kc_0 ?_
    exact am_zret0 dX7_isTold_101
  · refine am_iload_n 2 dX7_isTold_78 rfl rfl ?_
    refine am_iconst dX7_isTold_79 am_kc_2 ?_
    refine am_icmp_lt (tgt := 96) dX7_isTold_80 (by decide) (fun c14 => ?_) (fun c14 => ?_)
    · refine am_iconst dX7_isTold_96 am_kc_1 ?_
      refine am_goto (tgt := 101) dX7_isTold_97 (by decide) ?_
      exact am_zret1 dX7_isTold_101
    · refine am_iload 3 dX7_isTold_83 rfl ?_
      refine am_aload_n 0 dX7_isTold_85 rfl rfl ?_
      refine am_getR 6 dX7_isTold_86 fl_RX7_15 (am_sh.mono l9 h_x0) rfl (fun r15 e16 h17 => ?_)
      refine am_iload_n 2 dX7_isTold_89 rfl rfl ?_
      refine am_iconst dX7_isTold_90 am_kc_2 ?_
      refine am_isub dX7_isTold_91 ?_
      refine am_iald dX7_isTold_92 h17 (fun b18 => ?_)
      refine am_icmp_lt (tgt := 100) dX7_isTold_93 (by decide) (fun c19 => ?_) (fun c19 => ?_)
      · refine am_iconst dX7_isTold_100 am_kc_0 ?_
        exact am_zret0 dX7_isTold_101
      · refine am_iconst dX7_isTold_96 am_kc_1 ?_
        refine am_goto (tgt := 101) dX7_isTold_97 (by decide) ?_
        exact am_zret1 dX7_isTold_101
set_option maxRecDepth 100000 in
set_option maxHeartbeats 4000000 in
theorem sX7_isTold_0 (G : am_G) (a0 : Nat) (a1 : Nat) (a2 : Int32) (a3 : Int32) (M : am_M) (h_a0 : am_sh M a0 11) (h_a1 : am_sh M a1 9) : am_S am_ei G 1 yX7_isTold.cls yX7_isTold.name cX7_isTold 5 (some FieldType.boolean) 0 [(0, .ref a0), (1, .ref a1), (2, .int a2), (3, .int a3)] [] M (fX7_isTold a0 a1 a2 a3 M) := by
  show am_S am_ei G 1 yX7_isTold.cls yX7_isTold.name cX7_isTold 5 (some FieldType.boolean) 0 [(0, .ref a0), (1, .ref a1), (2, .int a2), (3, .int a3)] [] M ((M.2.2.1 a0 1).bind fun r1 => if a3 < 0 ∨ am_len M r1 ≤ a3.toNatClampNeg then none else if a2 = 119 then if a3 = 0 then if M.1 r1 (a3.toNatClampNeg) < 1 then some (0, M) else if (6 : Int32) < M.1 r1 (a3.toNatClampNeg) then some (0, M) else some (1, M) else (fX9_isBit (M.1 r1 (a3.toNatClampNeg)) M).bind fun p28 => some (p28.1 &&& 1, p28.2) else if a2 = 100 then if a3 = 2 then if (63 : Int32) < M.1 r1 (a3.toNatClampNeg) then some (0, M) else some (1, M) else fX7_isTold_69 a0 a1 a3 (M.1 r1 (a3.toNatClampNeg)) M else fX7_isTold_69 a0 a1 a3 (M.1 r1 (a3.toNatClampNeg)) M)
  refine am_aload_n 0 dX7_isTold_0 rfl rfl ?_
  refine am_getR 6 dX7_isTold_1 fl_RX7_15 h_a0 rfl (fun r1 e2 h3 => ?_)
  refine am_iload_n 3 dX7_isTold_4 rfl rfl ?_
  refine am_iald dX7_isTold_5 h3 (fun b4 => ?_)
  refine am_istore (L' := [(4, .int (M.1 r1 (a3.toNatClampNeg))), (0, .ref a0), (1, .ref a1), (2, .int a2), (3, .int a3)]) dX7_isTold_6 (by decide) rfl ?_
  refine am_iload_n 3 dX7_isTold_8 rfl rfl ?_
  refine am_bipush (x := 119) dX7_isTold_9 (by decide) ?_
  refine am_icmp_ne (tgt := 45) dX7_isTold_11 (by decide) (fun c5 => ?_) (fun c5 => ?_)
  · refine am_iload_n 3 dX7_isTold_45 rfl rfl ?_
    refine am_bipush (x := 100) dX7_isTold_46 (by decide) ?_
    refine am_icmp_ne (tgt := 69) dX7_isTold_48 (by decide) (fun c6 => ?_) (fun c6 => ?_)
    · refine am_sub [1, 2, 4, 0] rfl ?_
      exact sX7_isTold_69 G a0 a1 a3 (M.1 r1 (a3.toNatClampNeg)) M h_a0 h_a1
    · refine am_iload_n 4 dX7_isTold_51 rfl rfl ?_
      refine am_iconst dX7_isTold_52 am_kc_2 ?_
      refine am_icmp_ne (tgt := 69) dX7_isTold_53 (by decide) (fun c20 => ?_) (fun c20 => ?_)
      · refine am_sub [1, 2, 4, 0] rfl ?_
        exact sX7_isTold_69 G a0 a1 a3 (M.1 r1 (a3.toNatClampNeg)) M h_a0 h_a1
      · refine am_iload 0 dX7_isTold_56 rfl ?_
        refine am_bipush (x := 63) dX7_isTold_58 (by decide) ?_
        refine am_icmp_gt (tgt := 67) dX7_isTold_60 (by decide) (fun c21 => ?_) (fun c21 => ?_)
        · refine am_iconst dX7_isTold_67 am_kc_0 ?_
          exact am_zret0 dX7_isTold_68
        · refine am_iconst dX7_isTold_63 am_kc_1 ?_
          refine am_goto (tgt := 68) dX7_isTold_64 (by decide) ?_
          exact am_zret1 dX7_isTold_68
  · refine am_iload_n 4 dX7_isTold_14 rfl rfl ?_
    refine am_if_ne (tgt := 39) dX7_isTold_15 (by decide) (fun c22 => ?_) (fun c22 => ?_)
    · refine am_iload 0 dX7_isTold_39 rfl ?_
      refine am_callSNi [.int (M.1 r1 (a3.toNatClampNeg))] RX9 (CX9_isBit G (M.1 r1 (a3.toNatClampNeg)) M) dX7_isTold_41 mb_yX9_isBit ⟨mn_RX7_83, sm_yX9_isBit⟩ (by decide) rfl rfl (Nat.le_of_ble_eq_true rfl) (fun v27 M24 q23 w26 l25 => ?_)
      exact am_zret dX7_isTold_44
    · refine am_iload 0 dX7_isTold_18 rfl ?_
      refine am_iconst dX7_isTold_20 am_kc_1 ?_
      refine am_icmp_lt (tgt := 35) dX7_isTold_21 (by decide) (fun c29 => ?_) (fun c29 => ?_)
      · refine am_iconst dX7_isTold_35 am_kc_0 ?_
        refine am_goto (tgt := 44) dX7_isTold_36 (by decide) ?_
        exact am_zret0 dX7_isTold_44
      · refine am_iload 0 dX7_isTold_24 rfl ?_
        refine am_bipush (x := 6) dX7_isTold_26 (by decide) ?_
        refine am_icmp_gt (tgt := 35) dX7_isTold_28 (by decide) (fun c30 => ?_) (fun c30 => ?_)
        · refine am_iconst dX7_isTold_35 am_kc_0 ?_
          refine am_goto (tgt := 44) dX7_isTold_36 (by decide) ?_
          exact am_zret0 dX7_isTold_44
        · refine am_iconst dX7_isTold_31 am_kc_1 ?_
          refine am_goto (tgt := 44) dX7_isTold_32 (by decide) ?_
          exact am_zret1 dX7_isTold_44
theorem CX7_isTold (G : am_G) (a0 : Nat) (a1 : Nat) (a2 : Int32) (a3 : Int32) (M : am_M) (h_a0 : am_sh M a0 11) (h_a1 : am_sh M a1 9) : am_C am_ei G 1 yX7_isTold cX7_isTold 5 (some FieldType.boolean) [.ref a0, .ref a1, .int a2, .int a3] M (fX7_isTold a0 a1 a2 a3 M) :=
  am_meth (by decide) rfl (Nat.le_of_ble_eq_true rfl) (sX7_isTold_0 G a0 a1 a2 a3 M h_a0 h_a1)
