def fX8_init_13 (s0 : Nat) (s1 : Nat) (M : am_M) : Option am_M := some (am_pR M s1 0 (some s0))
def fX8_init (a0 : Nat) (M : am_M) : Option am_M := fX8_init_13 (am_n M) a0 (am_mna M 7 13)
set_option maxRecDepth 100000 in
set_option maxHeartbeats 4000000 in
theorem sX8_init_13 (G : am_G) (s0 : Nat) (s1 : Nat) (M : am_M) (h_s0 : am_sh M s0 4) (h_s1 : am_sh M s1 12) : am_S am_ev G 1 yX8_init.cls yX8_init.name cX8_init 1 none 13 [] [.ref s0, .ref s1] M (fX8_init_13 s0 s1 M) := by
  show am_S am_ev G 1 yX8_init.cls yX8_init.name cX8_init 1 none 13 [] [.ref s0, .ref s1] M (some (am_pR M s1 0 (some s0)))
  refine am_putFR 7 dX8_init_13 fl_RX8_11 h_s1 rfl h_s0 rfl rfl rfl ?_
  exact am_vret dX8_init_16
set_option maxRecDepth 100000 in
set_option maxHeartbeats 4000000 in
theorem sX8_init_0 (G : am_G) (a0 : Nat) (M : am_M) (h_a0 : am_sh M a0 12) : am_S am_ev G 1 yX8_init.cls yX8_init.name cX8_init 1 none 0 [(0, .ref a0)] [] M (fX8_init a0 M) := by
  show am_S am_ev G 1 yX8_init.cls yX8_init.name cX8_init 1 none 0 [(0, .ref a0)] [] M (fX8_init_13 (am_n M) a0 (am_mna M 7 13))
  refine am_aload_n 0 dX8_init_0 rfl rfl ?_
  refine am_obj dX8_init_1 ⟨ml_RX8_3, oc_im, oc_code⟩ (by decide) (Nat.le_of_ble_eq_true rfl) ?_
  refine am_aload_n 0 dX8_init_4 rfl rfl ?_
  refine am_bipush (x := 7) dX8_init_5 (by decide) ?_
  refine am_bipush (x := 13) dX8_init_7 (by decide) ?_
  refine am_mnaI 7 13 dX8_init_9 cl_RX8_9 ac_int (by decide) (by decide) (by decide) (by decide) (by decide) (by decide) ?_
  refine am_sub [] rfl ?_
  exact sX8_init_13 G (am_n M) a0 (am_mna M 7 13) (am_sh_mna _ _ _) (am_sh.mono (am_le_mna _ _ _) h_a0)
theorem CX8_init (G : am_G) (a0 : Nat) (M : am_M) (h_a0 : am_sh M a0 12) : am_C am_ev G 1 yX8_init cX8_init 1 none [.ref a0] M (fX8_init a0 M) :=
  am_meth (by decide) rfl (Nat.le_of_ble_eq_true rfl) (sX8_init_0 G a0 M h_a0)
def fX0_init_52 (s0 : Nat) (s1 : Nat) (M : am_M) : Option am_M := (fX8_init s0 M).bind fun M22 => some (am_pR M22 s1 4 (some s0))
def fX0_init_41 (x0 : Nat) (s0 : Nat) (s1 : Nat) (M : am_M) : Option am_M := (fX2_init s0 M).bind fun M17 => fX0_init_52 (am_n (am_pR M17 s1 3 (some s0))) x0 (am_new (am_pR M17 s1 3 (some s0)) (5 + 7) (am_N 7))
def fX0_init_30 (x0 : Nat) (s0 : Nat) (s1 : Nat) (M : am_M) : Option am_M := (fX3_init s0 M).bind fun M12 => fX0_init_41 x0 (am_n (am_pR M12 s1 2 (some s0))) x0 (am_new (am_pR M12 s1 2 (some s0)) (5 + 1) (am_N 1))
def fX0_init_19 (x0 : Nat) (s0 : Nat) (s1 : Nat) (M : am_M) : Option am_M := (fX3_init s0 M).bind fun M7 => fX0_init_30 x0 (am_n (am_pR M7 s1 1 (some s0))) x0 (am_new (am_pR M7 s1 1 (some s0)) (5 + 2) (am_N 2))
def fX0_init_8 (x0 : Nat) (s0 : Nat) (s1 : Nat) (M : am_M) : Option am_M := (fX3_init s0 M).bind fun M2 => fX0_init_19 x0 (am_n (am_pR M2 s1 0 (some s0))) x0 (am_new (am_pR M2 s1 0 (some s0)) (5 + 2) (am_N 2))
def fX0_init (a0 : Nat) (M : am_M) : Option am_M := fX0_init_8 a0 (am_n M) a0 (am_new M (5 + 2) (am_N 2))
set_option maxRecDepth 100000 in
set_option maxHeartbeats 4000000 in
theorem sX0_init_52 (G : am_G) (s0 : Nat) (s1 : Nat) (M : am_M) (h_s0 : am_sh M s0 12) (h_s1 : am_sh M s1 5) : am_S am_ev G 2 yX0_init.cls yX0_init.name cX0_init 1 none 52 [] [.ref s0, .ref s1] M (fX0_init_52 s0 s1 M) := by
  show am_S am_ev G 2 yX0_init.cls yX0_init.name cX0_init 1 none 52 [] [.ref s0, .ref s1] M ((fX8_init s0 M).bind fun M22 => some (am_pR M22 s1 4 (some s0)))
  refine am_dup dX0_init_52 rfl ?_
  refine am_callINv [] RX9 (CX8_init G s0 M h_s0) dX0_init_53 mb_yX8_init ⟨mn_RX0_33, im_yX8_init⟩ rfl (by decide) rfl rfl (Nat.le_of_ble_eq_true rfl) (fun M22 q21 w24 l23 => ?_)
  refine am_putFR 0 dX0_init_56 fl_RX0_34 (am_sh.mono l23 h_s1) rfl (am_sh.mono l23 h_s0) rfl rfl rfl ?_
  exact am_vret dX0_init_59
set_option maxRecDepth 100000 in
set_option maxHeartbeats 4000000 in
theorem sX0_init_41 (G : am_G) (x0 : Nat) (s0 : Nat) (s1 : Nat) (M : am_M) (h_x0 : am_sh M x0 5) (h_s0 : am_sh M s0 6) (h_s1 : am_sh M s1 5) : am_S am_ev G 2 yX0_init.cls yX0_init.name cX0_init 1 none 41 [(0, .ref x0)] [.ref s0, .ref s1] M (fX0_init_41 x0 s0 s1 M) := by
  show am_S am_ev G 2 yX0_init.cls yX0_init.name cX0_init 1 none 41 [(0, .ref x0)] [.ref s0, .ref s1] M ((fX2_init s0 M).bind fun M17 => fX0_init_52 (am_n (am_pR M17 s1 3 (some s0))) x0 (am_new (am_pR M17 s1 3 (some s0)) (5 + 7) (am_N 7)))
  refine am_dup dX0_init_41 rfl ?_
  refine am_callINv [] RX9 (CX2_init G s0 M h_s0) dX0_init_42 mb_yX2_init ⟨mn_RX0_26, im_yX2_init⟩ rfl (by decide) rfl rfl (Nat.le_of_ble_eq_true rfl) (fun M17 q16 w19 l18 => ?_)
  refine am_putFR 0 dX0_init_45 fl_RX0_27 (am_sh.mono l18 h_s1) rfl (am_sh.mono l18 h_s0) rfl rfl rfl ?_
  refine am_aload_n 0 dX0_init_48 rfl rfl ?_
  refine am_newO 7 dX0_init_49 am_cf_7 am_ok_7 ⟨cl_RX0_31, ib_7, iz_7⟩ ?_
  refine am_sub [] rfl ?_
  exact sX0_init_52 G (am_n (am_pR M17 s1 3 (some s0))) x0 (am_new (am_pR M17 s1 3 (some s0)) (5 + 7) (am_N 7)) (am_sh_new _ _ _) (am_sh.mono (am_le_new _ _ _) (am_sh.of (am_sh.mono l18 h_x0) rfl))
set_option maxRecDepth 100000 in
set_option maxHeartbeats 4000000 in
theorem sX0_init_30 (G : am_G) (x0 : Nat) (s0 : Nat) (s1 : Nat) (M : am_M) (h_x0 : am_sh M x0 5) (h_s0 : am_sh M s0 7) (h_s1 : am_sh M s1 5) : am_S am_ev G 2 yX0_init.cls yX0_init.name cX0_init 1 none 30 [(0, .ref x0)] [.ref s0, .ref s1] M (fX0_init_30 x0 s0 s1 M) := by
  show am_S am_ev G 2 yX0_init.cls yX0_init.name cX0_init 1 none 30 [(0, .ref x0)] [.ref s0, .ref s1] M ((fX3_init s0 M).bind fun M12 => fX0_init_41 x0 (am_n (am_pR M12 s1 2 (some s0))) x0 (am_new (am_pR M12 s1 2 (some s0)) (5 + 1) (am_N 1)))
  refine am_dup dX0_init_30 rfl ?_
  refine am_callINv [] RX9 (CX3_init G s0 M h_s0) dX0_init_31 mb_yX3_init ⟨mn_RX0_11, im_yX3_init⟩ rfl (by decide) rfl rfl (Nat.le_of_ble_eq_true rfl) (fun M12 q11 w14 l13 => ?_)
  refine am_putFR 0 dX0_init_34 fl_RX0_21 (am_sh.mono l13 h_s1) rfl (am_sh.mono l13 h_s0) rfl rfl rfl ?_
  refine am_aload_n 0 dX0_init_37 rfl rfl ?_
  refine am_newO 1 dX0_init_38 am_cf_1 am_ok_1 ⟨cl_RX0_24, ib_1, iz_1⟩ ?_
  exact sX0_init_41 G x0 (am_n (am_pR M12 s1 2 (some s0))) x0 (am_new (am_pR M12 s1 2 (some s0)) (5 + 1) (am_N 1)) (am_sh.mono (am_le_new _ _ _) (am_sh.of (am_sh.mono l13 h_x0) rfl)) (am_sh_new _ _ _) (am_sh.mono (am_le_new _ _ _) (am_sh.of (am_sh.mono l13 h_x0) rfl))
set_option maxRecDepth 100000 in
set_option maxHeartbeats 4000000 in
theorem sX0_init_19 (G : am_G) (x0 : Nat) (s0 : Nat) (s1 : Nat) (M : am_M) (h_x0 : am_sh M x0 5) (h_s0 : am_sh M s0 7) (h_s1 : am_sh M s1 5) : am_S am_ev G 2 yX0_init.cls yX0_init.name cX0_init 1 none 19 [(0, .ref x0)] [.ref s0, .ref s1] M (fX0_init_19 x0 s0 s1 M) := by
  show am_S am_ev G 2 yX0_init.cls yX0_init.name cX0_init 1 none 19 [(0, .ref x0)] [.ref s0, .ref s1] M ((fX3_init s0 M).bind fun M7 => fX0_init_30 x0 (am_n (am_pR M7 s1 1 (some s0))) x0 (am_new (am_pR M7 s1 1 (some s0)) (5 + 2) (am_N 2)))
  refine am_dup dX0_init_19 rfl ?_
  refine am_callINv [] RX9 (CX3_init G s0 M h_s0) dX0_init_20 mb_yX3_init ⟨mn_RX0_11, im_yX3_init⟩ rfl (by decide) rfl rfl (Nat.le_of_ble_eq_true rfl) (fun M7 q6 w9 l8 => ?_)
  refine am_putFR 0 dX0_init_23 fl_RX0_18 (am_sh.mono l8 h_s1) rfl (am_sh.mono l8 h_s0) rfl rfl rfl ?_
  refine am_aload_n 0 dX0_init_26 rfl rfl ?_
  refine am_newO 2 dX0_init_27 am_cf_2 am_ok_2 ⟨cl_RX0_9, ib_2, iz_2⟩ ?_
  exact sX0_init_30 G x0 (am_n (am_pR M7 s1 1 (some s0))) x0 (am_new (am_pR M7 s1 1 (some s0)) (5 + 2) (am_N 2)) (am_sh.mono (am_le_new _ _ _) (am_sh.of (am_sh.mono l8 h_x0) rfl)) (am_sh_new _ _ _) (am_sh.mono (am_le_new _ _ _) (am_sh.of (am_sh.mono l8 h_x0) rfl))
set_option maxRecDepth 100000 in
set_option maxHeartbeats 4000000 in
theorem sX0_init_8 (G : am_G) (x0 : Nat) (s0 : Nat) (s1 : Nat) (M : am_M) (h_x0 : am_sh M x0 5) (h_s0 : am_sh M s0 7) (h_s1 : am_sh M s1 5) : am_S am_ev G 2 yX0_init.cls yX0_init.name cX0_init 1 none 8 [(0, .ref x0)] [.ref s0, .ref s1] M (fX0_init_8 x0 s0 s1 M) := by
  show am_S am_ev G 2 yX0_init.cls yX0_init.name cX0_init 1 none 8 [(0, .ref x0)] [.ref s0, .ref s1] M ((fX3_init s0 M).bind fun M2 => fX0_init_19 x0 (am_n (am_pR M2 s1 0 (some s0))) x0 (am_new (am_pR M2 s1 0 (some s0)) (5 + 2) (am_N 2)))
  refine am_dup dX0_init_8 rfl ?_
  refine am_callINv [] RX9 (CX3_init G s0 M h_s0) dX0_init_9 mb_yX3_init ⟨mn_RX0_11, im_yX3_init⟩ rfl (by decide) rfl rfl (Nat.le_of_ble_eq_true rfl) (fun M2 q1 w4 l3 => ?_)
  refine am_putFR 0 dX0_init_12 fl_RX0_12 (am_sh.mono l3 h_s1) rfl (am_sh.mono l3 h_s0) rfl rfl rfl ?_
  refine am_aload_n 0 dX0_init_15 rfl rfl ?_
  refine am_newO 2 dX0_init_16 am_cf_2 am_ok_2 ⟨cl_RX0_9, ib_2, iz_2⟩ ?_
  exact sX0_init_19 G x0 (am_n (am_pR M2 s1 0 (some s0))) x0 (am_new (am_pR M2 s1 0 (some s0)) (5 + 2) (am_N 2)) (am_sh.mono (am_le_new _ _ _) (am_sh.of (am_sh.mono l3 h_x0) rfl)) (am_sh_new _ _ _) (am_sh.mono (am_le_new _ _ _) (am_sh.of (am_sh.mono l3 h_x0) rfl))
set_option maxRecDepth 100000 in
set_option maxHeartbeats 4000000 in
theorem sX0_init_0 (G : am_G) (a0 : Nat) (M : am_M) (h_a0 : am_sh M a0 5) : am_S am_ev G 2 yX0_init.cls yX0_init.name cX0_init 1 none 0 [(0, .ref a0)] [] M (fX0_init a0 M) := by
  show am_S am_ev G 2 yX0_init.cls yX0_init.name cX0_init 1 none 0 [(0, .ref a0)] [] M (fX0_init_8 a0 (am_n M) a0 (am_new M (5 + 2) (am_N 2)))
  refine am_aload_n 0 dX0_init_0 rfl rfl ?_
  refine am_obj dX0_init_1 ⟨ml_RX0_3, oc_im, oc_code⟩ (by decide) (Nat.le_of_ble_eq_true rfl) ?_
  refine am_aload_n 0 dX0_init_4 rfl rfl ?_
  refine am_newO 2 dX0_init_5 am_cf_2 am_ok_2 ⟨cl_RX0_9, ib_2, iz_2⟩ ?_
  exact sX0_init_8 G a0 (am_n M) a0 (am_new M (5 + 2) (am_N 2)) (am_sh.mono (am_le_new _ _ _) h_a0) (am_sh_new _ _ _) (am_sh.mono (am_le_new _ _ _) h_a0)
theorem CX0_init (G : am_G) (a0 : Nat) (M : am_M) (h_a0 : am_sh M a0 5) : am_C am_ev G 2 yX0_init cX0_init 1 none [.ref a0] M (fX0_init a0 M) :=
  am_meth (by decide) rfl (Nat.le_of_ble_eq_true rfl) (sX0_init_0 G a0 M h_a0)
def fX9_init_50 : ((Nat × Int32 × am_M) → Option am_M) → (Nat × Int32 × am_M) → Option am_M := fun k50 q0 => match q0 with
  | (x0, x1, M) => (fJ0_length M).bind fun p26 => if p26.1 ≤ x1 then (p26.2.2.2.1 x0 0).bind fun r28 => (p26.2.2.2.1 x0 2).bind fun r31 => (fX7_readInto r28 r31 p26.2).bind fun p39 => (p39.2.2.2.1 x0 0).bind fun r40 => (fX7_clear r40 p39.2).bind fun M44 => some M44 else (p26.2.2.2.1 x0 0).bind fun r48 => (fJ0_charAt x1 p26.2).bind fun p56 => (fX7_append r48 p56.1 p56.2).bind fun p62 => k50 (x0, x1 + 1, p62.2)
def fX9_init_41 (x0 : Nat) (s0 : Nat) (s1 : Nat) (M : am_M) : Option am_M := (fX5_init s0 M).bind fun M17 => am_loop (fX9_init_50) 100000 (x0, 0, am_pR M17 s1 3 (some s0))
def fX9_init_30 (x0 : Nat) (s0 : Nat) (s1 : Nat) (M : am_M) : Option am_M := (fX5_init s0 M).bind fun M12 => fX9_init_41 x0 (am_n (am_pR M12 s1 2 (some s0))) x0 (am_new (am_pR M12 s1 2 (some s0)) (5 + 4) (am_N 4))
def fX9_init_19 (x0 : Nat) (s0 : Nat) (s1 : Nat) (M : am_M) : Option am_M := (fX0_init s0 M).bind fun M7 => fX9_init_30 x0 (am_n (am_pR M7 s1 1 (some s0))) x0 (am_new (am_pR M7 s1 1 (some s0)) (5 + 4) (am_N 4))
def fX9_init_8 (x0 : Nat) (s0 : Nat) (s1 : Nat) (M : am_M) : Option am_M := (fX7_init s0 M).bind fun M2 => fX9_init_19 x0 (am_n (am_pR M2 s1 0 (some s0))) x0 (am_new (am_pR M2 s1 0 (some s0)) (5 + 0) (am_N 0))
def fX9_init (a0 : Nat) (M : am_M) : Option am_M := fX9_init_8 a0 (am_n M) a0 (am_new M (5 + 6) (am_N 6))
set_option maxRecDepth 100000 in
set_option maxHeartbeats 4000000 in
theorem sX9_init_50 (G : am_G) (hfm : G.2.2.2.2.2.2.2.2.2 = .null ∨ ∃ t, G.2.2.2.2.2.2.2.2.2 = .retAddr t) (k50 : (Nat × Int32 × am_M) → Option am_M) (hk50 : ∀ q : (Nat × Int32 × am_M), (match q with | (x0, x1, M) => am_sh M x0 13) → match q with | (x0, x1, M) => am_S am_ev G 5 yX9_init.cls yX9_init.name cX9_init 2 none 50 [(0, .ref x0), (1, .int x1)] [] M (k50 (x0, x1, M))) (x0 : Nat) (x1 : Int32) (M : am_M) (h_x0 : am_sh M x0 13) : am_S am_ev G 5 yX9_init.cls yX9_init.name cX9_init 2 none 50 [(0, .ref x0), (1, .int x1)] [] M (fX9_init_50 k50 (x0, x1, M)) := by
  show am_S am_ev G 5 yX9_init.cls yX9_init.name cX9_init 2 none 50 [(0, .ref x0), (1, .int x1)] [] M ((fJ0_length M).bind fun p26 => if p26.1 ≤ x1 then (p26.2.2.2.1 x0 0).bind fun r28 => (p26.2.2.2.1 x0 2).bind fun r31 => (fX7_readInto r28 r31 p26.2).bind fun p39 => (p39.2.2.2.1 x0 0).bind fun r40 => (fX7_clear r40 p39.2).bind fun M44 => some M44 else (p26.2.2.2.1 x0 0).bind fun r48 => (fJ0_charAt x1 p26.2).bind fun p56 => (fX7_append r48 p56.1 p56.2).bind fun p62 => k50 (x0, x1 + 1, p62.2))
  refine am_iload_n 1 dX9_init_50 rfl rfl ?_
  refine am_ldcS rfl dX9_init_51 ?_
  refine am_callRi [] (KJ0_length G M) dX9_init_53 mb_yJ0_length_8abf5 ⟨ml_RX9_35, im_yJ0_length_8abf5, se_yJ0_length_8abf5⟩ rfl (by decide) rfl rfl (Nat.le_of_ble_eq_true rfl) (fun v25 M22 q21 w24 l23 => ?_)
  refine am_icmp_ge (tgt := 79) dX9_init_56 (by decide) (fun c27 => ?_) (fun c27 => ?_)
  · refine am_aload_n 0 dX9_init_79 rfl rfl ?_
    refine am_getR 8 dX9_init_80 fl_RX9_10 (am_sh.mono l23 h_x0) rfl (fun r28 e29 h30 => ?_)
    refine am_aload_n 0 dX9_init_83 rfl rfl ?_
    refine am_getR 8 dX9_init_84 fl_RX9_26 (am_sh.mono l23 h_x0) rfl (fun r31 e32 h33 => ?_)
    refine am_callVi 6 [.ref r31] (CX7_readInto G r28 r31 M22 h30 h33) dX9_init_87 mb_yX7_readInto ⟨ml_RX9_49, im_yX7_readInto, se_yX7_readInto⟩ rfl h30 (by decide) rfl rfl (Nat.le_of_ble_eq_true rfl) (fun v38 M35 q34 w37 l36 => ?_)
    refine am_pop dX9_init_90 rfl ?_
    refine am_aload_n 0 dX9_init_91 rfl rfl ?_
    refine am_getR 8 dX9_init_92 fl_RX9_10 (am_sh.mono l36 (am_sh.mono l23 h_x0)) rfl (fun r40 e41 h42 => ?_)
    refine am_callVv 6 [] (CX7_clear G r40 M35 h42) dX9_init_95 mb_yX7_clear ⟨ml_RX9_53, im_yX7_clear, se_yX7_clear⟩ rfl h42 (by decide) rfl rfl (Nat.le_of_ble_eq_true rfl) (fun M44 q43 w46 l45 => ?_)
    exact am_vret dX9_init_98
  · refine am_aload_n 0 dX9_init_59 rfl rfl ?_
    refine am_getR 8 dX9_init_60 fl_RX9_10 (am_sh.mono l23 h_x0) rfl (fun r48 e49 h50 => ?_)
    refine am_ldcS rfl dX9_init_63 ?_
    refine am_iload_n 1 dX9_init_65 rfl rfl ?_
    refine am_callRi [.int x1] (KJ0_charAt G hfm x1 M22) dX9_init_66 mb_yJ0_charAt_5068e ⟨ml_RX9_41, im_yJ0_charAt_5068e, se_yJ0_charAt_5068e⟩ rfl (by decide) rfl rfl (Nat.le_of_ble_eq_true rfl) (fun v55 M52 q51 w54 l53 => ?_)
    refine am_callVi 6 [.int v55] (CX7_append G r48 v55 M52 (am_sh.mono l53 h50)) dX9_init_69 mb_yX7_append ⟨ml_RX9_45, im_yX7_append, se_yX7_append⟩ rfl (am_sh.mono l53 h50) (by decide) rfl rfl (Nat.le_of_ble_eq_true rfl) (fun v61 M58 q57 w60 l59 => ?_)
    refine am_pop dX9_init_72 rfl ?_
    refine am_iinc (L' := [(1, .int (x1 + 1)), (0, .ref x0)]) 1 dX9_init_73 rfl (by rfl) (by decide) rfl ?_
    refine am_goto (tgt := 50) dX9_init_76 (by decide) ?_
    refine am_sub [1, 0] rfl ?_
    exact hk50 (x0, x1 + 1, M58) (am_sh.mono l59 (am_sh.mono l53 (am_sh.mono l23 h_x0)))
set_option maxRecDepth 100000 in
set_option maxHeartbeats 4000000 in
theorem lX9_init_50 (G : am_G) (hfm : G.2.2.2.2.2.2.2.2.2 = .null ∨ ∃ t, G.2.2.2.2.2.2.2.2.2 = .retAddr t) (n : Nat) (q : (Nat × Int32 × am_M)) (hq : match q with | (x0, x1, M) => am_sh M x0 13) : match q with | (x0, x1, M) => am_S am_ev G 5 yX9_init.cls yX9_init.name cX9_init 2 none 50 [(0, .ref x0), (1, .int x1)] [] M (am_loop (fX9_init_50) n (x0, x1, M)) := by
  exact am_loop_ok (fun q : (Nat × Int32 × am_M) => match q with | (x0, x1, M) => am_sh M x0 13) (fun q X => match q with | (x0, x1, M) => am_S am_ev G 5 yX9_init.cls yX9_init.name cX9_init 2 none 50 [(0, .ref x0), (1, .int x1)] [] M X) (fun _ => am_none) (fun k50 hk50 q hq => match q, hq with | (x0, x1, M), h_x0 => sX9_init_50 G hfm k50 hk50 x0 x1 M h_x0) n q hq
set_option maxRecDepth 100000 in
set_option maxHeartbeats 4000000 in
theorem sX9_init_41 (G : am_G) (hfm : G.2.2.2.2.2.2.2.2.2 = .null ∨ ∃ t, G.2.2.2.2.2.2.2.2.2 = .retAddr t) (x0 : Nat) (s0 : Nat) (s1 : Nat) (M : am_M) (h_x0 : am_sh M x0 13) (h_s0 : am_sh M s0 9) (h_s1 : am_sh M s1 13) : am_S am_ev G 5 yX9_init.cls yX9_init.name cX9_init 2 none 41 [(0, .ref x0)] [.ref s0, .ref s1] M (fX9_init_41 x0 s0 s1 M) := by
  show am_S am_ev G 5 yX9_init.cls yX9_init.name cX9_init 2 none 41 [(0, .ref x0)] [.ref s0, .ref s1] M ((fX5_init s0 M).bind fun M17 => am_loop (fX9_init_50) 100000 (x0, 0, am_pR M17 s1 3 (some s0)))
  refine am_dup dX9_init_41 rfl ?_
  refine am_callIv [] (CX5_init G s0 M h_s0) dX9_init_42 mb_yX5_init ⟨ml_RX9_25, im_yX5_init⟩ rfl (by decide) rfl rfl (Nat.le_of_ble_eq_true rfl) (fun M17 q16 w19 l18 => ?_)
  refine am_putR 8 dX9_init_45 fl_RX9_30 (am_sh.mono l18 h_s1) rfl (am_sh.mono l18 h_s0) rfl ?_
  refine am_iconst dX9_init_48 am_kc_0 ?_
  refine am_istore_n (L' := [(1, .int 0), (0, .ref x0)]) dX9_init_49 rfl (by decide) rfl ?_
  refine am_sub [1, 0] rfl ?_
  exact lX9_init_50 G hfm 100000 (x0, 0, am_pR M17 s1 3 (some s0)) (am_sh.of (am_sh.mono l18 h_x0) rfl)
set_option maxRecDepth 100000 in
set_option maxHeartbeats 4000000 in
theorem sX9_init_30 (G : am_G) (hfm : G.2.2.2.2.2.2.2.2.2 = .null ∨ ∃ t, G.2.2.2.2.2.2.2.2.2 = .retAddr t) (x0 : Nat) (s0 : Nat) (s1 : Nat) (M : am_M) (h_x0 : am_sh M x0 13) (h_s0 : am_sh M s0 9) (h_s1 : am_sh M s1 13) : am_S am_ev G 5 yX9_init.cls yX9_init.name cX9_init 2 none 30 [(0, .ref x0)] [.ref s0, .ref s1] M (fX9_init_30 x0 s0 s1 M) := by
  show am_S am_ev G 5 yX9_init.cls yX9_init.name cX9_init 2 none 30 [(0, .ref x0)] [.ref s0, .ref s1] M ((fX5_init s0 M).bind fun M12 => fX9_init_41 x0 (am_n (am_pR M12 s1 2 (some s0))) x0 (am_new (am_pR M12 s1 2 (some s0)) (5 + 4) (am_N 4)))
  refine am_dup dX9_init_30 rfl ?_
  refine am_callIv [] (CX5_init G s0 M h_s0) dX9_init_31 mb_yX5_init ⟨ml_RX9_25, im_yX5_init⟩ rfl (by decide) rfl rfl (Nat.le_of_ble_eq_true rfl) (fun M12 q11 w14 l13 => ?_)
  refine am_putR 8 dX9_init_34 fl_RX9_26 (am_sh.mono l13 h_s1) rfl (am_sh.mono l13 h_s0) rfl ?_
  refine am_aload_n 0 dX9_init_37 rfl rfl ?_
  refine am_newO 4 dX9_init_38 am_cf_4 am_ok_4 ⟨cl_RX9_23, ib_4, iz_4⟩ ?_
  exact sX9_init_41 G hfm x0 (am_n (am_pR M12 s1 2 (some s0))) x0 (am_new (am_pR M12 s1 2 (some s0)) (5 + 4) (am_N 4)) (am_sh.mono (am_le_new _ _ _) (am_sh.of (am_sh.mono l13 h_x0) rfl)) (am_sh_new _ _ _) (am_sh.mono (am_le_new _ _ _) (am_sh.of (am_sh.mono l13 h_x0) rfl))
set_option maxRecDepth 100000 in
set_option maxHeartbeats 4000000 in
theorem sX9_init_19 (G : am_G) (hfm : G.2.2.2.2.2.2.2.2.2 = .null ∨ ∃ t, G.2.2.2.2.2.2.2.2.2 = .retAddr t) (x0 : Nat) (s0 : Nat) (s1 : Nat) (M : am_M) (h_x0 : am_sh M x0 13) (h_s0 : am_sh M s0 5) (h_s1 : am_sh M s1 13) : am_S am_ev G 5 yX9_init.cls yX9_init.name cX9_init 2 none 19 [(0, .ref x0)] [.ref s0, .ref s1] M (fX9_init_19 x0 s0 s1 M) := by
  show am_S am_ev G 5 yX9_init.cls yX9_init.name cX9_init 2 none 19 [(0, .ref x0)] [.ref s0, .ref s1] M ((fX0_init s0 M).bind fun M7 => fX9_init_30 x0 (am_n (am_pR M7 s1 1 (some s0))) x0 (am_new (am_pR M7 s1 1 (some s0)) (5 + 4) (am_N 4)))
  refine am_dup dX9_init_19 rfl ?_
  refine am_callINv [] RX9 (CX0_init G s0 M h_s0) dX9_init_20 mb_yX0_init ⟨mn_RX9_18, im_yX0_init⟩ rfl (by decide) rfl rfl (Nat.le_of_ble_eq_true rfl) (fun M7 q6 w9 l8 => ?_)
  refine am_putFR 8 dX9_init_23 fl_RX9_19 (am_sh.mono l8 h_s1) rfl (am_sh.mono l8 h_s0) rfl rfl rfl ?_
  refine am_aload_n 0 dX9_init_26 rfl rfl ?_
  refine am_newO 4 dX9_init_27 am_cf_4 am_ok_4 ⟨cl_RX9_23, ib_4, iz_4⟩ ?_
  exact sX9_init_30 G hfm x0 (am_n (am_pR M7 s1 1 (some s0))) x0 (am_new (am_pR M7 s1 1 (some s0)) (5 + 4) (am_N 4)) (am_sh.mono (am_le_new _ _ _) (am_sh.of (am_sh.mono l8 h_x0) rfl)) (am_sh_new _ _ _) (am_sh.mono (am_le_new _ _ _) (am_sh.of (am_sh.mono l8 h_x0) rfl))
set_option maxRecDepth 100000 in
set_option maxHeartbeats 4000000 in
theorem sX9_init_8 (G : am_G) (hfm : G.2.2.2.2.2.2.2.2.2 = .null ∨ ∃ t, G.2.2.2.2.2.2.2.2.2 = .retAddr t) (x0 : Nat) (s0 : Nat) (s1 : Nat) (M : am_M) (h_x0 : am_sh M x0 13) (h_s0 : am_sh M s0 11) (h_s1 : am_sh M s1 13) : am_S am_ev G 5 yX9_init.cls yX9_init.name cX9_init 2 none 8 [(0, .ref x0)] [.ref s0, .ref s1] M (fX9_init_8 x0 s0 s1 M) := by
  show am_S am_ev G 5 yX9_init.cls yX9_init.name cX9_init 2 none 8 [(0, .ref x0)] [.ref s0, .ref s1] M ((fX7_init s0 M).bind fun M2 => fX9_init_19 x0 (am_n (am_pR M2 s1 0 (some s0))) x0 (am_new (am_pR M2 s1 0 (some s0)) (5 + 0) (am_N 0)))
  refine am_dup dX9_init_8 rfl ?_
  refine am_callINv [] RX9 (CX7_init G s0 M h_s0) dX9_init_9 mb_yX7_init ⟨mn_RX9_9, im_yX7_init⟩ rfl (by decide) rfl rfl (Nat.le_of_ble_eq_true rfl) (fun M2 q1 w4 l3 => ?_)
  refine am_putFR 8 dX9_init_12 fl_RX9_10 (am_sh.mono l3 h_s1) rfl (am_sh.mono l3 h_s0) rfl rfl rfl ?_
  refine am_aload_n 0 dX9_init_15 rfl rfl ?_
  refine am_newO 0 dX9_init_16 am_cf_0 am_ok_0 ⟨cl_RX9_16, ib_0, iz_0⟩ ?_
  exact sX9_init_19 G hfm x0 (am_n (am_pR M2 s1 0 (some s0))) x0 (am_new (am_pR M2 s1 0 (some s0)) (5 + 0) (am_N 0)) (am_sh.mono (am_le_new _ _ _) (am_sh.of (am_sh.mono l3 h_x0) rfl)) (am_sh_new _ _ _) (am_sh.mono (am_le_new _ _ _) (am_sh.of (am_sh.mono l3 h_x0) rfl))
set_option maxRecDepth 100000 in
set_option maxHeartbeats 4000000 in
theorem sX9_init_0 (G : am_G) (hfm : G.2.2.2.2.2.2.2.2.2 = .null ∨ ∃ t, G.2.2.2.2.2.2.2.2.2 = .retAddr t) (a0 : Nat) (M : am_M) (h_a0 : am_sh M a0 13) : am_S am_ev G 5 yX9_init.cls yX9_init.name cX9_init 2 none 0 [(0, .ref a0)] [] M (fX9_init a0 M) := by
  show am_S am_ev G 5 yX9_init.cls yX9_init.name cX9_init 2 none 0 [(0, .ref a0)] [] M (fX9_init_8 a0 (am_n M) a0 (am_new M (5 + 6) (am_N 6)))
  refine am_aload_n 0 dX9_init_0 rfl rfl ?_
  refine am_obj dX9_init_1 ⟨ml_RX9_1, oc_im, oc_code⟩ (by decide) (Nat.le_of_ble_eq_true rfl) ?_
  refine am_aload_n 0 dX9_init_4 rfl rfl ?_
  refine am_newO 6 dX9_init_5 am_cf_6 am_ok_6 ⟨cl_RX9_7, ib_6, iz_6⟩ ?_
  exact sX9_init_8 G hfm a0 (am_n M) a0 (am_new M (5 + 6) (am_N 6)) (am_sh.mono (am_le_new _ _ _) h_a0) (am_sh_new _ _ _) (am_sh.mono (am_le_new _ _ _) h_a0)
theorem CX9_init (G : am_G) (hfm : G.2.2.2.2.2.2.2.2.2 = .null ∨ ∃ t, G.2.2.2.2.2.2.2.2.2 = .retAddr t) (a0 : Nat) (M : am_M) (h_a0 : am_sh M a0 13) : am_C am_ev G 5 yX9_init cX9_init 2 none [.ref a0] M (fX9_init a0 M) :=
  am_meth (by decide) rfl (Nat.le_of_ble_eq_true rfl) (sX9_init_0 G hfm a0 M h_a0)
