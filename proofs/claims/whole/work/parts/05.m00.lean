def fX3_init_9 (s0 : Nat) (s1 : Nat) (M : am_M) : Option am_M := some (am_pR M s1 0 (some s0))
def fX3_init (a0 : Nat) (M : am_M) : Option am_M := fX3_init_9 (am_n M) a0 (am_new M 1 64)
set_option maxRecDepth 100000 in
set_option maxHeartbeats 4000000 in
theorem sX3_init_9 (G : am_G) (s0 : Nat) (s1 : Nat) (M : am_M) (h_s0 : am_sh M s0 1) (h_s1 : am_sh M s1 7) : am_S am_ev G 1 yX3_init.cls yX3_init.name cX3_init 1 none 9 [] [.ref s0, .ref s1] M (fX3_init_9 s0 s1 M) := by
  show am_S am_ev G 1 yX3_init.cls yX3_init.name cX3_init 1 none 9 [] [.ref s0, .ref s1] M (some (am_pR M s1 0 (some s0)))
  refine am_putFR 2 dX3_init_9 fl_RX3_9 h_s1 rfl h_s0 rfl rfl rfl ?_
  exact am_vret dX3_init_12
set_option maxRecDepth 100000 in
set_option maxHeartbeats 4000000 in
theorem sX3_init_0 (G : am_G) (a0 : Nat) (M : am_M) (h_a0 : am_sh M a0 7) : am_S am_ev G 1 yX3_init.cls yX3_init.name cX3_init 1 none 0 [(0, .ref a0)] [] M (fX3_init a0 M) := by
  show am_S am_ev G 1 yX3_init.cls yX3_init.name cX3_init 1 none 0 [(0, .ref a0)] [] M (fX3_init_9 (am_n M) a0 (am_new M 1 64))
  refine am_aload_n 0 dX3_init_0 rfl rfl ?_
  refine am_obj dX3_init_1 ⟨ml_RX3_3, oc_im, oc_code⟩ (by decide) (Nat.le_of_ble_eq_true rfl) ?_
  refine am_aload_n 0 dX3_init_4 rfl rfl ?_
  refine am_bipush (x := 64) dX3_init_5 (by decide) ?_
  refine am_newaJ 64 dX3_init_7 ac_long (by decide) (by decide) (by decide) ?_
  refine am_sub [] rfl ?_
  exact sX3_init_9 G (am_n M) a0 (am_new M 1 64) (am_sh_new _ _ _) (am_sh.mono (am_le_new _ _ _) h_a0)
theorem CX3_init (G : am_G) (a0 : Nat) (M : am_M) (h_a0 : am_sh M a0 7) : am_C am_ev G 1 yX3_init cX3_init 1 none [.ref a0] M (fX3_init a0 M) :=
  am_meth (by decide) rfl (Nat.le_of_ble_eq_true rfl) (sX3_init_0 G a0 M h_a0)
def fX2_init_9 (s0 : Nat) (s1 : Nat) (M : am_M) : Option am_M := some (am_pR M s1 0 (some s0))
def fX2_init (a0 : Nat) (M : am_M) : Option am_M := fX2_init_9 (am_n M) a0 (am_new M 0 98)
set_option maxRecDepth 100000 in
set_option maxHeartbeats 4000000 in
theorem sX2_init_9 (G : am_G) (s0 : Nat) (s1 : Nat) (M : am_M) (h_s0 : am_sh M s0 0) (h_s1 : am_sh M s1 6) : am_S am_ev G 1 yX2_init.cls yX2_init.name cX2_init 1 none 9 [] [.ref s0, .ref s1] M (fX2_init_9 s0 s1 M) := by
  show am_S am_ev G 1 yX2_init.cls yX2_init.name cX2_init 1 none 9 [] [.ref s0, .ref s1] M (some (am_pR M s1 0 (some s0)))
  refine am_putFR 1 dX2_init_9 fl_RX2_9 h_s1 rfl h_s0 rfl rfl rfl ?_
  exact am_vret dX2_init_12
set_option maxRecDepth 100000 in
set_option maxHeartbeats 4000000 in
theorem sX2_init_0 (G : am_G) (a0 : Nat) (M : am_M) (h_a0 : am_sh M a0 6) : am_S am_ev G 1 yX2_init.cls yX2_init.name cX2_init 1 none 0 [(0, .ref a0)] [] M (fX2_init a0 M) := by
  show am_S am_ev G 1 yX2_init.cls yX2_init.name cX2_init 1 none 0 [(0, .ref a0)] [] M (fX2_init_9 (am_n M) a0 (am_new M 0 98))
  refine am_aload_n 0 dX2_init_0 rfl rfl ?_
  refine am_obj dX2_init_1 ⟨ml_RX2_3, oc_im, oc_code⟩ (by decide) (Nat.le_of_ble_eq_true rfl) ?_
  refine am_aload_n 0 dX2_init_4 rfl rfl ?_
  refine am_bipush (x := 98) dX2_init_5 (by decide) ?_
  refine am_newaI 98 dX2_init_7 ac_int (by decide) (by decide) (by decide) ?_
  refine am_sub [] rfl ?_
  exact sX2_init_9 G (am_n M) a0 (am_new M 0 98) (am_sh_new _ _ _) (am_sh.mono (am_le_new _ _ _) h_a0)
theorem CX2_init (G : am_G) (a0 : Nat) (M : am_M) (h_a0 : am_sh M a0 6) : am_C am_ev G 1 yX2_init cX2_init 1 none [.ref a0] M (fX2_init a0 M) :=
  am_meth (by decide) rfl (Nat.le_of_ble_eq_true rfl) (sX2_init_0 G a0 M h_a0)
def fX0_forget (a0 : Nat) (M : am_M) : Option am_M := some (am_pI (am_pI M a0 5 0) a0 6 0)
set_option maxRecDepth 100000 in
set_option maxHeartbeats 4000000 in
theorem sX0_forget_0 (G : am_G) (a0 : Nat) (M : am_M) (h_a0 : am_sh M a0 5) : am_S am_ev G 0 yX0_forget.cls yX0_forget.name cX0_forget 1 none 0 [(0, .ref a0)] [] M (fX0_forget a0 M) := by
  show am_S am_ev G 0 yX0_forget.cls yX0_forget.name cX0_forget 1 none 0 [(0, .ref a0)] [] M (some (am_pI (am_pI M a0 5 0) a0 6 0))
  refine am_aload_n 0 dX0_forget_0 rfl rfl ?_
  refine am_iconst dX0_forget_1 am_kc_0 ?_
  refine am_putI 0 dX0_forget_2 fl_RX0_38 h_a0 rfl rfl rfl rfl ?_
  refine am_aload_n 0 dX0_forget_5 rfl rfl ?_
  refine am_iconst dX0_forget_6 am_kc_0 ?_
  refine am_putI 0 dX0_forget_7 fl_RX0_42 (am_sh.of h_a0 rfl) rfl rfl rfl rfl ?_
  exact am_vret dX0_forget_10
theorem CX0_forget (G : am_G) (a0 : Nat) (M : am_M) (h_a0 : am_sh M a0 5) : am_C am_ev G 0 yX0_forget cX0_forget 1 none [.ref a0] M (fX0_forget a0 M) :=
  am_meth (by decide) rfl (Nat.le_of_ble_eq_true rfl) (sX0_forget_0 G a0 M h_a0)
def fX0_keysOf (a0 : Nat) (a1 : Int32) (M : am_M) : Option (Nat × am_M) := if a1 = 0 then (M.2.2.1 a0 1).bind fun r5 => some (r5, M) else (M.2.2.1 a0 2).bind fun r2 => some (r2, M)
set_option maxRecDepth 100000 in
set_option maxHeartbeats 4000000 in
theorem sX0_keysOf_0 (G : am_G) (a0 : Nat) (a1 : Int32) (M : am_M) (h_a0 : am_sh M a0 5) : am_S am_er G 0 yX0_keysOf.cls yX0_keysOf.name cX0_keysOf 2 (some (FieldType.object "QuadKeys$KeySet")) 0 [(0, .ref a0), (1, .int a1)] [] M (fX0_keysOf a0 a1 M) := by
  show am_S am_er G 0 yX0_keysOf.cls yX0_keysOf.name cX0_keysOf 2 (some (FieldType.object "QuadKeys$KeySet")) 0 [(0, .ref a0), (1, .int a1)] [] M (if a1 = 0 then (M.2.2.1 a0 1).bind fun r5 => some (r5, M) else (M.2.2.1 a0 2).bind fun r2 => some (r2, M))
  refine am_iload_n 1 dX0_keysOf_0 rfl rfl ?_
  refine am_if_ne (tgt := 11) dX0_keysOf_1 (by decide) (fun c1 => ?_) (fun c1 => ?_)
  · refine am_aload_n 0 dX0_keysOf_11 rfl rfl ?_
    refine am_getR 0 dX0_keysOf_12 fl_RX0_21 h_a0 rfl (fun r2 e3 h4 => ?_)
    exact am_aret (Or.inl ⟨_, rfl⟩) dX0_keysOf_15
  · refine am_aload_n 0 dX0_keysOf_4 rfl rfl ?_
    refine am_getR 0 dX0_keysOf_5 fl_RX0_18 h_a0 rfl (fun r5 e6 h7 => ?_)
    refine am_goto (tgt := 15) dX0_keysOf_8 (by decide) ?_
    exact am_aret (Or.inl ⟨_, rfl⟩) dX0_keysOf_15
theorem CX0_keysOf (G : am_G) (a0 : Nat) (a1 : Int32) (M : am_M) (h_a0 : am_sh M a0 5) : am_C am_er G 0 yX0_keysOf cX0_keysOf 2 (some (FieldType.object "QuadKeys$KeySet")) [.ref a0, .int a1] M (fX0_keysOf a0 a1 M) :=
  am_meth (by decide) rfl (Nat.le_of_ble_eq_true rfl) (sX0_keysOf_0 G a0 a1 M h_a0)
theorem fX0_keysOf_sh {a0 : Nat} {a1 : Int32} {M M1 : am_M} {x : Nat} (h0 : am_sh M a0 5) (hw : am_wt M) (hh : fX0_keysOf a0 a1 M = some (x, M1)) : am_sh M1 x 7 := by
  unfold fX0_keysOf at hh
  split at hh
  · cases hr : M.2.2.1 a0 1 with
    | none => rw [hr] at hh; cases hh
    | some r => rw [hr] at hh; cases hh; exact hw.rf h0 hr
  · cases hr : M.2.2.1 a0 2 with
    | none => rw [hr] at hh; cases hh
    | some r => rw [hr] at hh; cases hh; exact hw.rf h0 hr
def fJ7_fill_d0a16_6 : ((Nat × Int64 × Int32 × Int32 × am_M) → Option am_M) → (Nat × Int64 × Int32 × Int32 × am_M) → Option am_M := fun k6 q0 => match q0 with
  | (x0, x1, x3, x4, M) => if x4 ≤ x3 then some M else if x3 < 0 ∨ am_len M x0 ≤ x3.toNatClampNeg then none else k6 (x0, x1, x3 + 1, x4, am_pJ M x0 x3.toNatClampNeg x1)
def fJ7_fill_d0a16 (a0 : Nat) (a1 : Int64) (M : am_M) : Option am_M := am_loop (fJ7_fill_d0a16_6) 100000 (a0, a1, 0, Int32.ofNat (am_len M a0), M)
set_option maxRecDepth 100000 in
set_option maxHeartbeats 4000000 in
theorem sJ7_fill_d0a16_6 (G : am_G) (k6 : (Nat × Int64 × Int32 × Int32 × am_M) → Option am_M) (hk6 : ∀ q : (Nat × Int64 × Int32 × Int32 × am_M), (match q with | (x0, x1, x3, x4, M) => am_sh M x0 1) → match q with | (x0, x1, x3, x4, M) => am_S am_ev G 0 yJ7_fill_d0a16.cls yJ7_fill_d0a16.name cJ7_fill_d0a16 5 none 6 [(0, .ref x0), (1, .long x1), (3, .int x3), (4, .int x4)] [] M (k6 (x0, x1, x3, x4, M))) (x0 : Nat) (x1 : Int64) (x3 : Int32) (x4 : Int32) (M : am_M) (h_x0 : am_sh M x0 1) : am_S am_ev G 0 yJ7_fill_d0a16.cls yJ7_fill_d0a16.name cJ7_fill_d0a16 5 none 6 [(0, .ref x0), (1, .long x1), (3, .int x3), (4, .int x4)] [] M (fJ7_fill_d0a16_6 k6 (x0, x1, x3, x4, M)) := by
  show am_S am_ev G 0 yJ7_fill_d0a16.cls yJ7_fill_d0a16.name cJ7_fill_d0a16 5 none 6 [(0, .ref x0), (1, .long x1), (3, .int x3), (4, .int x4)] [] M (if x4 ≤ x3 then some M else if x3 < 0 ∨ am_len M x0 ≤ x3.toNatClampNeg then none else k6 (x0, x1, x3 + 1, x4, am_pJ M x0 x3.toNatClampNeg x1))
  refine am_iload_n 2 dJ7_fill_d0a16_6 rfl rfl ?_
  refine am_iload 3 dJ7_fill_d0a16_7 rfl ?_
  refine am_icmp_ge (tgt := 22) dJ7_fill_d0a16_9 (by decide) (fun c1 => ?_) (fun c1 => ?_)
  · exact am_vret dJ7_fill_d0a16_22
  · refine am_aload_n 0 dJ7_fill_d0a16_12 rfl rfl ?_
    refine am_iload_n 2 dJ7_fill_d0a16_13 rfl rfl ?_
    refine am_lload_n 1 dJ7_fill_d0a16_14 rfl rfl ?_
    refine am_last dJ7_fill_d0a16_15 h_x0 (fun b2 => ?_)
    refine am_iinc (L' := [(3, .int (x3 + 1)), (0, .ref x0), (1, .long x1), (4, .int x4)]) 2 dJ7_fill_d0a16_16 rfl (by rfl) (by decide) rfl ?_
    refine am_goto (tgt := 6) dJ7_fill_d0a16_19 (by decide) ?_
    refine am_sub [1, 2, 0, 3] rfl ?_
    exact hk6 (x0, x1, x3 + 1, x4, am_pJ M x0 x3.toNatClampNeg x1) (am_sh.of h_x0 rfl)
set_option maxRecDepth 100000 in
set_option maxHeartbeats 4000000 in
theorem lJ7_fill_d0a16_6 (G : am_G) (n : Nat) (q : (Nat × Int64 × Int32 × Int32 × am_M)) (hq : match q with | (x0, x1, x3, x4, M) => am_sh M x0 1) : match q with | (x0, x1, x3, x4, M) => am_S am_ev G 0 yJ7_fill_d0a16.cls yJ7_fill_d0a16.name cJ7_fill_d0a16 5 none 6 [(0, .ref x0), (1, .long x1), (3, .int x3), (4, .int x4)] [] M (am_loop (fJ7_fill_d0a16_6) n (x0, x1, x3, x4, M)) := by
  exact am_loop_ok (fun q : (Nat × Int64 × Int32 × Int32 × am_M) => match q with | (x0, x1, x3, x4, M) => am_sh M x0 1) (fun q X => match q with | (x0, x1, x3, x4, M) => am_S am_ev G 0 yJ7_fill_d0a16.cls yJ7_fill_d0a16.name cJ7_fill_d0a16 5 none 6 [(0, .ref x0), (1, .long x1), (3, .int x3), (4, .int x4)] [] M X) (fun _ => am_none) (fun k6 hk6 q hq => match q, hq with | (x0, x1, x3, x4, M), h_x0 => sJ7_fill_d0a16_6 G k6 hk6 x0 x1 x3 x4 M h_x0) n q hq
set_option maxRecDepth 100000 in
set_option maxHeartbeats 4000000 in
theorem sJ7_fill_d0a16_0 (G : am_G) (a0 : Nat) (a1 : Int64) (M : am_M) (h_a0 : am_sh M a0 1) : am_S am_ev G 0 yJ7_fill_d0a16.cls yJ7_fill_d0a16.name cJ7_fill_d0a16 5 none 0 [(0, .ref a0), (1, .long a1)] [] M (fJ7_fill_d0a16 a0 a1 M) := by
  show am_S am_ev G 0 yJ7_fill_d0a16.cls yJ7_fill_d0a16.name cJ7_fill_d0a16 5 none 0 [(0, .ref a0), (1, .long a1)] [] M (am_loop (fJ7_fill_d0a16_6) 100000 (a0, a1, 0, Int32.ofNat (am_len M a0), M))
  refine am_iconst dJ7_fill_d0a16_0 am_kc_0 ?_
  refine am_istore_n (L' := [(3, .int 0), (0, .ref a0), (1, .long a1)]) dJ7_fill_d0a16_1 rfl (by decide) rfl ?_
  refine am_aload_n 1 dJ7_fill_d0a16_2 rfl rfl ?_
  refine am_alen dJ7_fill_d0a16_3 h_a0 (by decide) ?_
  refine am_istore (L' := [(4, .int (Int32.ofNat (am_len M a0))), (3, .int 0), (0, .ref a0), (1, .long a1)]) dJ7_fill_d0a16_4 (by decide) rfl ?_
  refine am_sub [2, 3, 1, 0] rfl ?_
  exact lJ7_fill_d0a16_6 G 100000 (a0, a1, 0, Int32.ofNat (am_len M a0), M) h_a0
theorem CJ7_fill_d0a16 (G : am_G) (a0 : Nat) (a1 : Int64) (M : am_M) (h_a0 : am_sh M a0 1) : am_C am_ev G 0 yJ7_fill_d0a16 cJ7_fill_d0a16 5 none [.ref a0, .long a1] M (fJ7_fill_d0a16 a0 a1 M) :=
  am_meth (by decide) rfl (Nat.le_of_ble_eq_true rfl) (sJ7_fill_d0a16_0 G a0 a1 M h_a0)
def fX3_clear (a0 : Nat) (M : am_M) : Option am_M := (M.2.2.1 a0 0).bind fun r1 => (fJ7_fill_d0a16 r1 0 M).bind fun M5 => some M5
set_option maxRecDepth 100000 in
set_option maxHeartbeats 4000000 in
theorem sX3_clear_0 (G : am_G) (a0 : Nat) (M : am_M) (h_a0 : am_sh M a0 7) : am_S am_ev G 1 yX3_clear.cls yX3_clear.name cX3_clear 1 none 0 [(0, .ref a0)] [] M (fX3_clear a0 M) := by
  show am_S am_ev G 1 yX3_clear.cls yX3_clear.name cX3_clear 1 none 0 [(0, .ref a0)] [] M ((M.2.2.1 a0 0).bind fun r1 => (fJ7_fill_d0a16 r1 0 M).bind fun M5 => some M5)
  refine am_aload_n 0 dX3_clear_0 rfl rfl ?_
  refine am_getR 2 dX3_clear_1 fl_RX3_9 h_a0 rfl (fun r1 e2 h3 => ?_)
  refine am_lconst (x := 0) dX3_clear_4 rfl ?_
  refine am_callSv [.ref r1, .long 0] (CJ7_fill_d0a16 G r1 0 M h3) dX3_clear_5 mb_yJ7_fill_d0a16 ⟨ml_RX3_15, sm_yJ7_fill_d0a16⟩ (by decide) rfl rfl (Nat.le_of_ble_eq_true rfl) (fun M5 q4 w7 l6 => ?_)
  exact am_vret dX3_clear_8
theorem CX3_clear (G : am_G) (a0 : Nat) (M : am_M) (h_a0 : am_sh M a0 7) : am_C am_ev G 1 yX3_clear cX3_clear 1 none [.ref a0] M (fX3_clear a0 M) :=
  am_meth (by decide) rfl (Nat.le_of_ble_eq_true rfl) (sX3_clear_0 G a0 M h_a0)
def fX5_tileSize (a0 : Nat) (a1 : Int32) (M : am_M) : Option (Int32 × am_M) := some (1 <<< ((2 * ((M.1 a0 3) - a1)) &&& 31), M)
set_option maxRecDepth 100000 in
set_option maxHeartbeats 4000000 in
theorem sX5_tileSize_0 (G : am_G) (a0 : Nat) (a1 : Int32) (M : am_M) (h_a0 : am_sh M a0 9) : am_S am_ei G 0 yX5_tileSize.cls yX5_tileSize.name cX5_tileSize 2 (some FieldType.int) 0 [(0, .ref a0), (1, .int a1)] [] M (fX5_tileSize a0 a1 M) := by
  show am_S am_ei G 0 yX5_tileSize.cls yX5_tileSize.name cX5_tileSize 2 (some FieldType.int) 0 [(0, .ref a0), (1, .int a1)] [] M (some (1 <<< ((2 * ((M.1 a0 3) - a1)) &&& 31), M))
  refine am_iconst dX5_tileSize_0 am_kc_1 ?_
  refine am_iconst dX5_tileSize_1 am_kc_2 ?_
  refine am_aload_n 0 dX5_tileSize_2 rfl rfl ?_
  refine am_getI 4 dX5_tileSize_3 fl_RX5_29 h_a0 rfl ?_
  refine am_iload_n 1 dX5_tileSize_6 rfl rfl ?_
  refine am_isub dX5_tileSize_7 ?_
  refine am_imul dX5_tileSize_8 ?_
  refine am_ishl dX5_tileSize_9 ?_
  exact am_iret dX5_tileSize_10
theorem CX5_tileSize (G : am_G) (a0 : Nat) (a1 : Int32) (M : am_M) (h_a0 : am_sh M a0 9) : am_C am_ei G 0 yX5_tileSize cX5_tileSize 2 (some FieldType.int) [.ref a0, .int a1] M (fX5_tileSize a0 a1 M) :=
  am_meth (by decide) rfl (Nat.le_of_ble_eq_true rfl) (sX5_tileSize_0 G a0 a1 M h_a0)
def fX1_turnedX_12 (x0 : Int32) (x1 : Int32) (x2 : Int32) (x3 : Int32) (x4 : Int32) (M : am_M) : Option (Int32 × am_M) := if x0 = 1 then if x1 = 3 then some ((x2 - 1) - x4, M) else some (x3, M) else some (x3, M)
def fX1_turnedX (a0 : Int32) (a1 : Int32) (a2 : Int32) (a3 : Int32) (a4 : Int32) (M : am_M) : Option (Int32 × am_M) := if a0 = 1 then if a1 = 0 then some (a4, M) else fX1_turnedX_12 a0 a1 a2 a3 a4 M else fX1_turnedX_12 a0 a1 a2 a3 a4 M
set_option maxRecDepth 100000 in
set_option maxHeartbeats 4000000 in
theorem sX1_turnedX_12 (G : am_G) (x0 : Int32) (x1 : Int32) (x2 : Int32) (x3 : Int32) (x4 : Int32) (M : am_M) : am_S am_ei G 0 yX1_turnedX.cls yX1_turnedX.name cX1_turnedX 5 (some FieldType.int) 12 [(0, .int x0), (1, .int x1), (2, .int x2), (3, .int x3), (4, .int x4)] [] M (fX1_turnedX_12 x0 x1 x2 x3 x4 M) := by
  show am_S am_ei G 0 yX1_turnedX.cls yX1_turnedX.name cX1_turnedX 5 (some FieldType.int) 12 [(0, .int x0), (1, .int x1), (2, .int x2), (3, .int x3), (4, .int x4)] [] M (if x0 = 1 then if x1 = 3 then some ((x2 - 1) - x4, M) else some (x3, M) else some (x3, M))
  refine am_iload_n 0 dX1_turnedX_12 rfl rfl ?_
  refine am_iconst dX1_turnedX_13 am_kc_1 ?_
  refine am_icmp_ne (tgt := 31) dX1_turnedX_14 (by decide) (fun c2 => ?_) (fun c2 => ?_)
  · refine am_iload_n 3 dX1_turnedX_31 rfl rfl ?_
    exact am_iret dX1_turnedX_32
  · refine am_iload_n 1 dX1_turnedX_17 rfl rfl ?_
    refine am_iconst dX1_turnedX_18 am_kc_3 ?_
    refine am_icmp_ne (tgt := 31) dX1_turnedX_19 (by decide) (fun c3 => ?_) (fun c3 => ?_)
    · refine am_iload_n 3 dX1_turnedX_31 rfl rfl ?_
      exact am_iret dX1_turnedX_32
    · refine am_iload_n 2 dX1_turnedX_22 rfl rfl ?_
      refine am_iconst dX1_turnedX_23 am_kc_1 ?_
      refine am_isub dX1_turnedX_24 ?_
      refine am_iload 4 dX1_turnedX_25 rfl ?_
      refine am_isub dX1_turnedX_27 ?_
      refine am_goto (tgt := 32) dX1_turnedX_28 (by decide) ?_
      exact am_iret dX1_turnedX_32
set_option maxRecDepth 100000 in
set_option maxHeartbeats 4000000 in
theorem sX1_turnedX_0 (G : am_G) (a0 : Int32) (a1 : Int32) (a2 : Int32) (a3 : Int32) (a4 : Int32) (M : am_M) : am_S am_ei G 0 yX1_turnedX.cls yX1_turnedX.name cX1_turnedX 5 (some FieldType.int) 0 [(0, .int a0), (1, .int a1), (2, .int a2), (3, .int a3), (4, .int a4)] [] M (fX1_turnedX a0 a1 a2 a3 a4 M) := by
  show am_S am_ei G 0 yX1_turnedX.cls yX1_turnedX.name cX1_turnedX 5 (some FieldType.int) 0 [(0, .int a0), (1, .int a1), (2, .int a2), (3, .int a3), (4, .int a4)] [] M (if a0 = 1 then if a1 = 0 then some (a4, M) else fX1_turnedX_12 a0 a1 a2 a3 a4 M else fX1_turnedX_12 a0 a1 a2 a3 a4 M)
  refine am_iload_n 0 dX1_turnedX_0 rfl rfl ?_
  refine am_iconst dX1_turnedX_1 am_kc_1 ?_
  refine am_icmp_ne (tgt := 12) dX1_turnedX_2 (by decide) (fun c1 => ?_) (fun c1 => ?_)
  · exact sX1_turnedX_12 G a0 a1 a2 a3 a4 M
  · refine am_iload_n 1 dX1_turnedX_5 rfl rfl ?_
    refine am_if_ne (tgt := 12) dX1_turnedX_6 (by decide) (fun c4 => ?_) (fun c4 => ?_)
    · exact sX1_turnedX_12 G a0 a1 a2 a3 a4 M
    · refine am_iload 4 dX1_turnedX_9 rfl ?_
      exact am_iret dX1_turnedX_11
theorem CX1_turnedX (G : am_G) (a0 : Int32) (a1 : Int32) (a2 : Int32) (a3 : Int32) (a4 : Int32) (M : am_M) : am_C am_ei G 0 yX1_turnedX cX1_turnedX 5 (some FieldType.int) [.int a0, .int a1, .int a2, .int a3, .int a4] M (fX1_turnedX a0 a1 a2 a3 a4 M) :=
  am_meth (by decide) rfl (Nat.le_of_ble_eq_true rfl) (sX1_turnedX_0 G a0 a1 a2 a3 a4 M)
def fX1_placeOf_80 (k11 : (Int32 × Int32 × Int32 × Int32 × Int32 × Int32 × am_M) → Option (Int32 × am_M)) (x0 : Int32) (x1 : Int32) (x3 : Int32) (x4 : Int32) (x5 : Int32) (x6 : Int32) (x7 : Int32) (x8 : Int32) (x9 : Int32) (s0 : Int32) (M : am_M) : Option (Int32 × am_M) := (fX1_turnedX x1 x8 x7 x3 x4 M).bind fun p10 => (fX1_turnedX x1 x8 x7 x4 x3 p10.2).bind fun p16 => k11 (x0, x1, p10.1 + (x9 * x7), p16.1 + (s0 * x7), x5, x6 + 1, p16.2)
def fX1_placeOf_75 (k11 : (Int32 × Int32 × Int32 × Int32 × Int32 × Int32 × am_M) → Option (Int32 × am_M)) (x0 : Int32) (x1 : Int32) (x3 : Int32) (x4 : Int32) (x5 : Int32) (x6 : Int32) (x7 : Int32) (x8 : Int32) (x9 : Int32) (M : am_M) : Option (Int32 × am_M) := fX1_placeOf_80 k11 x0 x1 x3 x4 x5 x6 x7 x8 x9 1 M
def fX1_placeOf_50 (k11 : (Int32 × Int32 × Int32 × Int32 × Int32 × Int32 × am_M) → Option (Int32 × am_M)) (x0 : Int32) (x1 : Int32) (x3 : Int32) (x4 : Int32) (x5 : Int32) (x6 : Int32) (x7 : Int32) (x8 : Int32) (s0 : Int32) (M : am_M) : Option (Int32 × am_M) := if x1 = 0 then fX1_placeOf_80 k11 x0 x1 x3 x4 x5 x6 x7 x8 s0 (x8 >>> (1 &&& 31)) M else if x8 = 1 then fX1_placeOf_75 k11 x0 x1 x3 x4 x5 x6 x7 x8 s0 M else if x8 = 2 then fX1_placeOf_75 k11 x0 x1 x3 x4 x5 x6 x7 x8 s0 M else fX1_placeOf_80 k11 x0 x1 x3 x4 x5 x6 x7 x8 s0 0 M
def fX1_placeOf_11 : ((Int32 × Int32 × Int32 × Int32 × Int32 × Int32 × am_M) → Option (Int32 × am_M)) → (Int32 × Int32 × Int32 × Int32 × Int32 × Int32 × am_M) → Option (Int32 × am_M) := fun k11 q0 => match q0 with
  | (x0, x1, x3, x4, x5, x6, M) => if x0 ≤ x6 then some (x3 + (64 * x4), M) else if x1 = 0 then fX1_placeOf_50 k11 x0 x1 x3 x4 (x5 >>> (2 &&& 31)) x6 (1 <<< (x6 &&& 31)) (x5 &&& 3) ((x5 &&& 3) &&& 1) M else fX1_placeOf_50 k11 x0 x1 x3 x4 (x5 >>> (2 &&& 31)) x6 (1 <<< (x6 &&& 31)) (x5 &&& 3) ((x5 &&& 3) >>> (1 &&& 31)) M
def fX1_placeOf (a0 : Int32) (a1 : Int32) (a2 : Int32) (M : am_M) : Option (Int32 × am_M) := am_loop (fX1_placeOf_11) 100000 (a0, a1, 0, 0, a2, 0, M)
set_option maxRecDepth 100000 in
set_option maxHeartbeats 4000000 in
theorem sX1_placeOf_80 (G : am_G) (k11 : (Int32 × Int32 × Int32 × Int32 × Int32 × Int32 × am_M) → Option (Int32 × am_M)) (hk11 : ∀ q : (Int32 × Int32 × Int32 × Int32 × Int32 × Int32 × am_M), (match q with | (x0, x1, x3, x4, x5, x6, M) => True) → match q with | (x0, x1, x3, x4, x5, x6, M) => am_S am_ei G 1 yX1_placeOf.cls yX1_placeOf.name cX1_placeOf 13 (some FieldType.int) 11 [(0, .int x0), (1, .int x1), (3, .int x3), (4, .int x4), (5, .int x5), (6, .int x6)] [] M (k11 (x0, x1, x3, x4, x5, x6, M))) (x0 : Int32) (x1 : Int32) (x3 : Int32) (x4 : Int32) (x5 : Int32) (x6 : Int32) (x7 : Int32) (x8 : Int32) (x9 : Int32) (s0 : Int32) (M : am_M) : am_S am_ei G 1 yX1_placeOf.cls yX1_placeOf.name cX1_placeOf 13 (some FieldType.int) 80 [(0, .int x0), (1, .int x1), (3, .int x3), (4, .int x4), (5, .int x5), (6, .int x6), (7, .int x7), (8, .int x8), (9, .int x9)] [.int s0] M (fX1_placeOf_80 k11 x0 x1 x3 x4 x5 x6 x7 x8 x9 s0 M) := by
  show am_S am_ei G 1 yX1_placeOf.cls yX1_placeOf.name cX1_placeOf 13 (some FieldType.int) 80 [(0, .int x0), (1, .int x1), (3, .int x3), (4, .int x4), (5, .int x5), (6, .int x6), (7, .int x7), (8, .int x8), (9, .int x9)] [.int s0] M ((fX1_turnedX x1 x8 x7 x3 x4 M).bind fun p10 => (fX1_turnedX x1 x8 x7 x4 x3 p10.2).bind fun p16 => k11 (x0, x1, p10.1 + (x9 * x7), p16.1 + (s0 * x7), x5, x6 + 1, p16.2))
  refine am_istore (L' := [(10, .int s0), (0, .int x0), (1, .int x1), (3, .int x3), (4, .int x4), (5, .int x5), (6, .int x6), (7, .int x7), (8, .int x8), (9, .int x9)]) dX1_placeOf_80 (by decide) rfl ?_
  refine am_iload_n 2 dX1_placeOf_82 rfl rfl ?_
  refine am_iload 8 dX1_placeOf_83 rfl ?_
  refine am_iload 7 dX1_placeOf_85 rfl ?_
  refine am_iload_n 3 dX1_placeOf_87 rfl rfl ?_
  refine am_iload 4 dX1_placeOf_88 rfl ?_
  refine am_callSi [.int x1, .int x8, .int x7, .int x3, .int x4] (CX1_turnedX G x1 x8 x7 x3 x4 M) dX1_placeOf_90 mb_yX1_turnedX ⟨ml_RX1_9, sm_yX1_turnedX⟩ (by decide) rfl rfl (Nat.le_of_ble_eq_true rfl) (fun v9 M6 q5 w8 l7 => ?_)
  refine am_istore (L' := [(11, .int v9), (10, .int s0), (0, .int x0), (1, .int x1), (3, .int x3), (4, .int x4), (5, .int x5), (6, .int x6), (7, .int x7), (8, .int x8), (9, .int x9)]) dX1_placeOf_93 (by decide) rfl ?_
  refine am_iload_n 3 dX1_placeOf_95 rfl rfl ?_
  refine am_iload 9 dX1_placeOf_96 rfl ?_
  refine am_iload 8 dX1_placeOf_98 rfl ?_
  refine am_iload 5 dX1_placeOf_100 rfl ?_
  refine am_iload_n 4 dX1_placeOf_102 rfl rfl ?_
  refine am_callSi [.int x1, .int x8, .int x7, .int x4, .int x3] (CX1_turnedX G x1 x8 x7 x4 x3 M6) dX1_placeOf_103 mb_yX1_turnedX ⟨ml_RX1_9, sm_yX1_turnedX⟩ (by decide) rfl rfl (Nat.le_of_ble_eq_true rfl) (fun v15 M12 q11 w14 l13 => ?_)
  refine am_istore (L' := [(12, .int v15), (11, .int v9), (10, .int s0), (0, .int x0), (1, .int x1), (3, .int x3), (4, .int x4), (5, .int x5), (6, .int x6), (7, .int x7), (8, .int x8), (9, .int x9)]) dX1_placeOf_106 (by decide) rfl ?_
  refine am_iload 1 dX1_placeOf_108 rfl ?_
  refine am_iload 11 dX1_placeOf_110 rfl ?_
  refine am_iload 9 dX1_placeOf_112 rfl ?_
  refine am_imul dX1_placeOf_114 ?_
  refine am_iadd dX1_placeOf_115 ?_
  refine am_istore_n (L' := [(3, .int (v9 + (x9 * x7))), (12, .int v15), (11, .int v9), (10, .int s0), (0, .int x0), (1, .int x1), (4, .int x4), (5, .int x5), (6, .int x6), (7, .int x7), (8, .int x8), (9, .int x9)]) dX1_placeOf_116 rfl (by decide) rfl ?_
  refine am_iload 1 dX1_placeOf_117 rfl ?_
  refine am_iload 3 dX1_placeOf_119 rfl ?_
  refine am_iload 9 dX1_placeOf_121 rfl ?_
  refine am_imul dX1_placeOf_123 ?_
  refine am_iadd dX1_placeOf_124 ?_
  refine am_istore (L' := [(4, .int (v15 + (s0 * x7))), (3, .int (v9 + (x9 * x7))), (12, .int v15), (11, .int v9), (10, .int s0), (0, .int x0), (1, .int x1), (5, .int x5), (6, .int x6), (7, .int x7), (8, .int x8), (9, .int x9)]) dX1_placeOf_125 (by decide) rfl ?_
  refine am_iinc (L' := [(6, .int (x6 + 1)), (4, .int (v15 + (s0 * x7))), (3, .int (v9 + (x9 * x7))), (12, .int v15), (11, .int v9), (10, .int s0), (0, .int x0), (1, .int x1), (5, .int x5), (7, .int x7), (8, .int x8), (9, .int x9)]) 8 dX1_placeOf_127 rfl (by rfl) (by decide) rfl ?_
  refine am_goto (tgt := 11) dX1_placeOf_130 (by decide) ?_
  refine am_sub [6, 7, 2, 1, 8, 0] rfl ?_
  exact hk11 (x0, x1, v9 + (x9 * x7), v15 + (s0 * x7), x5, x6 + 1, M12) trivial
set_option maxRecDepth 100000 in
set_option maxHeartbeats 4000000 in
theorem sX1_placeOf_75 (G : am_G) (k11 : (Int32 × Int32 × Int32 × Int32 × Int32 × Int32 × am_M) → Option (Int32 × am_M)) (hk11 : ∀ q : (Int32 × Int32 × Int32 × Int32 × Int32 × Int32 × am_M), (match q with | (x0, x1, x3, x4, x5, x6, M) => True) → match q with | (x0, x1, x3, x4, x5, x6, M) => am_S am_ei G 1 yX1_placeOf.cls yX1_placeOf.name cX1_placeOf 13 (some FieldType.int) 11 [(0, .int x0), (1, .int x1), (3, .int x3), (4, .int x4), (5, .int x5), (6, .int x6)] [] M (k11 (x0, x1, x3, x4, x5, x6, M))) (x0 : Int32) (x1 : Int32) (x3 : Int32) (x4 : Int32) (x5 : Int32) (x6 : Int32) (x7 : Int32) (x8 : Int32) (x9 : Int32) (M : am_M) : am_S am_ei G 1 yX1_placeOf.cls yX1_placeOf.name cX1_placeOf 13 (some FieldType.int) 75 [(0, .int x0), (1, .int x1), (3, .int x3), (4, .int x4), (5, .int x5), (6, .int x6), (7, .int x7), (8, .int x8), (9, .int x9)] [] M (fX1_placeOf_75 k11 x0 x1 x3 x4 x5 x6 x7 x8 x9 M) := by
  show am_S am_ei G 1 yX1_placeOf.cls yX1_placeOf.name cX1_placeOf 13 (some FieldType.int) 75 [(0, .int x0), (1, .int x1), (3, .int x3), (4, .int x4), (5, .int x5), (6, .int x6), (7, .int x7), (8, .int x8), (9, .int x9)] [] M (fX1_placeOf_80 k11 x0 x1 x3 x4 x5 x6 x7 x8 x9 1 M)
  refine am_iconst dX1_placeOf_75 am_kc_1 ?_
  refine am_goto (tgt := 80) dX1_placeOf_76 (by decide) ?_
  exact sX1_placeOf_80 G k11 hk11 x0 x1 x3 x4 x5 x6 x7 x8 x9 1 M
set_option maxRecDepth 100000 in
set_option maxHeartbeats 4000000 in
theorem sX1_placeOf_50 (G : am_G) (k11 : (Int32 × Int32 × Int32 × Int32 × Int32 × Int32 × am_M) → Option (Int32 × am_M)) (hk11 : ∀ q : (Int32 × Int32 × Int32 × Int32 × Int32 × Int32 × am_M), (match q with | (x0, x1, x3, x4, x5, x6, M) => True) → match q with | (x0, x1, x3, x4, x5, x6, M) => am_S am_ei G 1 yX1_placeOf.cls yX1_placeOf.name cX1_placeOf 13 (some FieldType.int) 11 [(0, .int x0), (1, .int x1), (3, .int x3), (4, .int x4), (5, .int x5), (6, .int x6)] [] M (k11 (x0, x1, x3, x4, x5, x6, M))) (x0 : Int32) (x1 : Int32) (x3 : Int32) (x4 : Int32) (x5 : Int32) (x6 : Int32) (x7 : Int32) (x8 : Int32) (s0 : Int32) (M : am_M) : am_S am_ei G 1 yX1_placeOf.cls yX1_placeOf.name cX1_placeOf 13 (some FieldType.int) 50 [(0, .int x0), (1, .int x1), (3, .int x3), (4, .int x4), (5, .int x5), (6, .int x6), (7, .int x7), (8, .int x8)] [.int s0] M (fX1_placeOf_50 k11 x0 x1 x3 x4 x5 x6 x7 x8 s0 M) := by
  show am_S am_ei G 1 yX1_placeOf.cls yX1_placeOf.name cX1_placeOf 13 (some FieldType.int) 50 [(0, .int x0), (1, .int x1), (3, .int x3), (4, .int x4), (5, .int x5), (6, .int x6), (7, .int x7), (8, .int x8)] [.int s0] M (if x1 = 0 then fX1_placeOf_80 k11 x0 x1 x3 x4 x5 x6 x7 x8 s0 (x8 >>> (1 &&& 31)) M else if x8 = 1 then fX1_placeOf_75 k11 x0 x1 x3 x4 x5 x6 x7 x8 s0 M else if x8 = 2 then fX1_placeOf_75 k11 x0 x1 x3 x4 x5 x6 x7 x8 s0 M else fX1_placeOf_80 k11 x0 x1 x3 x4 x5 x6 x7 x8 s0 0 M)
  refine am_istore (L' := [(9, .int s0), (0, .int x0), (1, .int x1), (3, .int x3), (4, .int x4), (5, .int x5), (6, .int x6), (7, .int x7), (8, .int x8)]) dX1_placeOf_50 (by decide) rfl ?_
  refine am_iload_n 2 dX1_placeOf_52 rfl rfl ?_
  refine am_if_ne (tgt := 63) dX1_placeOf_53 (by decide) (fun c3 => ?_) (fun c3 => ?_)
  · refine am_iload 8 dX1_placeOf_63 rfl ?_
    refine am_iconst dX1_placeOf_65 am_kc_1 ?_
    refine am_icmp_eq (tgt := 75) dX1_placeOf_66 (by decide) (fun c4 => ?_) (fun c4 => ?_)
    · refine am_sub [1, 2, 3, 4, 5, 6, 7, 8, 0] rfl ?_
      exact sX1_placeOf_75 G k11 hk11 x0 x1 x3 x4 x5 x6 x7 x8 s0 M
    · refine am_iload 8 dX1_placeOf_69 rfl ?_
      refine am_iconst dX1_placeOf_71 am_kc_2 ?_
      refine am_icmp_ne (tgt := 79) dX1_placeOf_72 (by decide) (fun c17 => ?_) (fun c17 => ?_)
      · refine am_iconst dX1_placeOf_79 am_kc_0 ?_
        refine am_sub [1, 2, 3, 4, 5, 6, 7, 8, 0] rfl ?_
        exact sX1_placeOf_80 G k11 hk11 x0 x1 x3 x4 x5 x6 x7 x8 s0 0 M
      · refine am_sub [1, 2, 3, 4, 5, 6, 7, 8, 0] rfl ?_
        exact sX1_placeOf_75 G k11 hk11 x0 x1 x3 x4 x5 x6 x7 x8 s0 M
  · refine am_iload 8 dX1_placeOf_56 rfl ?_
    refine am_iconst dX1_placeOf_58 am_kc_1 ?_
    refine am_ishr dX1_placeOf_59 ?_
    refine am_goto (tgt := 80) dX1_placeOf_60 (by decide) ?_
    refine am_sub [1, 2, 3, 4, 5, 6, 7, 8, 0] rfl ?_
    exact sX1_placeOf_80 G k11 hk11 x0 x1 x3 x4 x5 x6 x7 x8 s0 (x8 >>> (1 &&& 31)) M
set_option maxRecDepth 100000 in
set_option maxHeartbeats 4000000 in
theorem sX1_placeOf_11 (G : am_G) (k11 : (Int32 × Int32 × Int32 × Int32 × Int32 × Int32 × am_M) → Option (Int32 × am_M)) (hk11 : ∀ q : (Int32 × Int32 × Int32 × Int32 × Int32 × Int32 × am_M), (match q with | (x0, x1, x3, x4, x5, x6, M) => True) → match q with | (x0, x1, x3, x4, x5, x6, M) => am_S am_ei G 1 yX1_placeOf.cls yX1_placeOf.name cX1_placeOf 13 (some FieldType.int) 11 [(0, .int x0), (1, .int x1), (3, .int x3), (4, .int x4), (5, .int x5), (6, .int x6)] [] M (k11 (x0, x1, x3, x4, x5, x6, M))) (x0 : Int32) (x1 : Int32) (x3 : Int32) (x4 : Int32) (x5 : Int32) (x6 : Int32) (M : am_M) : am_S am_ei G 1 yX1_placeOf.cls yX1_placeOf.name cX1_placeOf 13 (some FieldType.int) 11 [(0, .int x0), (1, .int x1), (3, .int x3), (4, .int x4), (5, .int x5), (6, .int x6)] [] M (fX1_placeOf_11 k11 (x0, x1, x3, x4, x5, x6, M)) := by
  show am_S am_ei G 1 yX1_placeOf.cls yX1_placeOf.name cX1_placeOf 13 (some FieldType.int) 11 [(0, .int x0), (1, .int x1), (3, .int x3), (4, .int x4), (5, .int x5), (6, .int x6)] [] M (if x0 ≤ x6 then some (x3 + (64 * x4), M) else if x1 = 0 then fX1_placeOf_50 k11 x0 x1 x3 x4 (x5 >>> (2 &&& 31)) x6 (1 <<< (x6 &&& 31)) (x5 &&& 3) ((x5 &&& 3) &&& 1) M else fX1_placeOf_50 k11 x0 x1 x3 x4 (x5 >>> (2 &&& 31)) x6 (1 <<< (x6 &&& 31)) (x5 &&& 3) ((x5 &&& 3) >>> (1 &&& 31)) M)
  refine am_iload 5 dX1_placeOf_11 rfl ?_
  refine am_iload_n 0 dX1_placeOf_13 rfl rfl ?_
  refine am_icmp_ge (tgt := 133) dX1_placeOf_14 (by decide) (fun c1 => ?_) (fun c1 => ?_)
  · refine am_iload_n 2 dX1_placeOf_133 rfl rfl ?_
    refine am_bipush (x := 64) dX1_placeOf_134 (by decide) ?_
    refine am_iload 3 dX1_placeOf_136 rfl ?_
    refine am_imul dX1_placeOf_138 ?_
    refine am_iadd dX1_placeOf_139 ?_
    exact am_iret dX1_placeOf_140
  · refine am_iconst dX1_placeOf_17 am_kc_1 ?_
    refine am_iload 5 dX1_placeOf_18 rfl ?_
    refine am_ishl dX1_placeOf_20 ?_
    refine am_istore (L' := [(7, .int (1 <<< (x6 &&& 31))), (0, .int x0), (1, .int x1), (3, .int x3), (4, .int x4), (5, .int x5), (6, .int x6)]) dX1_placeOf_21 (by decide) rfl ?_
    refine am_iload 5 dX1_placeOf_23 rfl ?_
    refine am_iconst dX1_placeOf_25 am_kc_3 ?_
    refine am_iand dX1_placeOf_26 ?_
    refine am_istore (L' := [(8, .int (x5 &&& 3)), (7, .int (1 <<< (x6 &&& 31))), (0, .int x0), (1, .int x1), (3, .int x3), (4, .int x4), (5, .int x5), (6, .int x6)]) dX1_placeOf_27 (by decide) rfl ?_
    refine am_iload 6 dX1_placeOf_29 rfl ?_
    refine am_iconst dX1_placeOf_31 am_kc_2 ?_
    refine am_ishr dX1_placeOf_32 ?_
    refine am_istore (L' := [(5, .int (x5 >>> (2 &&& 31))), (8, .int (x5 &&& 3)), (7, .int (1 <<< (x6 &&& 31))), (0, .int x0), (1, .int x1), (3, .int x3), (4, .int x4), (6, .int x6)]) dX1_placeOf_33 (by decide) rfl ?_
    refine am_iload_n 4 dX1_placeOf_35 rfl rfl ?_
    refine am_if_ne (tgt := 46) dX1_placeOf_36 (by decide) (fun c2 => ?_) (fun c2 => ?_)
    · refine am_iload 1 dX1_placeOf_46 rfl ?_
      refine am_iconst dX1_placeOf_48 am_kc_1 ?_
      refine am_ishr dX1_placeOf_49 ?_
      refine am_sub [3, 4, 5, 6, 0, 7, 2, 1] rfl ?_
      exact sX1_placeOf_50 G k11 hk11 x0 x1 x3 x4 (x5 >>> (2 &&& 31)) x6 (1 <<< (x6 &&& 31)) (x5 &&& 3) ((x5 &&& 3) >>> (1 &&& 31)) M
    · refine am_iload 1 dX1_placeOf_39 rfl ?_
      refine am_iconst dX1_placeOf_41 am_kc_1 ?_
      refine am_iand dX1_placeOf_42 ?_
      refine am_goto (tgt := 50) dX1_placeOf_43 (by decide) ?_
      refine am_sub [3, 4, 5, 6, 0, 7, 2, 1] rfl ?_
      exact sX1_placeOf_50 G k11 hk11 x0 x1 x3 x4 (x5 >>> (2 &&& 31)) x6 (1 <<< (x6 &&& 31)) (x5 &&& 3) ((x5 &&& 3) &&& 1) M
set_option maxRecDepth 100000 in
set_option maxHeartbeats 4000000 in
theorem lX1_placeOf_11 (G : am_G) (n : Nat) (q : (Int32 × Int32 × Int32 × Int32 × Int32 × Int32 × am_M)) (hq : match q with | (x0, x1, x3, x4, x5, x6, M) => True) : match q with | (x0, x1, x3, x4, x5, x6, M) => am_S am_ei G 1 yX1_placeOf.cls yX1_placeOf.name cX1_placeOf 13 (some FieldType.int) 11 [(0, .int x0), (1, .int x1), (3, .int x3), (4, .int x4), (5, .int x5), (6, .int x6)] [] M (am_loop (fX1_placeOf_11) n (x0, x1, x3, x4, x5, x6, M)) := by
  exact am_loop_ok (fun q : (Int32 × Int32 × Int32 × Int32 × Int32 × Int32 × am_M) => match q with | (x0, x1, x3, x4, x5, x6, M) => True) (fun q X => match q with | (x0, x1, x3, x4, x5, x6, M) => am_S am_ei G 1 yX1_placeOf.cls yX1_placeOf.name cX1_placeOf 13 (some FieldType.int) 11 [(0, .int x0), (1, .int x1), (3, .int x3), (4, .int x4), (5, .int x5), (6, .int x6)] [] M X) (fun _ => am_none) (fun k11 hk11 q hq => match q, hq with | (x0, x1, x3, x4, x5, x6, M), _ => sX1_placeOf_11 G k11 hk11 x0 x1 x3 x4 x5 x6 M) n q hq
set_option maxRecDepth 100000 in
set_option maxHeartbeats 4000000 in
theorem sX1_placeOf_0 (G : am_G) (a0 : Int32) (a1 : Int32) (a2 : Int32) (M : am_M) : am_S am_ei G 1 yX1_placeOf.cls yX1_placeOf.name cX1_placeOf 13 (some FieldType.int) 0 [(0, .int a0), (1, .int a1), (2, .int a2)] [] M (fX1_placeOf a0 a1 a2 M) := by
  show am_S am_ei G 1 yX1_placeOf.cls yX1_placeOf.name cX1_placeOf 13 (some FieldType.int) 0 [(0, .int a0), (1, .int a1), (2, .int a2)] [] M (am_loop (fX1_placeOf_11) 100000 (a0, a1, 0, 0, a2, 0, M))
  refine am_iconst dX1_placeOf_0 am_kc_0 ?_
  refine am_istore_n (L' := [(3, .int 0), (0, .int a0), (1, .int a1), (2, .int a2)]) dX1_placeOf_1 rfl (by decide) rfl ?_
  refine am_iconst dX1_placeOf_2 am_kc_0 ?_
  refine am_istore (L' := [(4, .int 0), (3, .int 0), (0, .int a0), (1, .int a1), (2, .int a2)]) dX1_placeOf_3 (by decide) rfl ?_
  refine am_iload_n 4 dX1_placeOf_5 rfl rfl ?_
  refine am_istore (L' := [(5, .int a2), (4, .int 0), (3, .int 0), (0, .int a0), (1, .int a1), (2, .int a2)]) dX1_placeOf_6 (by decide) rfl ?_
  refine am_iconst dX1_placeOf_8 am_kc_0 ?_
  refine am_istore (L' := [(6, .int 0), (5, .int a2), (4, .int 0), (3, .int 0), (0, .int a0), (1, .int a1), (2, .int a2)]) dX1_placeOf_9 (by decide) rfl ?_
  refine am_sub [4, 5, 3, 2, 1, 0] rfl ?_
  exact lX1_placeOf_11 G 100000 (a0, a1, 0, 0, a2, 0, M) trivial
theorem CX1_placeOf (G : am_G) (a0 : Int32) (a1 : Int32) (a2 : Int32) (M : am_M) : am_C am_ei G 1 yX1_placeOf cX1_placeOf 13 (some FieldType.int) [.int a0, .int a1, .int a2] M (fX1_placeOf a0 a1 a2 M) :=
  am_meth (by decide) rfl (Nat.le_of_ble_eq_true rfl) (sX1_placeOf_0 G a0 a1 a2 M)
def fX1_half (a0 : Int32) (a1 : Int32) (M : am_M) : Option (Int32 × am_M) := if a1 = 0 then some (a0 - a0 / 64 * 64, M) else some (a0 / 64, M)
set_option maxRecDepth 100000 in
set_option maxHeartbeats 4000000 in
theorem sX1_half_0 (G : am_G) (a0 : Int32) (a1 : Int32) (M : am_M) : am_S am_ei G 0 yX1_half.cls yX1_half.name cX1_half 2 (some FieldType.int) 0 [(0, .int a0), (1, .int a1)] [] M (fX1_half a0 a1 M) := by
  show am_S am_ei G 0 yX1_half.cls yX1_half.name cX1_half 2 (some FieldType.int) 0 [(0, .int a0), (1, .int a1)] [] M (if a1 = 0 then some (a0 - a0 / 64 * 64, M) else some (a0 / 64, M))
  refine am_iload_n 1 dX1_half_0 rfl rfl ?_
  refine am_if_ne (tgt := 11) dX1_half_1 (by decide) (fun c1 => ?_) (fun c1 => ?_)
  · refine am_iload_n 0 dX1_half_11 rfl rfl ?_
    refine am_bipush (x := 64) dX1_half_12 (by decide) ?_
    refine am_idivk dX1_half_14 (by decide) ?_
    exact am_iret dX1_half_15
  · refine am_iload_n 0 dX1_half_4 rfl rfl ?_
    refine am_bipush (x := 64) dX1_half_5 (by decide) ?_
    refine am_iremk dX1_half_7 (by decide) ?_
    refine am_goto (tgt := 15) dX1_half_8 (by decide) ?_
    exact am_iret dX1_half_15
theorem CX1_half (G : am_G) (a0 : Int32) (a1 : Int32) (M : am_M) : am_C am_ei G 0 yX1_half cX1_half 2 (some FieldType.int) [.int a0, .int a1] M (fX1_half a0 a1 M) :=
  am_meth (by decide) rfl (Nat.le_of_ble_eq_true rfl) (sX1_half_0 G a0 a1 M)
def fX4_has (a0 : Nat) (a1 : Int32) (a2 : Int32) (M : am_M) : Option (Int32 × am_M) := if M.1 a0 1 = 0 then if a1 < M.1 a0 2 then some (0, M) else if M.1 a0 4 < a1 then some (0, M) else if a2 < M.1 a0 3 then some (0, M) else if M.1 a0 5 < a2 then some (0, M) else some (1, M) else if (M.1 a0 4) * (M.1 a0 4) < ((a1 - (M.1 a0 2)) * (a1 - (M.1 a0 2))) + ((a2 - (M.1 a0 3)) * (a2 - (M.1 a0 3))) then some (0, M) else some (1, M)
set_option maxRecDepth 100000 in
set_option maxHeartbeats 4000000 in
theorem sX4_has_0 (G : am_G) (a0 : Nat) (a1 : Int32) (a2 : Int32) (M : am_M) (h_a0 : am_sh M a0 8) : am_S am_ei G 0 yX4_has.cls yX4_has.name cX4_has 5 (some FieldType.boolean) 0 [(0, .ref a0), (1, .int a1), (2, .int a2)] [] M (fX4_has a0 a1 a2 M) := by
  show am_S am_ei G 0 yX4_has.cls yX4_has.name cX4_has 5 (some FieldType.boolean) 0 [(0, .ref a0), (1, .int a1), (2, .int a2)] [] M (if M.1 a0 1 = 0 then if a1 < M.1 a0 2 then some (0, M) else if M.1 a0 4 < a1 then some (0, M) else if a2 < M.1 a0 3 then some (0, M) else if M.1 a0 5 < a2 then some (0, M) else some (1, M) else if (M.1 a0 4) * (M.1 a0 4) < ((a1 - (M.1 a0 2)) * (a1 - (M.1 a0 2))) + ((a2 - (M.1 a0 3)) * (a2 - (M.1 a0 3))) then some (0, M) else some (1, M))
  refine am_aload_n 0 dX4_has_0 rfl rfl ?_
  refine am_getI 3 dX4_has_1 fl_RX4_13 h_a0 rfl ?_
  refine am_if_eq (tgt := 49) dX4_has_4 (by decide) (fun c1 => ?_) (fun c1 => ?_)
  · refine am_iload_n 1 dX4_has_49 rfl rfl ?_
    refine am_aload_n 0 dX4_has_50 rfl rfl ?_
    refine am_getI 3 dX4_has_51 fl_RX4_16 h_a0 rfl ?_
    refine am_icmp_lt (tgt := 85) dX4_has_54 (by decide) (fun c2 => ?_) (fun c2 => ?_)
    · refine am_iconst dX4_has_85 am_kc_0 ?_
      exact am_zret0 dX4_has_86
    · refine am_iload_n 1 dX4_has_57 rfl rfl ?_
      refine am_aload_n 0 dX4_has_58 rfl rfl ?_
      refine am_getI 3 dX4_has_59 fl_RX4_23 h_a0 rfl ?_
      refine am_icmp_gt (tgt := 85) dX4_has_62 (by decide) (fun c3 => ?_) (fun c3 => ?_)
      · refine am_iconst dX4_has_85 am_kc_0 ?_
        exact am_zret0 dX4_has_86
      · refine am_iload_n 2 dX4_has_65 rfl rfl ?_
        refine am_aload_n 0 dX4_has_66 rfl rfl ?_
        refine am_getI 3 dX4_has_67 fl_RX4_20 h_a0 rfl ?_
        refine am_icmp_lt (tgt := 85) dX4_has_70 (by decide) (fun c4 => ?_) (fun c4 => ?_)
        · refine am_iconst dX4_has_85 am_kc_0 ?_
          exact am_zret0 dX4_has_86
        · refine am_iload_n 2 dX4_has_73 rfl rfl ?_
          refine am_aload_n 0 dX4_has_74 rfl rfl ?_
          refine am_getI 3 dX4_has_75 fl_RX4_26 h_a0 rfl ?_
          refine am_icmp_gt (tgt := 85) dX4_has_78 (by decide) (fun c5 => ?_) (fun c5 => ?_)
          · refine am_iconst dX4_has_85 am_kc_0 ?_
            exact am_zret0 dX4_has_86
          · refine am_iconst dX4_has_81 am_kc_1 ?_
            refine am_goto (tgt := 86) dX4_has_82 (by decide) ?_
            exact am_zret1 dX4_has_86
  · refine am_iload_n 1 dX4_has_7 rfl rfl ?_
    refine am_aload_n 0 dX4_has_8 rfl rfl ?_
    refine am_getI 3 dX4_has_9 fl_RX4_16 h_a0 rfl ?_
    refine am_isub dX4_has_12 ?_
    refine am_istore_n (L' := [(3, .int (a1 - (M.1 a0 2))), (0, .ref a0), (1, .int a1), (2, .int a2)]) dX4_has_13 rfl (by decide) rfl ?_
    refine am_iload_n 3 dX4_has_14 rfl rfl ?_
    refine am_aload_n 1 dX4_has_15 rfl rfl ?_
    refine am_getI 3 dX4_has_16 fl_RX4_20 h_a0 rfl ?_
    refine am_isub dX4_has_19 ?_
    refine am_istore (L' := [(4, .int (a2 - (M.1 a0 3))), (3, .int (a1 - (M.1 a0 2))), (0, .ref a0), (1, .int a1), (2, .int a2)]) dX4_has_20 (by decide) rfl ?_
    refine am_iload_n 1 dX4_has_22 rfl rfl ?_
    refine am_iload_n 1 dX4_has_23 rfl rfl ?_
    refine am_imul dX4_has_24 ?_
    refine am_iload 0 dX4_has_25 rfl ?_
    refine am_iload 0 dX4_has_27 rfl ?_
    refine am_imul dX4_has_29 ?_
    refine am_iadd dX4_has_30 ?_
    refine am_aload_n 2 dX4_has_31 rfl rfl ?_
    refine am_getI 3 dX4_has_32 fl_RX4_23 h_a0 rfl ?_
    refine am_aload_n 2 dX4_has_35 rfl rfl ?_
    refine am_getI 3 dX4_has_36 fl_RX4_23 h_a0 rfl ?_
    refine am_imul dX4_has_39 ?_
    refine am_icmp_gt (tgt := 47) dX4_has_40 (by decide) (fun c6 => ?_) (fun c6 => ?_)
    · refine am_iconst dX4_has_47 am_kc_0 ?_
      exact am_zret0 dX4_has_48
    · refine am_iconst dX4_has_43 am_kc_1 ?_
      refine am_goto (tgt := 48) dX4_has_44 (by decide) ?_
      exact am_zret1 dX4_has_48
theorem CX4_has (G : am_G) (a0 : Nat) (a1 : Int32) (a2 : Int32) (M : am_M) (h_a0 : am_sh M a0 8) : am_C am_ei G 0 yX4_has cX4_has 5 (some FieldType.boolean) [.ref a0, .int a1, .int a2] M (fX4_has a0 a1 a2 M) :=
  am_meth (by decide) rfl (Nat.le_of_ble_eq_true rfl) (sX4_has_0 G a0 a1 a2 M h_a0)
def fX4_putsOn (a0 : Nat) (M : am_M) : Option (Int32 × am_M) := some ((M.1 a0 0) &&& 1, M)
set_option maxRecDepth 100000 in
set_option maxHeartbeats 4000000 in
theorem sX4_putsOn_0 (G : am_G) (a0 : Nat) (M : am_M) (h_a0 : am_sh M a0 8) : am_S am_ei G 0 yX4_putsOn.cls yX4_putsOn.name cX4_putsOn 1 (some FieldType.boolean) 0 [(0, .ref a0)] [] M (fX4_putsOn a0 M) := by
  show am_S am_ei G 0 yX4_putsOn.cls yX4_putsOn.name cX4_putsOn 1 (some FieldType.boolean) 0 [(0, .ref a0)] [] M (some ((M.1 a0 0) &&& 1, M))
  refine am_aload_n 0 dX4_putsOn_0 rfl rfl ?_
  refine am_getI 3 dX4_putsOn_1 fl_RX4_7 h_a0 rfl ?_
  exact am_zret dX4_putsOn_4
theorem CX4_putsOn (G : am_G) (a0 : Nat) (M : am_M) (h_a0 : am_sh M a0 8) : am_C am_ei G 0 yX4_putsOn cX4_putsOn 1 (some FieldType.boolean) [.ref a0] M (fX4_putsOn a0 M) :=
  am_meth (by decide) rfl (Nat.le_of_ble_eq_true rfl) (sX4_putsOn_0 G a0 M h_a0)
def fX5_inShape_7 : ((Nat × Int32 × Int32 × Int32 × am_M) → Option (Int32 × am_M)) → (Nat × Int32 × Int32 × Int32 × am_M) → Option (Int32 × am_M) := fun k7 q0 => match q0 with
  | (x0, x1, x2, x3, M) => if x3 < 0 then some (0, M) else (M.2.2.1 x0 1).bind fun r2 => if x3 < 0 ∨ am_len M r2 ≤ x3.toNatClampNeg then none else (M.2.2.1 r2 (x3.toNatClampNeg)).bind fun r6 => (fX4_has r6 x1 x2 M).bind fun p14 => if p14.1 = 0 then k7 (x0, x1, x2, x3 + (-1), p14.2) else (p14.2.2.2.1 x0 1).bind fun r16 => if x3 < 0 ∨ am_len p14.2 r16 ≤ x3.toNatClampNeg then none else (p14.2.2.2.1 r16 (x3.toNatClampNeg)).bind fun r20 => (fX4_putsOn r20 p14.2).bind fun p28 => some (p28.1 &&& 1, p28.2)
def fX5_inShape (a0 : Nat) (a1 : Int32) (a2 : Int32) (M : am_M) : Option (Int32 × am_M) := am_loop (fX5_inShape_7) 100000 (a0, a1, a2, (M.1 a0 2) - 1, M)
set_option maxRecDepth 100000 in
set_option maxHeartbeats 4000000 in
theorem sX5_inShape_7 (G : am_G) (k7 : (Nat × Int32 × Int32 × Int32 × am_M) → Option (Int32 × am_M)) (hk7 : ∀ q : (Nat × Int32 × Int32 × Int32 × am_M), (match q with | (x0, x1, x2, x3, M) => am_sh M x0 9) → match q with | (x0, x1, x2, x3, M) => am_S am_ei G 1 yX5_inShape.cls yX5_inShape.name cX5_inShape 4 (some FieldType.boolean) 7 [(0, .ref x0), (1, .int x1), (2, .int x2), (3, .int x3)] [] M (k7 (x0, x1, x2, x3, M))) (x0 : Nat) (x1 : Int32) (x2 : Int32) (x3 : Int32) (M : am_M) (h_x0 : am_sh M x0 9) : am_S am_ei G 1 yX5_inShape.cls yX5_inShape.name cX5_inShape 4 (some FieldType.boolean) 7 [(0, .ref x0), (1, .int x1), (2, .int x2), (3, .int x3)] [] M (fX5_inShape_7 k7 (x0, x1, x2, x3, M)) := by
  show am_S am_ei G 1 yX5_inShape.cls yX5_inShape.name cX5_inShape 4 (some FieldType.boolean) 7 [(0, .ref x0), (1, .int x1), (2, .int x2), (3, .int x3)] [] M (if x3 < 0 then some (0, M) else (M.2.2.1 x0 1).bind fun r2 => if x3 < 0 ∨ am_len M r2 ≤ x3.toNatClampNeg then none else (M.2.2.1 r2 (x3.toNatClampNeg)).bind fun r6 => (fX4_has r6 x1 x2 M).bind fun p14 => if p14.1 = 0 then k7 (x0, x1, x2, x3 + (-1), p14.2) else (p14.2.2.2.1 x0 1).bind fun r16 => if x3 < 0 ∨ am_len p14.2 r16 ≤ x3.toNatClampNeg then none else (p14.2.2.2.1 r16 (x3.toNatClampNeg)).bind fun r20 => (fX4_putsOn r20 p14.2).bind fun p28 => some (p28.1 &&& 1, p28.2))
  refine am_iload_n 3 dX5_inShape_7 rfl rfl ?_
  refine am_if_lt (tgt := 41) dX5_inShape_8 (by decide) (fun c1 => ?_) (fun c1 => ?_)
  · refine am_iconst dX5_inShape_41 am_kc_0 ?_
    exact am_zret0 dX5_inShape_42
  · refine am_aload_n 0 dX5_inShape_11 rfl rfl ?_
    refine am_getR 4 dX5_inShape_12 fl_RX5_20 h_x0 rfl (fun r2 e3 h4 => ?_)
    refine am_iload_n 3 dX5_inShape_15 rfl rfl ?_
    refine am_aald dX5_inShape_16 h4 (Or.inl rfl) (fun r6 b5 e7 h8 => ?_)
    refine am_iload_n 1 dX5_inShape_17 rfl rfl ?_
    refine am_iload_n 2 dX5_inShape_18 rfl rfl ?_
    refine am_callVi 3 [.int x1, .int x2] (CX4_has G r6 x1 x2 M h8) dX5_inShape_19 mb_yX4_has ⟨ml_RX5_60, im_yX4_has, se_yX4_has⟩ rfl h8 (by decide) rfl rfl (Nat.le_of_ble_eq_true rfl) (fun v13 M10 q9 w12 l11 => ?_)
    refine am_if_eq (tgt := 35) dX5_inShape_22 (by decide) (fun c15 => ?_) (fun c15 => ?_)
    · refine am_iinc (L' := [(3, .int (x3 + (-1))), (0, .ref x0), (1, .int x1), (2, .int x2)]) 3 dX5_inShape_35 rfl (by rfl) (by decide) rfl ?_
      refine am_goto (tgt := 7) dX5_inShape_38 (by decide) ?_
      refine am_sub [1, 2, 3, 0] rfl ?_
      exact hk7 (x0, x1, x2, x3 + (-1), M10) (am_sh.mono l11 h_x0)
    · refine am_aload_n 0 dX5_inShape_25 rfl rfl ?_
      refine am_getR 4 dX5_inShape_26 fl_RX5_20 (am_sh.mono l11 h_x0) rfl (fun r16 e17 h18 => ?_)
      refine am_iload_n 3 dX5_inShape_29 rfl rfl ?_
      refine am_aald dX5_inShape_30 h18 (Or.inl rfl) (fun r20 b19 e21 h22 => ?_)
      refine am_callVi 3 [] (CX4_putsOn G r20 M10 h22) dX5_inShape_31 mb_yX4_putsOn ⟨ml_RX5_64, im_yX4_putsOn, se_yX4_putsOn⟩ rfl h22 (by decide) rfl rfl (Nat.le_of_ble_eq_true rfl) (fun v27 M24 q23 w26 l25 => ?_)
      exact am_zret dX5_inShape_34
set_option maxRecDepth 100000 in
set_option maxHeartbeats 4000000 in
theorem lX5_inShape_7 (G : am_G) (n : Nat) (q : (Nat × Int32 × Int32 × Int32 × am_M)) (hq : match q with | (x0, x1, x2, x3, M) => am_sh M x0 9) : match q with | (x0, x1, x2, x3, M) => am_S am_ei G 1 yX5_inShape.cls yX5_inShape.name cX5_inShape 4 (some FieldType.boolean) 7 [(0, .ref x0), (1, .int x1), (2, .int x2), (3, .int x3)] [] M (am_loop (fX5_inShape_7) n (x0, x1, x2, x3, M)) := by
  exact am_loop_ok (fun q : (Nat × Int32 × Int32 × Int32 × am_M) => match q with | (x0, x1, x2, x3, M) => am_sh M x0 9) (fun q X => match q with | (x0, x1, x2, x3, M) => am_S am_ei G 1 yX5_inShape.cls yX5_inShape.name cX5_inShape 4 (some FieldType.boolean) 7 [(0, .ref x0), (1, .int x1), (2, .int x2), (3, .int x3)] [] M X) (fun _ => am_none) (fun k7 hk7 q hq => match q, hq with | (x0, x1, x2, x3, M), h_x0 => sX5_inShape_7 G k7 hk7 x0 x1 x2 x3 M h_x0) n q hq
set_option maxRecDepth 100000 in
set_option maxHeartbeats 4000000 in
theorem sX5_inShape_0 (G : am_G) (a0 : Nat) (a1 : Int32) (a2 : Int32) (M : am_M) (h_a0 : am_sh M a0 9) : am_S am_ei G 1 yX5_inShape.cls yX5_inShape.name cX5_inShape 4 (some FieldType.boolean) 0 [(0, .ref a0), (1, .int a1), (2, .int a2)] [] M (fX5_inShape a0 a1 a2 M) := by
  show am_S am_ei G 1 yX5_inShape.cls yX5_inShape.name cX5_inShape 4 (some FieldType.boolean) 0 [(0, .ref a0), (1, .int a1), (2, .int a2)] [] M (am_loop (fX5_inShape_7) 100000 (a0, a1, a2, (M.1 a0 2) - 1, M))
  refine am_aload_n 0 dX5_inShape_0 rfl rfl ?_
  refine am_getI 4 dX5_inShape_1 fl_RX5_42 h_a0 rfl ?_
  refine am_iconst dX5_inShape_4 am_kc_1 ?_
  refine am_isub dX5_inShape_5 ?_
  refine am_istore_n (L' := [(3, .int ((M.1 a0 2) - 1)), (0, .ref a0), (1, .int a1), (2, .int a2)]) dX5_inShape_6 rfl (by decide) rfl ?_
  refine am_sub [1, 2, 3, 0] rfl ?_
  exact lX5_inShape_7 G 100000 (a0, a1, a2, (M.1 a0 2) - 1, M) h_a0
theorem CX5_inShape (G : am_G) (a0 : Nat) (a1 : Int32) (a2 : Int32) (M : am_M) (h_a0 : am_sh M a0 9) : am_C am_ei G 1 yX5_inShape cX5_inShape 4 (some FieldType.boolean) [.ref a0, .int a1, .int a2] M (fX5_inShape a0 a1 a2 M) :=
  am_meth (by decide) rfl (Nat.le_of_ble_eq_true rfl) (sX5_inShape_0 G a0 a1 a2 M h_a0)
def fX3_add (a0 : Nat) (a1 : Int32) (M : am_M) : Option am_M := if a1 < 0 then some M else if (4096 : Int32) ≤ a1 then some M else (M.2.2.1 a0 0).bind fun r3 => if a1 / 64 < 0 ∨ am_len M r3 ≤ (a1 / 64).toNatClampNeg then none else if a1 / 64 < 0 ∨ am_len M r3 ≤ (a1 / 64).toNatClampNeg then none else some (am_pJ M r3 (a1 / 64).toNatClampNeg ((M.2.1 r3 ((a1 / 64).toNatClampNeg)) ||| ((1 : Int64) <<< ((a1 - a1 / 64 * 64).toInt64 &&& 63))))
set_option maxRecDepth 100000 in
set_option maxHeartbeats 4000000 in
theorem sX3_add_0 (G : am_G) (a0 : Nat) (a1 : Int32) (M : am_M) (h_a0 : am_sh M a0 7) : am_S am_ev G 0 yX3_add.cls yX3_add.name cX3_add 2 none 0 [(0, .ref a0), (1, .int a1)] [] M (fX3_add a0 a1 M) := by
  show am_S am_ev G 0 yX3_add.cls yX3_add.name cX3_add 2 none 0 [(0, .ref a0), (1, .int a1)] [] M (if a1 < 0 then some M else if (4096 : Int32) ≤ a1 then some M else (M.2.2.1 a0 0).bind fun r3 => if a1 / 64 < 0 ∨ am_len M r3 ≤ (a1 / 64).toNatClampNeg then none else if a1 / 64 < 0 ∨ am_len M r3 ≤ (a1 / 64).toNatClampNeg then none else some (am_pJ M r3 (a1 / 64).toNatClampNeg ((M.2.1 r3 ((a1 / 64).toNatClampNeg)) ||| ((1 : Int64) <<< ((a1 - a1 / 64 * 64).toInt64 &&& 63)))))
  refine am_iload_n 1 dX3_add_0 rfl rfl ?_
  refine am_if_lt (tgt := 29) dX3_add_1 (by decide) (fun c1 => ?_) (fun c1 => ?_)
  · exact am_vret dX3_add_29
  · refine am_iload_n 1 dX3_add_4 rfl rfl ?_
    refine am_sipush (x := 4096) dX3_add_5 (by decide) ?_
    refine am_icmp_ge (tgt := 29) dX3_add_8 (by decide) (fun c2 => ?_) (fun c2 => ?_)
    · exact am_vret dX3_add_29
    · refine am_aload_n 0 dX3_add_11 rfl rfl ?_
      refine am_getR 2 dX3_add_12 fl_RX3_9 h_a0 rfl (fun r3 e4 h5 => ?_)
      refine am_iload_n 1 dX3_add_15 rfl rfl ?_
      refine am_bipush (x := 64) dX3_add_16 (by decide) ?_
      refine am_idivk dX3_add_18 (by decide) ?_
      refine am_dup2 dX3_add_19 rfl rfl ?_
      refine am_lald dX3_add_20 h5 (fun b6 => ?_)
      refine am_lconst (x := 1) dX3_add_21 rfl ?_
      refine am_iload_n 1 dX3_add_22 rfl rfl ?_
      refine am_bipush (x := 64) dX3_add_23 (by decide) ?_
      refine am_iremk dX3_add_25 (by decide) ?_
      refine am_lshl dX3_add_26 ?_
      refine am_lor dX3_add_27 ?_
      refine am_last dX3_add_28 h5 (fun b7 => ?_)
      exact am_vret dX3_add_29
theorem CX3_add (G : am_G) (a0 : Nat) (a1 : Int32) (M : am_M) (h_a0 : am_sh M a0 7) : am_C am_ev G 0 yX3_add cX3_add 2 none [.ref a0, .int a1] M (fX3_add a0 a1 M) :=
  am_meth (by decide) rfl (Nat.le_of_ble_eq_true rfl) (sX3_add_0 G a0 a1 M h_a0)
def fX0_findShape_61 (k15 : (Nat × Nat × Int32 × Int32 × am_M) → Option am_M) (x0 : Nat) (x1 : Nat) (x2 : Int32) (x3 : Int32) (M : am_M) : Option am_M := k15 (x0, x1, x2, x3 + 1, M)
def fX0_findShape_15 : ((Nat × Nat × Int32 × Int32 × am_M) → Option am_M) → (Nat × Nat × Int32 × Int32 × am_M) → Option am_M := fun k15 q0 => match q0 with
  | (x0, x1, x2, x3, M) => if x2 ≤ x3 then some M else (fX1_placeOf (M.1 x1 3) (M.1 x1 4) x3 M).bind fun p21 => (fX1_half p21.1 0 p21.2).bind fun p27 => (fX1_half p21.1 1 p27.2).bind fun p33 => (fX5_inShape x1 p27.1 p33.1 p33.2).bind fun p39 => if p39.1 = 0 then fX0_findShape_61 k15 x0 x1 x2 x3 p39.2 else (p39.2.2.2.1 x0 0).bind fun r41 => (fX3_add r41 x3 p39.2).bind fun M45 => fX0_findShape_61 k15 x0 x1 x2 x3 M45
def fX0_findShape (a0 : Nat) (a1 : Nat) (M : am_M) : Option am_M := (M.2.2.1 a0 0).bind fun r1 => (fX3_clear r1 M).bind fun M5 => (fX5_tileSize a1 0 M5).bind fun p14 => am_loop (fX0_findShape_15) 100000 (a0, a1, p14.1, 0, p14.2)
set_option maxRecDepth 100000 in
set_option maxHeartbeats 4000000 in
theorem sX0_findShape_61 (G : am_G) (k15 : (Nat × Nat × Int32 × Int32 × am_M) → Option am_M) (hk15 : ∀ q : (Nat × Nat × Int32 × Int32 × am_M), (match q with | (x0, x1, x2, x3, M) => am_sh M x0 5 ∧ am_sh M x1 9) → match q with | (x0, x1, x2, x3, M) => am_S am_ev G 2 yX0_findShape.cls yX0_findShape.name cX0_findShape 5 none 15 [(0, .ref x0), (1, .ref x1), (2, .int x2), (3, .int x3)] [] M (k15 (x0, x1, x2, x3, M))) (x0 : Nat) (x1 : Nat) (x2 : Int32) (x3 : Int32) (M : am_M) (h_x0 : am_sh M x0 5) (h_x1 : am_sh M x1 9) : am_S am_ev G 2 yX0_findShape.cls yX0_findShape.name cX0_findShape 5 none 61 [(0, .ref x0), (1, .ref x1), (2, .int x2), (3, .int x3)] [] M (fX0_findShape_61 k15 x0 x1 x2 x3 M) := by
  show am_S am_ev G 2 yX0_findShape.cls yX0_findShape.name cX0_findShape 5 none 61 [(0, .ref x0), (1, .ref x1), (2, .int x2), (3, .int x3)] [] M (k15 (x0, x1, x2, x3 + 1, M))
  refine am_iinc (L' := [(3, .int (x3 + 1)), (0, .ref x0), (1, .ref x1), (2, .int x2)]) 3 dX0_findShape_61 rfl (by rfl) (by decide) rfl ?_
  refine am_goto (tgt := 15) dX0_findShape_64 (by decide) ?_
  refine am_sub [1, 2, 3, 0] rfl ?_
  exact hk15 (x0, x1, x2, x3 + 1, M) ⟨h_x0, h_x1⟩
set_option maxRecDepth 100000 in
set_option maxHeartbeats 4000000 in
theorem sX0_findShape_15 (G : am_G) (k15 : (Nat × Nat × Int32 × Int32 × am_M) → Option am_M) (hk15 : ∀ q : (Nat × Nat × Int32 × Int32 × am_M), (match q with | (x0, x1, x2, x3, M) => am_sh M x0 5 ∧ am_sh M x1 9) → match q with | (x0, x1, x2, x3, M) => am_S am_ev G 2 yX0_findShape.cls yX0_findShape.name cX0_findShape 5 none 15 [(0, .ref x0), (1, .ref x1), (2, .int x2), (3, .int x3)] [] M (k15 (x0, x1, x2, x3, M))) (x0 : Nat) (x1 : Nat) (x2 : Int32) (x3 : Int32) (M : am_M) (h_x0 : am_sh M x0 5) (h_x1 : am_sh M x1 9) : am_S am_ev G 2 yX0_findShape.cls yX0_findShape.name cX0_findShape 5 none 15 [(0, .ref x0), (1, .ref x1), (2, .int x2), (3, .int x3)] [] M (fX0_findShape_15 k15 (x0, x1, x2, x3, M)) := by
  show am_S am_ev G 2 yX0_findShape.cls yX0_findShape.name cX0_findShape 5 none 15 [(0, .ref x0), (1, .ref x1), (2, .int x2), (3, .int x3)] [] M (if x2 ≤ x3 then some M else (fX1_placeOf (M.1 x1 3) (M.1 x1 4) x3 M).bind fun p21 => (fX1_half p21.1 0 p21.2).bind fun p27 => (fX1_half p21.1 1 p27.2).bind fun p33 => (fX5_inShape x1 p27.1 p33.1 p33.2).bind fun p39 => if p39.1 = 0 then fX0_findShape_61 k15 x0 x1 x2 x3 p39.2 else (p39.2.2.2.1 x0 0).bind fun r41 => (fX3_add r41 x3 p39.2).bind fun M45 => fX0_findShape_61 k15 x0 x1 x2 x3 M45)
  refine am_iload_n 3 dX0_findShape_15 rfl rfl ?_
  refine am_iload_n 2 dX0_findShape_16 rfl rfl ?_
  refine am_icmp_ge (tgt := 67) dX0_findShape_17 (by decide) (fun c15 => ?_) (fun c15 => ?_)
  · exact am_vret dX0_findShape_67
  · refine am_aload_n 1 dX0_findShape_20 rfl rfl ?_
    refine am_getI 4 dX0_findShape_21 fl_RX0_61 h_x1 rfl ?_
    refine am_aload_n 1 dX0_findShape_24 rfl rfl ?_
    refine am_getI 4 dX0_findShape_25 fl_RX0_65 h_x1 rfl ?_
    refine am_iload_n 3 dX0_findShape_28 rfl rfl ?_
    refine am_callSi [.int (M.1 x1 3), .int (M.1 x1 4), .int x3] (CX1_placeOf G (M.1 x1 3) (M.1 x1 4) x3 M) dX0_findShape_29 mb_yX1_placeOf ⟨ml_RX0_68, sm_yX1_placeOf⟩ (by decide) rfl rfl (Nat.le_of_ble_eq_true rfl) (fun v20 M17 q16 w19 l18 => ?_)
    refine am_istore (L' := [(4, .int v20), (0, .ref x0), (1, .ref x1), (2, .int x2), (3, .int x3)]) dX0_findShape_32 (by decide) rfl ?_
    refine am_aload_n 2 dX0_findShape_34 rfl rfl ?_
    refine am_iload 0 dX0_findShape_35 rfl ?_
    refine am_iconst dX0_findShape_37 am_kc_0 ?_
    refine am_callSi [.int v20, .int 0] (CX1_half G v20 0 M17) dX0_findShape_38 mb_yX1_half ⟨ml_RX0_74, sm_yX1_half⟩ (by decide) rfl rfl (Nat.le_of_ble_eq_true rfl) (fun v26 M23 q22 w25 l24 => ?_)
    refine am_iload 0 dX0_findShape_41 rfl ?_
    refine am_iconst dX0_findShape_43 am_kc_1 ?_
    refine am_callSi [.int v20, .int 1] (CX1_half G v20 1 M23) dX0_findShape_44 mb_yX1_half ⟨ml_RX0_74, sm_yX1_half⟩ (by decide) rfl rfl (Nat.le_of_ble_eq_true rfl) (fun v32 M29 q28 w31 l30 => ?_)
    refine am_callVi 4 [.int v26, .int v32] (CX5_inShape G x1 v26 v32 M29 (am_sh.mono l30 (am_sh.mono l24 (am_sh.mono l18 h_x1)))) dX0_findShape_47 mb_yX5_inShape ⟨ml_RX0_78, im_yX5_inShape, se_yX5_inShape⟩ rfl (am_sh.mono l30 (am_sh.mono l24 (am_sh.mono l18 h_x1))) (by decide) rfl rfl (Nat.le_of_ble_eq_true rfl) (fun v38 M35 q34 w37 l36 => ?_)
    refine am_if_eq (tgt := 61) dX0_findShape_50 (by decide) (fun c40 => ?_) (fun c40 => ?_)
    · refine am_sub [1, 2, 3, 4] rfl ?_
      exact sX0_findShape_61 G k15 hk15 x0 x1 x2 x3 M35 (am_sh.mono l36 (am_sh.mono l30 (am_sh.mono l24 (am_sh.mono l18 h_x0)))) (am_sh.mono l36 (am_sh.mono l30 (am_sh.mono l24 (am_sh.mono l18 h_x1))))
    · refine am_aload_n 1 dX0_findShape_53 rfl rfl ?_
      refine am_getR 0 dX0_findShape_54 fl_RX0_12 (am_sh.mono l36 (am_sh.mono l30 (am_sh.mono l24 (am_sh.mono l18 h_x0)))) rfl (fun r41 e42 h43 => ?_)
      refine am_iload_n 4 dX0_findShape_57 rfl rfl ?_
      refine am_callVv 2 [.int x3] (CX3_add G r41 x3 M35 h43) dX0_findShape_58 mb_yX3_add ⟨ml_RX0_82, im_yX3_add, se_yX3_add⟩ rfl h43 (by decide) rfl rfl (Nat.le_of_ble_eq_true rfl) (fun M45 q44 w47 l46 => ?_)
      refine am_sub [1, 2, 3, 4] rfl ?_
      exact sX0_findShape_61 G k15 hk15 x0 x1 x2 x3 M45 (am_sh.mono l46 (am_sh.mono l36 (am_sh.mono l30 (am_sh.mono l24 (am_sh.mono l18 h_x0))))) (am_sh.mono l46 (am_sh.mono l36 (am_sh.mono l30 (am_sh.mono l24 (am_sh.mono l18 h_x1)))))
set_option maxRecDepth 100000 in
set_option maxHeartbeats 4000000 in
theorem lX0_findShape_15 (G : am_G) (n : Nat) (q : (Nat × Nat × Int32 × Int32 × am_M)) (hq : match q with | (x0, x1, x2, x3, M) => am_sh M x0 5 ∧ am_sh M x1 9) : match q with | (x0, x1, x2, x3, M) => am_S am_ev G 2 yX0_findShape.cls yX0_findShape.name cX0_findShape 5 none 15 [(0, .ref x0), (1, .ref x1), (2, .int x2), (3, .int x3)] [] M (am_loop (fX0_findShape_15) n (x0, x1, x2, x3, M)) := by
  exact am_loop_ok (fun q : (Nat × Nat × Int32 × Int32 × am_M) => match q with | (x0, x1, x2, x3, M) => am_sh M x0 5 ∧ am_sh M x1 9) (fun q X => match q with | (x0, x1, x2, x3, M) => am_S am_ev G 2 yX0_findShape.cls yX0_findShape.name cX0_findShape 5 none 15 [(0, .ref x0), (1, .ref x1), (2, .int x2), (3, .int x3)] [] M X) (fun _ => am_none) (fun k15 hk15 q hq => match q, hq with | (x0, x1, x2, x3, M), ⟨h_x0, h_x1⟩ => sX0_findShape_15 G k15 hk15 x0 x1 x2 x3 M h_x0 h_x1) n q hq
set_option maxRecDepth 100000 in
set_option maxHeartbeats 4000000 in
theorem sX0_findShape_0 (G : am_G) (a0 : Nat) (a1 : Nat) (M : am_M) (h_a0 : am_sh M a0 5) (h_a1 : am_sh M a1 9) : am_S am_ev G 2 yX0_findShape.cls yX0_findShape.name cX0_findShape 5 none 0 [(0, .ref a0), (1, .ref a1)] [] M (fX0_findShape a0 a1 M) := by
  show am_S am_ev G 2 yX0_findShape.cls yX0_findShape.name cX0_findShape 5 none 0 [(0, .ref a0), (1, .ref a1)] [] M ((M.2.2.1 a0 0).bind fun r1 => (fX3_clear r1 M).bind fun M5 => (fX5_tileSize a1 0 M5).bind fun p14 => am_loop (fX0_findShape_15) 100000 (a0, a1, p14.1, 0, p14.2))
  refine am_aload_n 0 dX0_findShape_0 rfl rfl ?_
  refine am_getR 0 dX0_findShape_1 fl_RX0_12 h_a0 rfl (fun r1 e2 h3 => ?_)
  refine am_callVv 2 [] (CX3_clear G r1 M h3) dX0_findShape_4 mb_yX3_clear ⟨ml_RX0_52, im_yX3_clear, se_yX3_clear⟩ rfl h3 (by decide) rfl rfl (Nat.le_of_ble_eq_true rfl) (fun M5 q4 w7 l6 => ?_)
  refine am_aload_n 1 dX0_findShape_7 rfl rfl ?_
  refine am_iconst dX0_findShape_8 am_kc_0 ?_
  refine am_callVi 4 [.int 0] (CX5_tileSize G a1 0 M5 (am_sh.mono l6 h_a1)) dX0_findShape_9 mb_yX5_tileSize ⟨ml_RX0_55, im_yX5_tileSize, se_yX5_tileSize⟩ rfl (am_sh.mono l6 h_a1) (by decide) rfl rfl (Nat.le_of_ble_eq_true rfl) (fun v13 M10 q9 w12 l11 => ?_)
  refine am_istore_n (L' := [(2, .int v13), (0, .ref a0), (1, .ref a1)]) dX0_findShape_12 rfl (by decide) rfl ?_
  refine am_iconst dX0_findShape_13 am_kc_0 ?_
  refine am_istore_n (L' := [(3, .int 0), (2, .int v13), (0, .ref a0), (1, .ref a1)]) dX0_findShape_14 rfl (by decide) rfl ?_
  refine am_sub [2, 3, 1, 0] rfl ?_
  exact lX0_findShape_15 G 100000 (a0, a1, v13, 0, M10) ⟨(am_sh.mono l11 (am_sh.mono l6 h_a0)), (am_sh.mono l11 (am_sh.mono l6 h_a1))⟩
theorem CX0_findShape (G : am_G) (a0 : Nat) (a1 : Nat) (M : am_M) (h_a0 : am_sh M a0 5) (h_a1 : am_sh M a1 9) : am_C am_ev G 2 yX0_findShape cX0_findShape 5 none [.ref a0, .ref a1] M (fX0_findShape a0 a1 M) :=
  am_meth (by decide) rfl (Nat.le_of_ble_eq_true rfl) (sX0_findShape_0 G a0 a1 M h_a0 h_a1)
def fJ13_bitCount_95d88 (a0 : Int64) (M : am_M) : Option (Int32 × am_M) := some ((((((((((a0 - (((a0.toUInt64 >>> ((1 : Int32).toInt64.toUInt64 &&& Int64.toUInt64 63)).toInt64) &&& 6148914691236517205)) &&& 3689348814741910323) + ((((a0 - (((a0.toUInt64 >>> ((1 : Int32).toInt64.toUInt64 &&& Int64.toUInt64 63)).toInt64) &&& 6148914691236517205)).toUInt64 >>> ((2 : Int32).toInt64.toUInt64 &&& Int64.toUInt64 63)).toInt64) &&& 3689348814741910323)) + (((((a0 - (((a0.toUInt64 >>> ((1 : Int32).toInt64.toUInt64 &&& Int64.toUInt64 63)).toInt64) &&& 6148914691236517205)) &&& 3689348814741910323) + ((((a0 - (((a0.toUInt64 >>> ((1 : Int32).toInt64.toUInt64 &&& Int64.toUInt64 63)).toInt64) &&& 6148914691236517205)).toUInt64 >>> ((2 : Int32).toInt64.toUInt64 &&& Int64.toUInt64 63)).toInt64) &&& 3689348814741910323)).toUInt64 >>> ((4 : Int32).toInt64.toUInt64 &&& Int64.toUInt64 63)).toInt64)) &&& 1085102592571150095) + (((((((a0 - (((a0.toUInt64 >>> ((1 : Int32).toInt64.toUInt64 &&& Int64.toUInt64 63)).toInt64) &&& 6148914691236517205)) &&& 3689348814741910323) + ((((a0 - (((a0.toUInt64 >>> ((1 : Int32).toInt64.toUInt64 &&& Int64.toUInt64 63)).toInt64) &&& 6148914691236517205)).toUInt64 >>> ((2 : Int32).toInt64.toUInt64 &&& Int64.toUInt64 63)).toInt64) &&& 3689348814741910323)) + (((((a0 - (((a0.toUInt64 >>> ((1 : Int32).toInt64.toUInt64 &&& Int64.toUInt64 63)).toInt64) &&& 6148914691236517205)) &&& 3689348814741910323) + ((((a0 - (((a0.toUInt64 >>> ((1 : Int32).toInt64.toUInt64 &&& Int64.toUInt64 63)).toInt64) &&& 6148914691236517205)).toUInt64 >>> ((2 : Int32).toInt64.toUInt64 &&& Int64.toUInt64 63)).toInt64) &&& 3689348814741910323)).toUInt64 >>> ((4 : Int32).toInt64.toUInt64 &&& Int64.toUInt64 63)).toInt64)) &&& 1085102592571150095).toUInt64 >>> ((8 : Int32).toInt64.toUInt64 &&& Int64.toUInt64 63)).toInt64)) + ((((((((a0 - (((a0.toUInt64 >>> ((1 : Int32).toInt64.toUInt64 &&& Int64.toUInt64 63)).toInt64) &&& 6148914691236517205)) &&& 3689348814741910323) + ((((a0 - (((a0.toUInt64 >>> ((1 : Int32).toInt64.toUInt64 &&& Int64.toUInt64 63)).toInt64) &&& 6148914691236517205)).toUInt64 >>> ((2 : Int32).toInt64.toUInt64 &&& Int64.toUInt64 63)).toInt64) &&& 3689348814741910323)) + (((((a0 - (((a0.toUInt64 >>> ((1 : Int32).toInt64.toUInt64 &&& Int64.toUInt64 63)).toInt64) &&& 6148914691236517205)) &&& 3689348814741910323) + ((((a0 - (((a0.toUInt64 >>> ((1 : Int32).toInt64.toUInt64 &&& Int64.toUInt64 63)).toInt64) &&& 6148914691236517205)).toUInt64 >>> ((2 : Int32).toInt64.toUInt64 &&& Int64.toUInt64 63)).toInt64) &&& 3689348814741910323)).toUInt64 >>> ((4 : Int32).toInt64.toUInt64 &&& Int64.toUInt64 63)).toInt64)) &&& 1085102592571150095) + (((((((a0 - (((a0.toUInt64 >>> ((1 : Int32).toInt64.toUInt64 &&& Int64.toUInt64 63)).toInt64) &&& 6148914691236517205)) &&& 3689348814741910323) + ((((a0 - (((a0.toUInt64 >>> ((1 : Int32).toInt64.toUInt64 &&& Int64.toUInt64 63)).toInt64) &&& 6148914691236517205)).toUInt64 >>> ((2 : Int32).toInt64.toUInt64 &&& Int64.toUInt64 63)).toInt64) &&& 3689348814741910323)) + (((((a0 - (((a0.toUInt64 >>> ((1 : Int32).toInt64.toUInt64 &&& Int64.toUInt64 63)).toInt64) &&& 6148914691236517205)) &&& 3689348814741910323) + ((((a0 - (((a0.toUInt64 >>> ((1 : Int32).toInt64.toUInt64 &&& Int64.toUInt64 63)).toInt64) &&& 6148914691236517205)).toUInt64 >>> ((2 : Int32).toInt64.toUInt64 &&& Int64.toUInt64 63)).toInt64) &&& 3689348814741910323)).toUInt64 >>> ((4 : Int32).toInt64.toUInt64 &&& Int64.toUInt64 63)).toInt64)) &&& 1085102592571150095).toUInt64 >>> ((8 : Int32).toInt64.toUInt64 &&& Int64.toUInt64 63)).toInt64)).toUInt64 >>> ((16 : Int32).toInt64.toUInt64 &&& Int64.toUInt64 63)).toInt64)) + (((((((((a0 - (((a0.toUInt64 >>> ((1 : Int32).toInt64.toUInt64 &&& Int64.toUInt64 63)).toInt64) &&& 6148914691236517205)) &&& 3689348814741910323) + ((((a0 - (((a0.toUInt64 >>> ((1 : Int32).toInt64.toUInt64 &&& Int64.toUInt64 63)).toInt64) &&& 6148914691236517205)).toUInt64 >>> ((2 : Int32).toInt64.toUInt64 &&& Int64.toUInt64 63)).toInt64) &&& 3689348814741910323)) + (((((a0 - (((a0.toUInt64 >>> ((1 : Int32).toInt64.toUInt64 &&& Int64.toUInt64 63)).toInt64) &&& 6148914691236517205)) &&& 3689348814741910323) + ((((a0 - (((a0.toUInt64 >>> ((1 : Int32).toInt64.toUInt64 &&& Int64.toUInt64 63)).toInt64) &&& 6148914691236517205)).toUInt64 >>> ((2 : Int32).toInt64.toUInt64 &&& Int64.toUInt64 63)).toInt64) &&& 3689348814741910323)).toUInt64 >>> ((4 : Int32).toInt64.toUInt64 &&& Int64.toUInt64 63)).toInt64)) &&& 1085102592571150095) + (((((((a0 - (((a0.toUInt64 >>> ((1 : Int32).toInt64.toUInt64 &&& Int64.toUInt64 63)).toInt64) &&& 6148914691236517205)) &&& 3689348814741910323) + ((((a0 - (((a0.toUInt64 >>> ((1 : Int32).toInt64.toUInt64 &&& Int64.toUInt64 63)).toInt64) &&& 6148914691236517205)).toUInt64 >>> ((2 : Int32).toInt64.toUInt64 &&& Int64.toUInt64 63)).toInt64) &&& 3689348814741910323)) + (((((a0 - (((a0.toUInt64 >>> ((1 : Int32).toInt64.toUInt64 &&& Int64.toUInt64 63)).toInt64) &&& 6148914691236517205)) &&& 3689348814741910323) + ((((a0 - (((a0.toUInt64 >>> ((1 : Int32).toInt64.toUInt64 &&& Int64.toUInt64 63)).toInt64) &&& 6148914691236517205)).toUInt64 >>> ((2 : Int32).toInt64.toUInt64 &&& Int64.toUInt64 63)).toInt64) &&& 3689348814741910323)).toUInt64 >>> ((4 : Int32).toInt64.toUInt64 &&& Int64.toUInt64 63)).toInt64)) &&& 1085102592571150095).toUInt64 >>> ((8 : Int32).toInt64.toUInt64 &&& Int64.toUInt64 63)).toInt64)) + ((((((((a0 - (((a0.toUInt64 >>> ((1 : Int32).toInt64.toUInt64 &&& Int64.toUInt64 63)).toInt64) &&& 6148914691236517205)) &&& 3689348814741910323) + ((((a0 - (((a0.toUInt64 >>> ((1 : Int32).toInt64.toUInt64 &&& Int64.toUInt64 63)).toInt64) &&& 6148914691236517205)).toUInt64 >>> ((2 : Int32).toInt64.toUInt64 &&& Int64.toUInt64 63)).toInt64) &&& 3689348814741910323)) + (((((a0 - (((a0.toUInt64 >>> ((1 : Int32).toInt64.toUInt64 &&& Int64.toUInt64 63)).toInt64) &&& 6148914691236517205)) &&& 3689348814741910323) + ((((a0 - (((a0.toUInt64 >>> ((1 : Int32).toInt64.toUInt64 &&& Int64.toUInt64 63)).toInt64) &&& 6148914691236517205)).toUInt64 >>> ((2 : Int32).toInt64.toUInt64 &&& Int64.toUInt64 63)).toInt64) &&& 3689348814741910323)).toUInt64 >>> ((4 : Int32).toInt64.toUInt64 &&& Int64.toUInt64 63)).toInt64)) &&& 1085102592571150095) + (((((((a0 - (((a0.toUInt64 >>> ((1 : Int32).toInt64.toUInt64 &&& Int64.toUInt64 63)).toInt64) &&& 6148914691236517205)) &&& 3689348814741910323) + ((((a0 - (((a0.toUInt64 >>> ((1 : Int32).toInt64.toUInt64 &&& Int64.toUInt64 63)).toInt64) &&& 6148914691236517205)).toUInt64 >>> ((2 : Int32).toInt64.toUInt64 &&& Int64.toUInt64 63)).toInt64) &&& 3689348814741910323)) + (((((a0 - (((a0.toUInt64 >>> ((1 : Int32).toInt64.toUInt64 &&& Int64.toUInt64 63)).toInt64) &&& 6148914691236517205)) &&& 3689348814741910323) + ((((a0 - (((a0.toUInt64 >>> ((1 : Int32).toInt64.toUInt64 &&& Int64.toUInt64 63)).toInt64) &&& 6148914691236517205)).toUInt64 >>> ((2 : Int32).toInt64.toUInt64 &&& Int64.toUInt64 63)).toInt64) &&& 3689348814741910323)).toUInt64 >>> ((4 : Int32).toInt64.toUInt64 &&& Int64.toUInt64 63)).toInt64)) &&& 1085102592571150095).toUInt64 >>> ((8 : Int32).toInt64.toUInt64 &&& Int64.toUInt64 63)).toInt64)).toUInt64 >>> ((16 : Int32).toInt64.toUInt64 &&& Int64.toUInt64 63)).toInt64)).toUInt64 >>> ((32 : Int32).toInt64.toUInt64 &&& Int64.toUInt64 63)).toInt64)).toInt32) &&& 127, M)
set_option maxRecDepth 100000 in
set_option maxHeartbeats 4000000 in
theorem sJ13_bitCount_95d88_0 (G : am_G) (a0 : Int64) (M : am_M) : am_S am_ei G 0 yJ13_bitCount_95d88.cls yJ13_bitCount_95d88.name cJ13_bitCount_95d88 2 (some FieldType.int) 0 [(0, .long a0)] [] M (fJ13_bitCount_95d88 a0 M) := by
  show am_S am_ei G 0 yJ13_bitCount_95d88.cls yJ13_bitCount_95d88.name cJ13_bitCount_95d88 2 (some FieldType.int) 0 [(0, .long a0)] [] M (some ((((((((((a0 - (((a0.toUInt64 >>> ((1 : Int32).toInt64.toUInt64 &&& Int64.toUInt64 63)).toInt64) &&& 6148914691236517205)) &&& 3689348814741910323) + ((((a0 - (((a0.toUInt64 >>> ((1 : Int32).toInt64.toUInt64 &&& Int64.toUInt64 63)).toInt64) &&& 6148914691236517205)).toUInt64 >>> ((2 : Int32).toInt64.toUInt64 &&& Int64.toUInt64 63)).toInt64) &&& 3689348814741910323)) + (((((a0 - (((a0.toUInt64 >>> ((1 : Int32).toInt64.toUInt64 &&& Int64.toUInt64 63)).toInt64) &&& 6148914691236517205)) &&& 3689348814741910323) + ((((a0 - (((a0.toUInt64 >>> ((1 : Int32).toInt64.toUInt64 &&& Int64.toUInt64 63)).toInt64) &&& 6148914691236517205)).toUInt64 >>> ((2 : Int32).toInt64.toUInt64 &&& Int64.toUInt64 63)).toInt64) &&& 3689348814741910323)).toUInt64 >>> ((4 : Int32).toInt64.toUInt64 &&& Int64.toUInt64 63)).toInt64)) &&& 1085102592571150095) + (((((((a0 - (((a0.toUInt64 >>> ((1 : Int32).toInt64.toUInt64 &&& Int64.toUInt64 63)).toInt64) &&& 6148914691236517205)) &&& 3689348814741910323) + ((((a0 - (((a0.toUInt64 >>> ((1 : Int32).toInt64.toUInt64 &&& Int64.toUInt64 63)).toInt64) &&& 6148914691236517205)).toUInt64 >>> ((2 : Int32).toInt64.toUInt64 &&& Int64.toUInt64 63)).toInt64) &&& 3689348814741910323)) + (((((a0 - (((a0.toUInt64 >>> ((1 : Int32).toInt64.toUInt64 &&& Int64.toUInt64 63)).toInt64) &&& 6148914691236517205)) &&& 3689348814741910323) + ((((a0 - (((a0.toUInt64 >>> ((1 : Int32).toInt64.toUInt64 &&& Int64.toUInt64 63)).toInt64) &&& 6148914691236517205)).toUInt64 >>> ((2 : Int32).toInt64.toUInt64 &&& Int64.toUInt64 63)).toInt64) &&& 3689348814741910323)).toUInt64 >>> ((4 : Int32).toInt64.toUInt64 &&& Int64.toUInt64 63)).toInt64)) &&& 1085102592571150095).toUInt64 >>> ((8 : Int32).toInt64.toUInt64 &&& Int64.toUInt64 63)).toInt64)) + ((((((((a0 - (((a0.toUInt64 >>> ((1 : Int32).toInt64.toUInt64 &&& Int64.toUInt64 63)).toInt64) &&& 6148914691236517205)) &&& 3689348814741910323) + ((((a0 - (((a0.toUInt64 >>> ((1 : Int32).toInt64.toUInt64 &&& Int64.toUInt64 63)).toInt64) &&& 6148914691236517205)).toUInt64 >>> ((2 : Int32).toInt64.toUInt64 &&& Int64.toUInt64 63)).toInt64) &&& 3689348814741910323)) + (((((a0 - (((a0.toUInt64 >>> ((1 : Int32).toInt64.toUInt64 &&& Int64.toUInt64 63)).toInt64) &&& 6148914691236517205)) &&& 3689348814741910323) + ((((a0 - (((a0.toUInt64 >>> ((1 : Int32).toInt64.toUInt64 &&& Int64.toUInt64 63)).toInt64) &&& 6148914691236517205)).toUInt64 >>> ((2 : Int32).toInt64.toUInt64 &&& Int64.toUInt64 63)).toInt64) &&& 3689348814741910323)).toUInt64 >>> ((4 : Int32).toInt64.toUInt64 &&& Int64.toUInt64 63)).toInt64)) &&& 1085102592571150095) + (((((((a0 - (((a0.toUInt64 >>> ((1 : Int32).toInt64.toUInt64 &&& Int64.toUInt64 63)).toInt64) &&& 6148914691236517205)) &&& 3689348814741910323) + ((((a0 - (((a0.toUInt64 >>> ((1 : Int32).toInt64.toUInt64 &&& Int64.toUInt64 63)).toInt64) &&& 6148914691236517205)).toUInt64 >>> ((2 : Int32).toInt64.toUInt64 &&& Int64.toUInt64 63)).toInt64) &&& 3689348814741910323)) + (((((a0 - (((a0.toUInt64 >>> ((1 : Int32).toInt64.toUInt64 &&& Int64.toUInt64 63)).toInt64) &&& 6148914691236517205)) &&& 3689348814741910323) + ((((a0 - (((a0.toUInt64 >>> ((1 : Int32).toInt64.toUInt64 &&& Int64.toUInt64 63)).toInt64) &&& 6148914691236517205)).toUInt64 >>> ((2 : Int32).toInt64.toUInt64 &&& Int64.toUInt64 63)).toInt64) &&& 3689348814741910323)).toUInt64 >>> ((4 : Int32).toInt64.toUInt64 &&& Int64.toUInt64 63)).toInt64)) &&& 1085102592571150095).toUInt64 >>> ((8 : Int32).toInt64.toUInt64 &&& Int64.toUInt64 63)).toInt64)).toUInt64 >>> ((16 : Int32).toInt64.toUInt64 &&& Int64.toUInt64 63)).toInt64)) + (((((((((a0 - (((a0.toUInt64 >>> ((1 : Int32).toInt64.toUInt64 &&& Int64.toUInt64 63)).toInt64) &&& 6148914691236517205)) &&& 3689348814741910323) + ((((a0 - (((a0.toUInt64 >>> ((1 : Int32).toInt64.toUInt64 &&& Int64.toUInt64 63)).toInt64) &&& 6148914691236517205)).toUInt64 >>> ((2 : Int32).toInt64.toUInt64 &&& Int64.toUInt64 63)).toInt64) &&& 3689348814741910323)) + (((((a0 - (((a0.toUInt64 >>> ((1 : Int32).toInt64.toUInt64 &&& Int64.toUInt64 63)).toInt64) &&& 6148914691236517205)) &&& 3689348814741910323) + ((((a0 - (((a0.toUInt64 >>> ((1 : Int32).toInt64.toUInt64 &&& Int64.toUInt64 63)).toInt64) &&& 6148914691236517205)).toUInt64 >>> ((2 : Int32).toInt64.toUInt64 &&& Int64.toUInt64 63)).toInt64) &&& 3689348814741910323)).toUInt64 >>> ((4 : Int32).toInt64.toUInt64 &&& Int64.toUInt64 63)).toInt64)) &&& 1085102592571150095) + (((((((a0 - (((a0.toUInt64 >>> ((1 : Int32).toInt64.toUInt64 &&& Int64.toUInt64 63)).toInt64) &&& 6148914691236517205)) &&& 3689348814741910323) + ((((a0 - (((a0.toUInt64 >>> ((1 : Int32).toInt64.toUInt64 &&& Int64.toUInt64 63)).toInt64) &&& 6148914691236517205)).toUInt64 >>> ((2 : Int32).toInt64.toUInt64 &&& Int64.toUInt64 63)).toInt64) &&& 3689348814741910323)) + (((((a0 - (((a0.toUInt64 >>> ((1 : Int32).toInt64.toUInt64 &&& Int64.toUInt64 63)).toInt64) &&& 6148914691236517205)) &&& 3689348814741910323) + ((((a0 - (((a0.toUInt64 >>> ((1 : Int32).toInt64.toUInt64 &&& Int64.toUInt64 63)).toInt64) &&& 6148914691236517205)).toUInt64 >>> ((2 : Int32).toInt64.toUInt64 &&& Int64.toUInt64 63)).toInt64) &&& 3689348814741910323)).toUInt64 >>> ((4 : Int32).toInt64.toUInt64 &&& Int64.toUInt64 63)).toInt64)) &&& 1085102592571150095).toUInt64 >>> ((8 : Int32).toInt64.toUInt64 &&& Int64.toUInt64 63)).toInt64)) + ((((((((a0 - (((a0.toUInt64 >>> ((1 : Int32).toInt64.toUInt64 &&& Int64.toUInt64 63)).toInt64) &&& 6148914691236517205)) &&& 3689348814741910323) + ((((a0 - (((a0.toUInt64 >>> ((1 : Int32).toInt64.toUInt64 &&& Int64.toUInt64 63)).toInt64) &&& 6148914691236517205)).toUInt64 >>> ((2 : Int32).toInt64.toUInt64 &&& Int64.toUInt64 63)).toInt64) &&& 3689348814741910323)) + (((((a0 - (((a0.toUInt64 >>> ((1 : Int32).toInt64.toUInt64 &&& Int64.toUInt64 63)).toInt64) &&& 6148914691236517205)) &&& 3689348814741910323) + ((((a0 - (((a0.toUInt64 >>> ((1 : Int32).toInt64.toUInt64 &&& Int64.toUInt64 63)).toInt64) &&& 6148914691236517205)).toUInt64 >>> ((2 : Int32).toInt64.toUInt64 &&& Int64.toUInt64 63)).toInt64) &&& 3689348814741910323)).toUInt64 >>> ((4 : Int32).toInt64.toUInt64 &&& Int64.toUInt64 63)).toInt64)) &&& 1085102592571150095) + (((((((a0 - (((a0.toUInt64 >>> ((1 : Int32).toInt64.toUInt64 &&& Int64.toUInt64 63)).toInt64) &&& 6148914691236517205)) &&& 3689348814741910323) + ((((a0 - (((a0.toUInt64 >>> ((1 : Int32).toInt64.toUInt64 &&& Int64.toUInt64 63)).toInt64) &&& 6148914691236517205)).toUInt64 >>> ((2 : Int32).toInt64.toUInt64 &&& Int64.toUInt64 63)).toInt64) &&& 3689348814741910323)) + (((((a0 - (((a0.toUInt64 >>> ((1 : Int32).toInt64.toUInt64 &&& Int64.toUInt64 63)).toInt64) &&& 6148914691236517205)) &&& 3689348814741910323) + ((((a0 - (((a0.toUInt64 >>> ((1 : Int32).toInt64.toUInt64 &&& Int64.toUInt64 63)).toInt64) &&& 6148914691236517205)).toUInt64 >>> ((2 : Int32).toInt64.toUInt64 &&& Int64.toUInt64 63)).toInt64) &&& 3689348814741910323)).toUInt64 >>> ((4 : Int32).toInt64.toUInt64 &&& Int64.toUInt64 63)).toInt64)) &&& 1085102592571150095).toUInt64 >>> ((8 : Int32).toInt64.toUInt64 &&& Int64.toUInt64 63)).toInt64)).toUInt64 >>> ((16 : Int32).toInt64.toUInt64 &&& Int64.toUInt64 63)).toInt64)).toUInt64 >>> ((32 : Int32).toInt64.toUInt64 &&& Int64.toUInt64 63)).toInt64)).toInt32) &&& 127, M))
  refine am_lload_n 0 dJ13_bitCount_95d88_0 rfl rfl ?_
  refine am_lload_n 0 dJ13_bitCount_95d88_1 rfl rfl ?_
  refine am_iconst dJ13_bitCount_95d88_2 am_kc_1 ?_
  refine am_lushr dJ13_bitCount_95d88_3 ?_
  refine am_ldc2 dJ13_bitCount_95d88_4 kl_RJ13_314 ?_
  refine am_land dJ13_bitCount_95d88_7 ?_
  refine am_lsub dJ13_bitCount_95d88_8 ?_
  refine am_lstore_n (L' := [(0, .long (a0 - (((a0.toUInt64 >>> ((1 : Int32).toInt64.toUInt64 &&& Int64.toUInt64 63)).toInt64) &&& 6148914691236517205)))]) dJ13_bitCount_95d88_9 rfl (by decide) rfl ?_
  refine am_lload_n 0 dJ13_bitCount_95d88_10 rfl rfl ?_
  refine am_ldc2 dJ13_bitCount_95d88_11 kl_RJ13_316 ?_
  refine am_land dJ13_bitCount_95d88_14 ?_
  refine am_lload_n 0 dJ13_bitCount_95d88_15 rfl rfl ?_
  refine am_iconst dJ13_bitCount_95d88_16 am_kc_2 ?_
  refine am_lushr dJ13_bitCount_95d88_17 ?_
  refine am_ldc2 dJ13_bitCount_95d88_18 kl_RJ13_316 ?_
  refine am_land dJ13_bitCount_95d88_21 ?_
  refine am_ladd dJ13_bitCount_95d88_22 ?_
  refine am_lstore_n (L' := [(0, .long (((a0 - (((a0.toUInt64 >>> ((1 : Int32).toInt64.toUInt64 &&& Int64.toUInt64 63)).toInt64) &&& 6148914691236517205)) &&& 3689348814741910323) + ((((a0 - (((a0.toUInt64 >>> ((1 : Int32).toInt64.toUInt64 &&& Int64.toUInt64 63)).toInt64) &&& 6148914691236517205)).toUInt64 >>> ((2 : Int32).toInt64.toUInt64 &&& Int64.toUInt64 63)).toInt64) &&& 3689348814741910323)))]) dJ13_bitCount_95d88_23 rfl (by decide) rfl ?_
  refine am_lload_n 0 dJ13_bitCount_95d88_24 rfl rfl ?_
  refine am_lload_n 0 dJ13_bitCount_95d88_25 rfl rfl ?_
  refine am_iconst dJ13_bitCount_95d88_26 am_kc_4 ?_
  refine am_lushr dJ13_bitCount_95d88_27 ?_
  refine am_ladd dJ13_bitCount_95d88_28 ?_
  refine am_ldc2 dJ13_bitCount_95d88_29 kl_RJ13_318 ?_
  refine am_land dJ13_bitCount_95d88_32 ?_
  refine am_lstore_n (L' := [(0, .long (((((a0 - (((a0.toUInt64 >>> ((1 : Int32).toInt64.toUInt64 &&& Int64.toUInt64 63)).toInt64) &&& 6148914691236517205)) &&& 3689348814741910323) + ((((a0 - (((a0.toUInt64 >>> ((1 : Int32).toInt64.toUInt64 &&& Int64.toUInt64 63)).toInt64) &&& 6148914691236517205)).toUInt64 >>> ((2 : Int32).toInt64.toUInt64 &&& Int64.toUInt64 63)).toInt64) &&& 3689348814741910323)) + (((((a0 - (((a0.toUInt64 >>> ((1 : Int32).toInt64.toUInt64 &&& Int64.toUInt64 63)).toInt64) &&& 6148914691236517205)) &&& 3689348814741910323) + ((((a0 - (((a0.toUInt64 >>> ((1 : Int32).toInt64.toUInt64 &&& Int64.toUInt64 63)).toInt64) &&& 6148914691236517205)).toUInt64 >>> ((2 : Int32).toInt64.toUInt64 &&& Int64.toUInt64 63)).toInt64) &&& 3689348814741910323)).toUInt64 >>> ((4 : Int32).toInt64.toUInt64 &&& Int64.toUInt64 63)).toInt64)) &&& 1085102592571150095))]) dJ13_bitCount_95d88_33 rfl (by decide) rfl ?_
  refine am_lload_n 0 dJ13_bitCount_95d88_34 rfl rfl ?_
  refine am_lload_n 0 dJ13_bitCount_95d88_35 rfl rfl ?_
  refine am_bipush (x := 8) dJ13_bitCount_95d88_36 (by decide) ?_
  refine am_lushr dJ13_bitCount_95d88_38 ?_
  refine am_ladd dJ13_bitCount_95d88_39 ?_
  refine am_lstore_n (L' := [(0, .long ((((((a0 - (((a0.toUInt64 >>> ((1 : Int32).toInt64.toUInt64 &&& Int64.toUInt64 63)).toInt64) &&& 6148914691236517205)) &&& 3689348814741910323) + ((((a0 - (((a0.toUInt64 >>> ((1 : Int32).toInt64.toUInt64 &&& Int64.toUInt64 63)).toInt64) &&& 6148914691236517205)).toUInt64 >>> ((2 : Int32).toInt64.toUInt64 &&& Int64.toUInt64 63)).toInt64) &&& 3689348814741910323)) + (((((a0 - (((a0.toUInt64 >>> ((1 : Int32).toInt64.toUInt64 &&& Int64.toUInt64 63)).toInt64) &&& 6148914691236517205)) &&& 3689348814741910323) + ((((a0 - (((a0.toUInt64 >>> ((1 : Int32).toInt64.toUInt64 &&& Int64.toUInt64 63)).toInt64) &&& 6148914691236517205)).toUInt64 >>> ((2 : Int32).toInt64.toUInt64 &&& Int64.toUInt64 63)).toInt64) &&& 3689348814741910323)).toUInt64 >>> ((4 : Int32).toInt64.toUInt64 &&& Int64.toUInt64 63)).toInt64)) &&& 1085102592571150095) + (((((((a0 - (((a0.toUInt64 >>> ((1 : Int32).toInt64.toUInt64 &&& Int64.toUInt64 63)).toInt64) &&& 6148914691236517205)) &&& 3689348814741910323) + ((((a0 - (((a0.toUInt64 >>> ((1 : Int32).toInt64.toUInt64 &&& Int64.toUInt64 63)).toInt64) &&& 6148914691236517205)).toUInt64 >>> ((2 : Int32).toInt64.toUInt64 &&& Int64.toUInt64 63)).toInt64) &&& 3689348814741910323)) + (((((a0 - (((a0.toUInt64 >>> ((1 : Int32).toInt64.toUInt64 &&& Int64.toUInt64 63)).toInt64) &&& 6148914691236517205)) &&& 3689348814741910323) + ((((a0 - (((a0.toUInt64 >>> ((1 : Int32).toInt64.toUInt64 &&& Int64.toUInt64 63)).toInt64) &&& 6148914691236517205)).toUInt64 >>> ((2 : Int32).toInt64.toUInt64 &&& Int64.toUInt64 63)).toInt64) &&& 3689348814741910323)).toUInt64 >>> ((4 : Int32).toInt64.toUInt64 &&& Int64.toUInt64 63)).toInt64)) &&& 1085102592571150095).toUInt64 >>> ((8 : Int32).toInt64.toUInt64 &&& Int64.toUInt64 63)).toInt64)))]) dJ13_bitCount_95d88_40 rfl (by decide) rfl ?_
  refine am_lload_n 0 dJ13_bitCount_95d88_41 rfl rfl ?_
  refine am_lload_n 0 dJ13_bitCount_95d88_42 rfl rfl ?_
  refine am_bipush (x := 16) dJ13_bitCount_95d88_43 (by decide) ?_
  refine am_lushr dJ13_bitCount_95d88_45 ?_
  refine am_ladd dJ13_bitCount_95d88_46 ?_
  refine am_lstore_n (L' := [(0, .long (((((((a0 - (((a0.toUInt64 >>> ((1 : Int32).toInt64.toUInt64 &&& Int64.toUInt64 63)).toInt64) &&& 6148914691236517205)) &&& 3689348814741910323) + ((((a0 - (((a0.toUInt64 >>> ((1 : Int32).toInt64.toUInt64 &&& Int64.toUInt64 63)).toInt64) &&& 6148914691236517205)).toUInt64 >>> ((2 : Int32).toInt64.toUInt64 &&& Int64.toUInt64 63)).toInt64) &&& 3689348814741910323)) + (((((a0 - (((a0.toUInt64 >>> ((1 : Int32).toInt64.toUInt64 &&& Int64.toUInt64 63)).toInt64) &&& 6148914691236517205)) &&& 3689348814741910323) + ((((a0 - (((a0.toUInt64 >>> ((1 : Int32).toInt64.toUInt64 &&& Int64.toUInt64 63)).toInt64) &&& 6148914691236517205)).toUInt64 >>> ((2 : Int32).toInt64.toUInt64 &&& Int64.toUInt64 63)).toInt64) &&& 3689348814741910323)).toUInt64 >>> ((4 : Int32).toInt64.toUInt64 &&& Int64.toUInt64 63)).toInt64)) &&& 1085102592571150095) + (((((((a0 - (((a0.toUInt64 >>> ((1 : Int32).toInt64.toUInt64 &&& Int64.toUInt64 63)).toInt64) &&& 6148914691236517205)) &&& 3689348814741910323) + ((((a0 - (((a0.toUInt64 >>> ((1 : Int32).toInt64.toUInt64 &&& Int64.toUInt64 63)).toInt64) &&& 6148914691236517205)).toUInt64 >>> ((2 : Int32).toInt64.toUInt64 &&& Int64.toUInt64 63)).toInt64) &&& 3689348814741910323)) + (((((a0 - (((a0.toUInt64 >>> ((1 : Int32).toInt64.toUInt64 &&& Int64.toUInt64 63)).toInt64) &&& 6148914691236517205)) &&& 3689348814741910323) + ((((a0 - (((a0.toUInt64 >>> ((1 : Int32).toInt64.toUInt64 &&& Int64.toUInt64 63)).toInt64) &&& 6148914691236517205)).toUInt64 >>> ((2 : Int32).toInt64.toUInt64 &&& Int64.toUInt64 63)).toInt64) &&& 3689348814741910323)).toUInt64 >>> ((4 : Int32).toInt64.toUInt64 &&& Int64.toUInt64 63)).toInt64)) &&& 1085102592571150095).toUInt64 >>> ((8 : Int32).toInt64.toUInt64 &&& Int64.toUInt64 63)).toInt64)) + ((((((((a0 - (((a0.toUInt64 >>> ((1 : Int32).toInt64.toUInt64 &&& Int64.toUInt64 63)).toInt64) &&& 6148914691236517205)) &&& 3689348814741910323) + ((((a0 - (((a0.toUInt64 >>> ((1 : Int32).toInt64.toUInt64 &&& Int64.toUInt64 63)).toInt64) &&& 6148914691236517205)).toUInt64 >>> ((2 : Int32).toInt64.toUInt64 &&& Int64.toUInt64 63)).toInt64) &&& 3689348814741910323)) + (((((a0 - (((a0.toUInt64 >>> ((1 : Int32).toInt64.toUInt64 &&& Int64.toUInt64 63)).toInt64) &&& 6148914691236517205)) &&& 3689348814741910323) + ((((a0 - (((a0.toUInt64 >>> ((1 : Int32).toInt64.toUInt64 &&& Int64.toUInt64 63)).toInt64) &&& 6148914691236517205)).toUInt64 >>> ((2 : Int32).toInt64.toUInt64 &&& Int64.toUInt64 63)).toInt64) &&& 3689348814741910323)).toUInt64 >>> ((4 : Int32).toInt64.toUInt64 &&& Int64.toUInt64 63)).toInt64)) &&& 1085102592571150095) + (((((((a0 - (((a0.toUInt64 >>> ((1 : Int32).toInt64.toUInt64 &&& Int64.toUInt64 63)).toInt64) &&& 6148914691236517205)) &&& 3689348814741910323) + ((((a0 - (((a0.toUInt64 >>> ((1 : Int32).toInt64.toUInt64 &&& Int64.toUInt64 63)).toInt64) &&& 6148914691236517205)).toUInt64 >>> ((2 : Int32).toInt64.toUInt64 &&& Int64.toUInt64 63)).toInt64) &&& 3689348814741910323)) + (((((a0 - (((a0.toUInt64 >>> ((1 : Int32).toInt64.toUInt64 &&& Int64.toUInt64 63)).toInt64) &&& 6148914691236517205)) &&& 3689348814741910323) + ((((a0 - (((a0.toUInt64 >>> ((1 : Int32).toInt64.toUInt64 &&& Int64.toUInt64 63)).toInt64) &&& 6148914691236517205)).toUInt64 >>> ((2 : Int32).toInt64.toUInt64 &&& Int64.toUInt64 63)).toInt64) &&& 3689348814741910323)).toUInt64 >>> ((4 : Int32).toInt64.toUInt64 &&& Int64.toUInt64 63)).toInt64)) &&& 1085102592571150095).toUInt64 >>> ((8 : Int32).toInt64.toUInt64 &&& Int64.toUInt64 63)).toInt64)).toUInt64 >>> ((16 : Int32).toInt64.toUInt64 &&& Int64.toUInt64 63)).toInt64)))]) dJ13_bitCount_95d88_47 rfl (by decide) rfl ?_
  refine am_lload_n 0 dJ13_bitCount_95d88_48 rfl rfl ?_
  refine am_lload_n 0 dJ13_bitCount_95d88_49 rfl rfl ?_
  refine am_bipush (x := 32) dJ13_bitCount_95d88_50 (by decide) ?_
  refine am_lushr dJ13_bitCount_95d88_52 ?_
  refine am_ladd dJ13_bitCount_95d88_53 ?_
  refine am_lstore_n (L' := [(0, .long ((((((((a0 - (((a0.toUInt64 >>> ((1 : Int32).toInt64.toUInt64 &&& Int64.toUInt64 63)).toInt64) &&& 6148914691236517205)) &&& 3689348814741910323) + ((((a0 - (((a0.toUInt64 >>> ((1 : Int32).toInt64.toUInt64 &&& Int64.toUInt64 63)).toInt64) &&& 6148914691236517205)).toUInt64 >>> ((2 : Int32).toInt64.toUInt64 &&& Int64.toUInt64 63)).toInt64) &&& 3689348814741910323)) + (((((a0 - (((a0.toUInt64 >>> ((1 : Int32).toInt64.toUInt64 &&& Int64.toUInt64 63)).toInt64) &&& 6148914691236517205)) &&& 3689348814741910323) + ((((a0 - (((a0.toUInt64 >>> ((1 : Int32).toInt64.toUInt64 &&& Int64.toUInt64 63)).toInt64) &&& 6148914691236517205)).toUInt64 >>> ((2 : Int32).toInt64.toUInt64 &&& Int64.toUInt64 63)).toInt64) &&& 3689348814741910323)).toUInt64 >>> ((4 : Int32).toInt64.toUInt64 &&& Int64.toUInt64 63)).toInt64)) &&& 1085102592571150095) + (((((((a0 - (((a0.toUInt64 >>> ((1 : Int32).toInt64.toUInt64 &&& Int64.toUInt64 63)).toInt64) &&& 6148914691236517205)) &&& 3689348814741910323) + ((((a0 - (((a0.toUInt64 >>> ((1 : Int32).toInt64.toUInt64 &&& Int64.toUInt64 63)).toInt64) &&& 6148914691236517205)).toUInt64 >>> ((2 : Int32).toInt64.toUInt64 &&& Int64.toUInt64 63)).toInt64) &&& 3689348814741910323)) + (((((a0 - (((a0.toUInt64 >>> ((1 : Int32).toInt64.toUInt64 &&& Int64.toUInt64 63)).toInt64) &&& 6148914691236517205)) &&& 3689348814741910323) + ((((a0 - (((a0.toUInt64 >>> ((1 : Int32).toInt64.toUInt64 &&& Int64.toUInt64 63)).toInt64) &&& 6148914691236517205)).toUInt64 >>> ((2 : Int32).toInt64.toUInt64 &&& Int64.toUInt64 63)).toInt64) &&& 3689348814741910323)).toUInt64 >>> ((4 : Int32).toInt64.toUInt64 &&& Int64.toUInt64 63)).toInt64)) &&& 1085102592571150095).toUInt64 >>> ((8 : Int32).toInt64.toUInt64 &&& Int64.toUInt64 63)).toInt64)) + ((((((((a0 - (((a0.toUInt64 >>> ((1 : Int32).toInt64.toUInt64 &&& Int64.toUInt64 63)).toInt64) &&& 6148914691236517205)) &&& 3689348814741910323) + ((((a0 - (((a0.toUInt64 >>> ((1 : Int32).toInt64.toUInt64 &&& Int64.toUInt64 63)).toInt64) &&& 6148914691236517205)).toUInt64 >>> ((2 : Int32).toInt64.toUInt64 &&& Int64.toUInt64 63)).toInt64) &&& 3689348814741910323)) + (((((a0 - (((a0.toUInt64 >>> ((1 : Int32).toInt64.toUInt64 &&& Int64.toUInt64 63)).toInt64) &&& 6148914691236517205)) &&& 3689348814741910323) + ((((a0 - (((a0.toUInt64 >>> ((1 : Int32).toInt64.toUInt64 &&& Int64.toUInt64 63)).toInt64) &&& 6148914691236517205)).toUInt64 >>> ((2 : Int32).toInt64.toUInt64 &&& Int64.toUInt64 63)).toInt64) &&& 3689348814741910323)).toUInt64 >>> ((4 : Int32).toInt64.toUInt64 &&& Int64.toUInt64 63)).toInt64)) &&& 1085102592571150095) + (((((((a0 - (((a0.toUInt64 >>> ((1 : Int32).toInt64.toUInt64 &&& Int64.toUInt64 63)).toInt64) &&& 6148914691236517205)) &&& 3689348814741910323) + ((((a0 - (((a0.toUInt64 >>> ((1 : Int32).toInt64.toUInt64 &&& Int64.toUInt64 63)).toInt64) &&& 6148914691236517205)).toUInt64 >>> ((2 : Int32).toInt64.toUInt64 &&& Int64.toUInt64 63)).toInt64) &&& 3689348814741910323)) + (((((a0 - (((a0.toUInt64 >>> ((1 : Int32).toInt64.toUInt64 &&& Int64.toUInt64 63)).toInt64) &&& 6148914691236517205)) &&& 3689348814741910323) + ((((a0 - (((a0.toUInt64 >>> ((1 : Int32).toInt64.toUInt64 &&& Int64.toUInt64 63)).toInt64) &&& 6148914691236517205)).toUInt64 >>> ((2 : Int32).toInt64.toUInt64 &&& Int64.toUInt64 63)).toInt64) &&& 3689348814741910323)).toUInt64 >>> ((4 : Int32).toInt64.toUInt64 &&& Int64.toUInt64 63)).toInt64)) &&& 1085102592571150095).toUInt64 >>> ((8 : Int32).toInt64.toUInt64 &&& Int64.toUInt64 63)).toInt64)).toUInt64 >>> ((16 : Int32).toInt64.toUInt64 &&& Int64.toUInt64 63)).toInt64)) + (((((((((a0 - (((a0.toUInt64 >>> ((1 : Int32).toInt64.toUInt64 &&& Int64.toUInt64 63)).toInt64) &&& 6148914691236517205)) &&& 3689348814741910323) + ((((a0 - (((a0.toUInt64 >>> ((1 : Int32).toInt64.toUInt64 &&& Int64.toUInt64 63)).toInt64) &&& 6148914691236517205)).toUInt64 >>> ((2 : Int32).toInt64.toUInt64 &&& Int64.toUInt64 63)).toInt64) &&& 3689348814741910323)) + (((((a0 - (((a0.toUInt64 >>> ((1 : Int32).toInt64.toUInt64 &&& Int64.toUInt64 63)).toInt64) &&& 6148914691236517205)) &&& 3689348814741910323) + ((((a0 - (((a0.toUInt64 >>> ((1 : Int32).toInt64.toUInt64 &&& Int64.toUInt64 63)).toInt64) &&& 6148914691236517205)).toUInt64 >>> ((2 : Int32).toInt64.toUInt64 &&& Int64.toUInt64 63)).toInt64) &&& 3689348814741910323)).toUInt64 >>> ((4 : Int32).toInt64.toUInt64 &&& Int64.toUInt64 63)).toInt64)) &&& 1085102592571150095) + (((((((a0 - (((a0.toUInt64 >>> ((1 : Int32).toInt64.toUInt64 &&& Int64.toUInt64 63)).toInt64) &&& 6148914691236517205)) &&& 3689348814741910323) + ((((a0 - (((a0.toUInt64 >>> ((1 : Int32).toInt64.toUInt64 &&& Int64.toUInt64 63)).toInt64) &&& 6148914691236517205)).toUInt64 >>> ((2 : Int32).toInt64.toUInt64 &&& Int64.toUInt64 63)).toInt64) &&& 3689348814741910323)) + (((((a0 - (((a0.toUInt64 >>> ((1 : Int32).toInt64.toUInt64 &&& Int64.toUInt64 63)).toInt64) &&& 6148914691236517205)) &&& 3689348814741910323) + ((((a0 - (((a0.toUInt64 >>> ((1 : Int32).toInt64.toUInt64 &&& Int64.toUInt64 63)).toInt64) &&& 6148914691236517205)).toUInt64 >>> ((2 : Int32).toInt64.toUInt64 &&& Int64.toUInt64 63)).toInt64) &&& 3689348814741910323)).toUInt64 >>> ((4 : Int32).toInt64.toUInt64 &&& Int64.toUInt64 63)).toInt64)) &&& 1085102592571150095).toUInt64 >>> ((8 : Int32).toInt64.toUInt64 &&& Int64.toUInt64 63)).toInt64)) + ((((((((a0 - (((a0.toUInt64 >>> ((1 : Int32).toInt64.toUInt64 &&& Int64.toUInt64 63)).toInt64) &&& 6148914691236517205)) &&& 3689348814741910323) + ((((a0 - (((a0.toUInt64 >>> ((1 : Int32).toInt64.toUInt64 &&& Int64.toUInt64 63)).toInt64) &&& 6148914691236517205)).toUInt64 >>> ((2 : Int32).toInt64.toUInt64 &&& Int64.toUInt64 63)).toInt64) &&& 3689348814741910323)) + (((((a0 - (((a0.toUInt64 >>> ((1 : Int32).toInt64.toUInt64 &&& Int64.toUInt64 63)).toInt64) &&& 6148914691236517205)) &&& 3689348814741910323) + ((((a0 - (((a0.toUInt64 >>> ((1 : Int32).toInt64.toUInt64 &&& Int64.toUInt64 63)).toInt64) &&& 6148914691236517205)).toUInt64 >>> ((2 : Int32).toInt64.toUInt64 &&& Int64.toUInt64 63)).toInt64) &&& 3689348814741910323)).toUInt64 >>> ((4 : Int32).toInt64.toUInt64 &&& Int64.toUInt64 63)).toInt64)) &&& 1085102592571150095) + (((((((a0 - (((a0.toUInt64 >>> ((1 : Int32).toInt64.toUInt64 &&& Int64.toUInt64 63)).toInt64) &&& 6148914691236517205)) &&& 3689348814741910323) + ((((a0 - (((a0.toUInt64 >>> ((1 : Int32).toInt64.toUInt64 &&& Int64.toUInt64 63)).toInt64) &&& 6148914691236517205)).toUInt64 >>> ((2 : Int32).toInt64.toUInt64 &&& Int64.toUInt64 63)).toInt64) &&& 3689348814741910323)) + (((((a0 - (((a0.toUInt64 >>> ((1 : Int32).toInt64.toUInt64 &&& Int64.toUInt64 63)).toInt64) &&& 6148914691236517205)) &&& 3689348814741910323) + ((((a0 - (((a0.toUInt64 >>> ((1 : Int32).toInt64.toUInt64 &&& Int64.toUInt64 63)).toInt64) &&& 6148914691236517205)).toUInt64 >>> ((2 : Int32).toInt64.toUInt64 &&& Int64.toUInt64 63)).toInt64) &&& 3689348814741910323)).toUInt64 >>> ((4 : Int32).toInt64.toUInt64 &&& Int64.toUInt64 63)).toInt64)) &&& 1085102592571150095).toUInt64 >>> ((8 : Int32).toInt64.toUInt64 &&& Int64.toUInt64 63)).toInt64)).toUInt64 >>> ((16 : Int32).toInt64.toUInt64 &&& Int64.toUInt64 63)).toInt64)).toUInt64 >>> ((32 : Int32).toInt64.toUInt64 &&& Int64.toUInt64 63)).toInt64)))]) dJ13_bitCount_95d88_54 rfl (by decide) rfl ?_
  refine am_lload_n 0 dJ13_bitCount_95d88_55 rfl rfl ?_
  refine am_l2i dJ13_bitCount_95d88_56 ?_
  refine am_bipush (x := 127) dJ13_bitCount_95d88_57 (by decide) ?_
  refine am_iand dJ13_bitCount_95d88_59 ?_
  exact am_iret dJ13_bitCount_95d88_60
theorem CJ13_bitCount_95d88 (G : am_G) (a0 : Int64) (M : am_M) : am_C am_ei G 0 yJ13_bitCount_95d88 cJ13_bitCount_95d88 2 (some FieldType.int) [.long a0] M (fJ13_bitCount_95d88 a0 M) :=
  am_meth (by decide) rfl (Nat.le_of_ble_eq_true rfl) (sJ13_bitCount_95d88_0 G a0 M)
def fX3_countIn_60 : ((Nat × Int32 × Int32 × Int32 × Int32 × am_M) → Option (Int32 × am_M)) → (Nat × Int32 × Int32 × Int32 × Int32 × am_M) → Option (Int32 × am_M) := fun k60 q0 => match q0 with
  | (x0, x1, x2, x3, x4, M) => if (x1 + x2) / 64 ≤ x4 then some (x3, M) else (M.2.2.1 x0 0).bind fun r6 => if x4 < 0 ∨ am_len M r6 ≤ x4.toNatClampNeg then none else (fJ13_bitCount_95d88 (M.2.1 r6 (x4.toNatClampNeg)) M).bind fun p15 => k60 (x0, x1, x2, x3 + p15.1, x4 + 1, p15.2)
def fX3_countIn (a0 : Nat) (a1 : Int32) (a2 : Int32) (M : am_M) : Option (Int32 × am_M) := if a1 < 0 then some (0, M) else if a2 < 1 then some (0, M) else if a1 ≤ 4096 - a2 then if (64 : Int32) ≤ a2 then am_loop (fX3_countIn_60) 100000 (a0, a1, a2, 0, a1 / 64, M) else (M.2.2.1 a0 0).bind fun r16 => if a1 / 64 < 0 ∨ am_len M r16 ≤ (a1 / 64).toNatClampNeg then none else (fJ13_bitCount_95d88 ((((M.2.1 r16 ((a1 / 64).toNatClampNeg)).toUInt64 >>> ((a1 - a1 / 64 * 64).toInt64.toUInt64 &&& Int64.toUInt64 63)).toInt64) &&& (((1 : Int64) <<< (a2.toInt64 &&& 63)) - 1)) M).bind fun p25 => some (p25.1, p25.2) else some (0, M)
set_option maxRecDepth 100000 in
set_option maxHeartbeats 4000000 in
theorem sX3_countIn_60 (G : am_G) (k60 : (Nat × Int32 × Int32 × Int32 × Int32 × am_M) → Option (Int32 × am_M)) (hk60 : ∀ q : (Nat × Int32 × Int32 × Int32 × Int32 × am_M), (match q with | (x0, x1, x2, x3, x4, M) => am_sh M x0 7) → match q with | (x0, x1, x2, x3, x4, M) => am_S am_ei G 1 yX3_countIn.cls yX3_countIn.name cX3_countIn 5 (some FieldType.int) 60 [(0, .ref x0), (1, .int x1), (2, .int x2), (3, .int x3), (4, .int x4)] [] M (k60 (x0, x1, x2, x3, x4, M))) (x0 : Nat) (x1 : Int32) (x2 : Int32) (x3 : Int32) (x4 : Int32) (M : am_M) (h_x0 : am_sh M x0 7) : am_S am_ei G 1 yX3_countIn.cls yX3_countIn.name cX3_countIn 5 (some FieldType.int) 60 [(0, .ref x0), (1, .int x1), (2, .int x2), (3, .int x3), (4, .int x4)] [] M (fX3_countIn_60 k60 (x0, x1, x2, x3, x4, M)) := by
  show am_S am_ei G 1 yX3_countIn.cls yX3_countIn.name cX3_countIn 5 (some FieldType.int) 60 [(0, .ref x0), (1, .int x1), (2, .int x2), (3, .int x3), (4, .int x4)] [] M (if (x1 + x2) / 64 ≤ x4 then some (x3, M) else (M.2.2.1 x0 0).bind fun r6 => if x4 < 0 ∨ am_len M r6 ≤ x4.toNatClampNeg then none else (fJ13_bitCount_95d88 (M.2.1 r6 (x4.toNatClampNeg)) M).bind fun p15 => k60 (x0, x1, x2, x3 + p15.1, x4 + 1, p15.2))
  refine am_iload 4 dX3_countIn_60 rfl ?_
  refine am_iload_n 1 dX3_countIn_62 rfl rfl ?_
  refine am_iload_n 2 dX3_countIn_63 rfl rfl ?_
  refine am_iadd dX3_countIn_64 ?_
  refine am_bipush (x := 64) dX3_countIn_65 (by decide) ?_
  refine am_idivk dX3_countIn_67 (by decide) ?_
  refine am_icmp_ge (tgt := 90) dX3_countIn_68 (by decide) (fun c5 => ?_) (fun c5 => ?_)
  · refine am_iload_n 3 dX3_countIn_90 rfl rfl ?_
    exact am_iret dX3_countIn_91
  · refine am_iload_n 3 dX3_countIn_71 rfl rfl ?_
    refine am_aload_n 0 dX3_countIn_72 rfl rfl ?_
    refine am_getR 2 dX3_countIn_73 fl_RX3_9 h_x0 rfl (fun r6 e7 h8 => ?_)
    refine am_iload 4 dX3_countIn_76 rfl ?_
    refine am_lald dX3_countIn_78 h8 (fun b9 => ?_)
    refine am_callSi [.long (M.2.1 r6 (x4.toNatClampNeg))] (CJ13_bitCount_95d88 G (M.2.1 r6 (x4.toNatClampNeg)) M) dX3_countIn_79 mb_yJ13_bitCount_95d88 ⟨ml_RX3_25, sm_yJ13_bitCount_95d88⟩ (by decide) rfl rfl (Nat.le_of_ble_eq_true rfl) (fun v14 M11 q10 w13 l12 => ?_)
    refine am_iadd dX3_countIn_82 ?_
    refine am_istore_n (L' := [(3, .int (x3 + v14)), (0, .ref x0), (1, .int x1), (2, .int x2), (4, .int x4)]) dX3_countIn_83 rfl (by decide) rfl ?_
    refine am_iinc (L' := [(4, .int (x4 + 1)), (3, .int (x3 + v14)), (0, .ref x0), (1, .int x1), (2, .int x2)]) 4 dX3_countIn_84 rfl (by rfl) (by decide) rfl ?_
    refine am_goto (tgt := 60) dX3_countIn_87 (by decide) ?_
    refine am_sub [2, 3, 4, 1, 0] rfl ?_
    exact hk60 (x0, x1, x2, x3 + v14, x4 + 1, M11) (am_sh.mono l12 h_x0)
set_option maxRecDepth 100000 in
set_option maxHeartbeats 4000000 in
theorem lX3_countIn_60 (G : am_G) (n : Nat) (q : (Nat × Int32 × Int32 × Int32 × Int32 × am_M)) (hq : match q with | (x0, x1, x2, x3, x4, M) => am_sh M x0 7) : match q with | (x0, x1, x2, x3, x4, M) => am_S am_ei G 1 yX3_countIn.cls yX3_countIn.name cX3_countIn 5 (some FieldType.int) 60 [(0, .ref x0), (1, .int x1), (2, .int x2), (3, .int x3), (4, .int x4)] [] M (am_loop (fX3_countIn_60) n (x0, x1, x2, x3, x4, M)) := by
  exact am_loop_ok (fun q : (Nat × Int32 × Int32 × Int32 × Int32 × am_M) => match q with | (x0, x1, x2, x3, x4, M) => am_sh M x0 7) (fun q X => match q with | (x0, x1, x2, x3, x4, M) => am_S am_ei G 1 yX3_countIn.cls yX3_countIn.name cX3_countIn 5 (some FieldType.int) 60 [(0, .ref x0), (1, .int x1), (2, .int x2), (3, .int x3), (4, .int x4)] [] M X) (fun _ => am_none) (fun k60 hk60 q hq => match q, hq with | (x0, x1, x2, x3, x4, M), h_x0 => sX3_countIn_60 G k60 hk60 x0 x1 x2 x3 x4 M h_x0) n q hq
set_option maxRecDepth 100000 in
set_option maxHeartbeats 4000000 in
theorem sX3_countIn_0 (G : am_G) (a0 : Nat) (a1 : Int32) (a2 : Int32) (M : am_M) (h_a0 : am_sh M a0 7) : am_S am_ei G 1 yX3_countIn.cls yX3_countIn.name cX3_countIn 5 (some FieldType.int) 0 [(0, .ref a0), (1, .int a1), (2, .int a2)] [] M (fX3_countIn a0 a1 a2 M) := by
  show am_S am_ei G 1 yX3_countIn.cls yX3_countIn.name cX3_countIn 5 (some FieldType.int) 0 [(0, .ref a0), (1, .int a1), (2, .int a2)] [] M (if a1 < 0 then some (0, M) else if a2 < 1 then some (0, M) else if a1 ≤ 4096 - a2 then if (64 : Int32) ≤ a2 then am_loop (fX3_countIn_60) 100000 (a0, a1, a2, 0, a1 / 64, M) else (M.2.2.1 a0 0).bind fun r16 => if a1 / 64 < 0 ∨ am_len M r16 ≤ (a1 / 64).toNatClampNeg then none else (fJ13_bitCount_95d88 ((((M.2.1 r16 ((a1 / 64).toNatClampNeg)).toUInt64 >>> ((a1 - a1 / 64 * 64).toInt64.toUInt64 &&& Int64.toUInt64 63)).toInt64) &&& (((1 : Int64) <<< (a2.toInt64 &&& 63)) - 1)) M).bind fun p25 => some (p25.1, p25.2) else some (0, M))
  refine am_iload_n 1 dX3_countIn_0 rfl rfl ?_
  refine am_if_lt (tgt := 18) dX3_countIn_1 (by decide) (fun c1 => ?_) (fun c1 => ?_)
  · refine am_iconst dX3_countIn_18 am_kc_0 ?_
    exact am_iret dX3_countIn_19
  · refine am_iload_n 2 dX3_countIn_4 rfl rfl ?_
    refine am_iconst dX3_countIn_5 am_kc_1 ?_
    refine am_icmp_lt (tgt := 18) dX3_countIn_6 (by decide) (fun c2 => ?_) (fun c2 => ?_)
    · refine am_iconst dX3_countIn_18 am_kc_0 ?_
      exact am_iret dX3_countIn_19
    · refine am_iload_n 1 dX3_countIn_9 rfl rfl ?_
      refine am_sipush (x := 4096) dX3_countIn_10 (by decide) ?_
      refine am_iload_n 2 dX3_countIn_13 rfl rfl ?_
      refine am_isub dX3_countIn_14 ?_
      refine am_icmp_le (tgt := 20) dX3_countIn_15 (by decide) (fun c3 => ?_) (fun c3 => ?_)
      · refine am_iload_n 2 dX3_countIn_20 rfl rfl ?_
        refine am_bipush (x := 64) dX3_countIn_21 (by decide) ?_
        refine am_icmp_ge (tgt := 52) dX3_countIn_23 (by decide) (fun c4 => ?_) (fun c4 => ?_)
        · refine am_iconst dX3_countIn_52 am_kc_0 ?_
          refine am_istore_n (L' := [(3, .int 0), (0, .ref a0), (1, .int a1), (2, .int a2)]) dX3_countIn_53 rfl (by decide) rfl ?_
          refine am_iload_n 2 dX3_countIn_54 rfl rfl ?_
          refine am_bipush (x := 64) dX3_countIn_55 (by decide) ?_
          refine am_idivk dX3_countIn_57 (by decide) ?_
          refine am_istore (L' := [(4, .int (a1 / 64)), (3, .int 0), (0, .ref a0), (1, .int a1), (2, .int a2)]) dX3_countIn_58 (by decide) rfl ?_
          refine am_sub [2, 3, 4, 1, 0] rfl ?_
          exact lX3_countIn_60 G 100000 (a0, a1, a2, 0, a1 / 64, M) h_a0
        · refine am_lconst (x := 1) dX3_countIn_26 rfl ?_
          refine am_iload_n 2 dX3_countIn_27 rfl rfl ?_
          refine am_lshl dX3_countIn_28 ?_
          refine am_lconst (x := 1) dX3_countIn_29 rfl ?_
          refine am_lsub dX3_countIn_30 ?_
          refine am_lstore_n (L' := [(3, .long (((1 : Int64) <<< (a2.toInt64 &&& 63)) - 1)), (0, .ref a0), (1, .int a1), (2, .int a2)]) dX3_countIn_31 rfl (by decide) rfl ?_
          refine am_aload_n 1 dX3_countIn_32 rfl rfl ?_
          refine am_getR 2 dX3_countIn_33 fl_RX3_9 h_a0 rfl (fun r16 e17 h18 => ?_)
          refine am_iload_n 2 dX3_countIn_36 rfl rfl ?_
          refine am_bipush (x := 64) dX3_countIn_37 (by decide) ?_
          refine am_idivk dX3_countIn_39 (by decide) ?_
          refine am_lald dX3_countIn_40 h18 (fun b19 => ?_)
          refine am_iload_n 2 dX3_countIn_41 rfl rfl ?_
          refine am_bipush (x := 64) dX3_countIn_42 (by decide) ?_
          refine am_iremk dX3_countIn_44 (by decide) ?_
          refine am_lushr dX3_countIn_45 ?_
          refine am_lload_n 0 dX3_countIn_46 rfl rfl ?_
          refine am_land dX3_countIn_47 ?_
          refine am_callSi [.long ((((M.2.1 r16 ((a1 / 64).toNatClampNeg)).toUInt64 >>> ((a1 - a1 / 64 * 64).toInt64.toUInt64 &&& Int64.toUInt64 63)).toInt64) &&& (((1 : Int64) <<< (a2.toInt64 &&& 63)) - 1))] (CJ13_bitCount_95d88 G ((((M.2.1 r16 ((a1 / 64).toNatClampNeg)).toUInt64 >>> ((a1 - a1 / 64 * 64).toInt64.toUInt64 &&& Int64.toUInt64 63)).toInt64) &&& (((1 : Int64) <<< (a2.toInt64 &&& 63)) - 1)) M) dX3_countIn_48 mb_yJ13_bitCount_95d88 ⟨ml_RX3_25, sm_yJ13_bitCount_95d88⟩ (by decide) rfl rfl (Nat.le_of_ble_eq_true rfl) (fun v24 M21 q20 w23 l22 => ?_)
          exact am_iret dX3_countIn_51
      · refine am_iconst dX3_countIn_18 am_kc_0 ?_
        exact am_iret dX3_countIn_19
theorem CX3_countIn (G : am_G) (a0 : Nat) (a1 : Int32) (a2 : Int32) (M : am_M) (h_a0 : am_sh M a0 7) : am_C am_ei G 1 yX3_countIn cX3_countIn 5 (some FieldType.int) [.ref a0, .int a1, .int a2] M (fX3_countIn a0 a1 a2 M) :=
  am_meth (by decide) rfl (Nat.le_of_ble_eq_true rfl) (sX3_countIn_0 G a0 a1 a2 M h_a0)
def fX3_addAll_2 : ((Nat × Int32 × Int32 × Int32 × am_M) → Option am_M) → (Nat × Int32 × Int32 × Int32 × am_M) → Option am_M := fun k2 q0 => match q0 with
  | (x0, x1, x2, x3, M) => if x1 + x2 ≤ x3 then some M else (fX3_add x0 x3 M).bind fun M3 => k2 (x0, x1, x2, x3 + 1, M3)
def fX3_addAll (a0 : Nat) (a1 : Int32) (a2 : Int32) (M : am_M) : Option am_M := am_loop (fX3_addAll_2) 100000 (a0, a1, a2, a1, M)
set_option maxRecDepth 100000 in
set_option maxHeartbeats 4000000 in
theorem sX3_addAll_2 (G : am_G) (k2 : (Nat × Int32 × Int32 × Int32 × am_M) → Option am_M) (hk2 : ∀ q : (Nat × Int32 × Int32 × Int32 × am_M), (match q with | (x0, x1, x2, x3, M) => am_sh M x0 7) → match q with | (x0, x1, x2, x3, M) => am_S am_ev G 1 yX3_addAll.cls yX3_addAll.name cX3_addAll 4 none 2 [(0, .ref x0), (1, .int x1), (2, .int x2), (3, .int x3)] [] M (k2 (x0, x1, x2, x3, M))) (x0 : Nat) (x1 : Int32) (x2 : Int32) (x3 : Int32) (M : am_M) (h_x0 : am_sh M x0 7) : am_S am_ev G 1 yX3_addAll.cls yX3_addAll.name cX3_addAll 4 none 2 [(0, .ref x0), (1, .int x1), (2, .int x2), (3, .int x3)] [] M (fX3_addAll_2 k2 (x0, x1, x2, x3, M)) := by
  show am_S am_ev G 1 yX3_addAll.cls yX3_addAll.name cX3_addAll 4 none 2 [(0, .ref x0), (1, .int x1), (2, .int x2), (3, .int x3)] [] M (if x1 + x2 ≤ x3 then some M else (fX3_add x0 x3 M).bind fun M3 => k2 (x0, x1, x2, x3 + 1, M3))
  refine am_iload_n 3 dX3_addAll_2 rfl rfl ?_
  refine am_iload_n 1 dX3_addAll_3 rfl rfl ?_
  refine am_iload_n 2 dX3_addAll_4 rfl rfl ?_
  refine am_iadd dX3_addAll_5 ?_
  refine am_icmp_ge (tgt := 20) dX3_addAll_6 (by decide) (fun c1 => ?_) (fun c1 => ?_)
  · exact am_vret dX3_addAll_20
  · refine am_aload_n 0 dX3_addAll_9 rfl rfl ?_
    refine am_iload_n 3 dX3_addAll_10 rfl rfl ?_
    refine am_callVv 2 [.int x3] (CX3_add G x0 x3 M h_x0) dX3_addAll_11 mb_yX3_add ⟨ml_RX3_21, im_yX3_add, se_yX3_add⟩ rfl h_x0 (by decide) rfl rfl (Nat.le_of_ble_eq_true rfl) (fun M3 q2 w5 l4 => ?_)
    refine am_iinc (L' := [(3, .int (x3 + 1)), (0, .ref x0), (1, .int x1), (2, .int x2)]) 3 dX3_addAll_14 rfl (by rfl) (by decide) rfl ?_
    refine am_goto (tgt := 2) dX3_addAll_17 (by decide) ?_
    refine am_sub [1, 2, 3, 0] rfl ?_
    exact hk2 (x0, x1, x2, x3 + 1, M3) (am_sh.mono l4 h_x0)
set_option maxRecDepth 100000 in
set_option maxHeartbeats 4000000 in
theorem lX3_addAll_2 (G : am_G) (n : Nat) (q : (Nat × Int32 × Int32 × Int32 × am_M)) (hq : match q with | (x0, x1, x2, x3, M) => am_sh M x0 7) : match q with | (x0, x1, x2, x3, M) => am_S am_ev G 1 yX3_addAll.cls yX3_addAll.name cX3_addAll 4 none 2 [(0, .ref x0), (1, .int x1), (2, .int x2), (3, .int x3)] [] M (am_loop (fX3_addAll_2) n (x0, x1, x2, x3, M)) := by
  exact am_loop_ok (fun q : (Nat × Int32 × Int32 × Int32 × am_M) => match q with | (x0, x1, x2, x3, M) => am_sh M x0 7) (fun q X => match q with | (x0, x1, x2, x3, M) => am_S am_ev G 1 yX3_addAll.cls yX3_addAll.name cX3_addAll 4 none 2 [(0, .ref x0), (1, .int x1), (2, .int x2), (3, .int x3)] [] M X) (fun _ => am_none) (fun k2 hk2 q hq => match q, hq with | (x0, x1, x2, x3, M), h_x0 => sX3_addAll_2 G k2 hk2 x0 x1 x2 x3 M h_x0) n q hq
set_option maxRecDepth 100000 in
set_option maxHeartbeats 4000000 in
theorem sX3_addAll_0 (G : am_G) (a0 : Nat) (a1 : Int32) (a2 : Int32) (M : am_M) (h_a0 : am_sh M a0 7) : am_S am_ev G 1 yX3_addAll.cls yX3_addAll.name cX3_addAll 4 none 0 [(0, .ref a0), (1, .int a1), (2, .int a2)] [] M (fX3_addAll a0 a1 a2 M) := by
  show am_S am_ev G 1 yX3_addAll.cls yX3_addAll.name cX3_addAll 4 none 0 [(0, .ref a0), (1, .int a1), (2, .int a2)] [] M (am_loop (fX3_addAll_2) 100000 (a0, a1, a2, a1, M))
  refine am_iload_n 1 dX3_addAll_0 rfl rfl ?_
  refine am_istore_n (L' := [(3, .int a1), (0, .ref a0), (1, .int a1), (2, .int a2)]) dX3_addAll_1 rfl (by decide) rfl ?_
  refine am_sub [1, 2, 3, 0] rfl ?_
  exact lX3_addAll_2 G 100000 (a0, a1, a2, a1, M) h_a0
theorem CX3_addAll (G : am_G) (a0 : Nat) (a1 : Int32) (a2 : Int32) (M : am_M) (h_a0 : am_sh M a0 7) : am_C am_ev G 1 yX3_addAll cX3_addAll 4 none [.ref a0, .int a1, .int a2] M (fX3_addAll a0 a1 a2 M) :=
  am_meth (by decide) rfl (Nat.le_of_ble_eq_true rfl) (sX3_addAll_0 G a0 a1 a2 M h_a0)
def fX0_findCovers_90 (k35 : (Nat × Int32 × Int32 × Int32 × am_M) → Option am_M) (x0 : Nat) (x2 : Int32) (x3 : Int32) (x4 : Int32) (M : am_M) : Option am_M := k35 (x0, x2, x3, x4 + 1, M)
def fX0_findCovers_72 (k35 : (Nat × Int32 × Int32 × Int32 × am_M) → Option am_M) (x0 : Nat) (x2 : Int32) (x3 : Int32) (x4 : Int32) (x5 : Int32) (M : am_M) : Option am_M := if x5 = x2 then (M.2.2.1 x0 2).bind fun r35 => (fX3_addAll r35 (x4 * x2) x2 M).bind fun M39 => fX0_findCovers_90 k35 x0 x2 x3 x4 M39 else fX0_findCovers_90 k35 x0 x2 x3 x4 M
def fX0_findCovers_35 : ((Nat × Int32 × Int32 × Int32 × am_M) → Option am_M) → (Nat × Int32 × Int32 × Int32 × am_M) → Option am_M := fun k35 q0 => match q0 with
  | (x0, x2, x3, x4, M) => if x3 ≤ x4 then some M else (M.2.2.1 x0 0).bind fun r24 => (fX3_countIn r24 (x4 * x2) x2 M).bind fun p32 => if p32.1 ≤ 0 then fX0_findCovers_72 k35 x0 x2 x3 x4 p32.1 p32.2 else (p32.2.2.2.1 x0 1).bind fun r43 => (fX3_addAll r43 (x4 * x2) x2 p32.2).bind fun M47 => fX0_findCovers_72 k35 x0 x2 x3 x4 p32.1 M47
def fX0_findCovers (a0 : Nat) (a1 : Nat) (M : am_M) : Option am_M := (M.2.2.1 a0 1).bind fun r1 => (fX3_clear r1 M).bind fun M5 => (M5.2.2.1 a0 2).bind fun r9 => (fX3_clear r9 M5).bind fun M13 => (fX5_tileSize a1 (M13.1 a1 6) M13).bind fun p22 => am_loop (fX0_findCovers_35) 100000 (a0, p22.1, 1 <<< ((2 * (p22.2.1 a1 6)) &&& 31), 0, p22.2)
set_option maxRecDepth 100000 in
set_option maxHeartbeats 4000000 in
theorem sX0_findCovers_90 (G : am_G) (k35 : (Nat × Int32 × Int32 × Int32 × am_M) → Option am_M) (hk35 : ∀ q : (Nat × Int32 × Int32 × Int32 × am_M), (match q with | (x0, x2, x3, x4, M) => am_sh M x0 5) → match q with | (x0, x2, x3, x4, M) => am_S am_ev G 2 yX0_findCovers.cls yX0_findCovers.name cX0_findCovers 6 none 35 [(0, .ref x0), (2, .int x2), (3, .int x3), (4, .int x4)] [] M (k35 (x0, x2, x3, x4, M))) (x0 : Nat) (x2 : Int32) (x3 : Int32) (x4 : Int32) (M : am_M) (h_x0 : am_sh M x0 5) : am_S am_ev G 2 yX0_findCovers.cls yX0_findCovers.name cX0_findCovers 6 none 90 [(0, .ref x0), (2, .int x2), (3, .int x3), (4, .int x4)] [] M (fX0_findCovers_90 k35 x0 x2 x3 x4 M) := by
  show am_S am_ev G 2 yX0_findCovers.cls yX0_findCovers.name cX0_findCovers 6 none 90 [(0, .ref x0), (2, .int x2), (3, .int x3), (4, .int x4)] [] M (k35 (x0, x2, x3, x4 + 1, M))
  refine am_iinc (L' := [(4, .int (x4 + 1)), (0, .ref x0), (2, .int x2), (3, .int x3)]) 3 dX0_findCovers_90 rfl (by rfl) (by decide) rfl ?_
  refine am_goto (tgt := 35) dX0_findCovers_93 (by decide) ?_
  refine am_sub [1, 2, 3, 0] rfl ?_
  exact hk35 (x0, x2, x3, x4 + 1, M) h_x0
set_option maxRecDepth 100000 in
set_option maxHeartbeats 4000000 in
theorem sX0_findCovers_72 (G : am_G) (k35 : (Nat × Int32 × Int32 × Int32 × am_M) → Option am_M) (hk35 : ∀ q : (Nat × Int32 × Int32 × Int32 × am_M), (match q with | (x0, x2, x3, x4, M) => am_sh M x0 5) → match q with | (x0, x2, x3, x4, M) => am_S am_ev G 2 yX0_findCovers.cls yX0_findCovers.name cX0_findCovers 6 none 35 [(0, .ref x0), (2, .int x2), (3, .int x3), (4, .int x4)] [] M (k35 (x0, x2, x3, x4, M))) (x0 : Nat) (x2 : Int32) (x3 : Int32) (x4 : Int32) (x5 : Int32) (M : am_M) (h_x0 : am_sh M x0 5) : am_S am_ev G 2 yX0_findCovers.cls yX0_findCovers.name cX0_findCovers 6 none 72 [(0, .ref x0), (2, .int x2), (3, .int x3), (4, .int x4), (5, .int x5)] [] M (fX0_findCovers_72 k35 x0 x2 x3 x4 x5 M) := by
  show am_S am_ev G 2 yX0_findCovers.cls yX0_findCovers.name cX0_findCovers 6 none 72 [(0, .ref x0), (2, .int x2), (3, .int x3), (4, .int x4), (5, .int x5)] [] M (if x5 = x2 then (M.2.2.1 x0 2).bind fun r35 => (fX3_addAll r35 (x4 * x2) x2 M).bind fun M39 => fX0_findCovers_90 k35 x0 x2 x3 x4 M39 else fX0_findCovers_90 k35 x0 x2 x3 x4 M)
  refine am_iload 4 dX0_findCovers_72 rfl ?_
  refine am_iload_n 1 dX0_findCovers_74 rfl rfl ?_
  refine am_icmp_ne (tgt := 90) dX0_findCovers_75 (by decide) (fun c34 => ?_) (fun c34 => ?_)
  · refine am_sub [0, 1, 2, 3] rfl ?_
    exact sX0_findCovers_90 G k35 hk35 x0 x2 x3 x4 M h_x0
  · refine am_aload_n 0 dX0_findCovers_78 rfl rfl ?_
    refine am_getR 0 dX0_findCovers_79 fl_RX0_21 h_x0 rfl (fun r35 e36 h37 => ?_)
    refine am_iload 3 dX0_findCovers_82 rfl ?_
    refine am_iload_n 1 dX0_findCovers_84 rfl rfl ?_
    refine am_imul dX0_findCovers_85 ?_
    refine am_iload_n 1 dX0_findCovers_86 rfl rfl ?_
    refine am_callVv 2 [.int (x4 * x2), .int x2] (CX3_addAll G r35 (x4 * x2) x2 M h37) dX0_findCovers_87 mb_yX3_addAll ⟨ml_RX0_92, im_yX3_addAll, se_yX3_addAll⟩ rfl h37 (by decide) rfl rfl (Nat.le_of_ble_eq_true rfl) (fun M39 q38 w41 l40 => ?_)
    refine am_sub [0, 1, 2, 3] rfl ?_
    exact sX0_findCovers_90 G k35 hk35 x0 x2 x3 x4 M39 (am_sh.mono l40 h_x0)
set_option maxRecDepth 100000 in
set_option maxHeartbeats 4000000 in
theorem sX0_findCovers_35 (G : am_G) (k35 : (Nat × Int32 × Int32 × Int32 × am_M) → Option am_M) (hk35 : ∀ q : (Nat × Int32 × Int32 × Int32 × am_M), (match q with | (x0, x2, x3, x4, M) => am_sh M x0 5) → match q with | (x0, x2, x3, x4, M) => am_S am_ev G 2 yX0_findCovers.cls yX0_findCovers.name cX0_findCovers 6 none 35 [(0, .ref x0), (2, .int x2), (3, .int x3), (4, .int x4)] [] M (k35 (x0, x2, x3, x4, M))) (x0 : Nat) (x2 : Int32) (x3 : Int32) (x4 : Int32) (M : am_M) (h_x0 : am_sh M x0 5) : am_S am_ev G 2 yX0_findCovers.cls yX0_findCovers.name cX0_findCovers 6 none 35 [(0, .ref x0), (2, .int x2), (3, .int x3), (4, .int x4)] [] M (fX0_findCovers_35 k35 (x0, x2, x3, x4, M)) := by
  show am_S am_ev G 2 yX0_findCovers.cls yX0_findCovers.name cX0_findCovers 6 none 35 [(0, .ref x0), (2, .int x2), (3, .int x3), (4, .int x4)] [] M (if x3 ≤ x4 then some M else (M.2.2.1 x0 0).bind fun r24 => (fX3_countIn r24 (x4 * x2) x2 M).bind fun p32 => if p32.1 ≤ 0 then fX0_findCovers_72 k35 x0 x2 x3 x4 p32.1 p32.2 else (p32.2.2.2.1 x0 1).bind fun r43 => (fX3_addAll r43 (x4 * x2) x2 p32.2).bind fun M47 => fX0_findCovers_72 k35 x0 x2 x3 x4 p32.1 M47)
  refine am_iload 3 dX0_findCovers_35 rfl ?_
  refine am_iload_n 2 dX0_findCovers_37 rfl rfl ?_
  refine am_icmp_ge (tgt := 96) dX0_findCovers_38 (by decide) (fun c23 => ?_) (fun c23 => ?_)
  · exact am_vret dX0_findCovers_96
  · refine am_aload_n 0 dX0_findCovers_41 rfl rfl ?_
    refine am_getR 0 dX0_findCovers_42 fl_RX0_12 h_x0 rfl (fun r24 e25 h26 => ?_)
    refine am_iload 3 dX0_findCovers_45 rfl ?_
    refine am_iload_n 1 dX0_findCovers_47 rfl rfl ?_
    refine am_imul dX0_findCovers_48 ?_
    refine am_iload_n 1 dX0_findCovers_49 rfl rfl ?_
    refine am_callVi 2 [.int (x4 * x2), .int x2] (CX3_countIn G r24 (x4 * x2) x2 M h26) dX0_findCovers_50 mb_yX3_countIn ⟨ml_RX0_89, im_yX3_countIn, se_yX3_countIn⟩ rfl h26 (by decide) rfl rfl (Nat.le_of_ble_eq_true rfl) (fun v31 M28 q27 w30 l29 => ?_)
    refine am_istore (L' := [(5, .int v31), (0, .ref x0), (2, .int x2), (3, .int x3), (4, .int x4)]) dX0_findCovers_53 (by decide) rfl ?_
    refine am_iload 0 dX0_findCovers_55 rfl ?_
    refine am_if_le (tgt := 72) dX0_findCovers_57 (by decide) (fun c33 => ?_) (fun c33 => ?_)
    · refine am_sub [1, 2, 3, 4, 0] rfl ?_
      exact sX0_findCovers_72 G k35 hk35 x0 x2 x3 x4 v31 M28 (am_sh.mono l29 h_x0)
    · refine am_aload_n 1 dX0_findCovers_60 rfl rfl ?_
      refine am_getR 0 dX0_findCovers_61 fl_RX0_18 (am_sh.mono l29 h_x0) rfl (fun r43 e44 h45 => ?_)
      refine am_iload 4 dX0_findCovers_64 rfl ?_
      refine am_iload_n 2 dX0_findCovers_66 rfl rfl ?_
      refine am_imul dX0_findCovers_67 ?_
      refine am_iload_n 2 dX0_findCovers_68 rfl rfl ?_
      refine am_callVv 2 [.int (x4 * x2), .int x2] (CX3_addAll G r43 (x4 * x2) x2 M28 h45) dX0_findCovers_69 mb_yX3_addAll ⟨ml_RX0_92, im_yX3_addAll, se_yX3_addAll⟩ rfl h45 (by decide) rfl rfl (Nat.le_of_ble_eq_true rfl) (fun M47 q46 w49 l48 => ?_)
      refine am_sub [1, 2, 3, 4, 0] rfl ?_
      exact sX0_findCovers_72 G k35 hk35 x0 x2 x3 x4 v31 M47 (am_sh.mono l48 (am_sh.mono l29 h_x0))
set_option maxRecDepth 100000 in
set_option maxHeartbeats 4000000 in
theorem lX0_findCovers_35 (G : am_G) (n : Nat) (q : (Nat × Int32 × Int32 × Int32 × am_M)) (hq : match q with | (x0, x2, x3, x4, M) => am_sh M x0 5) : match q with | (x0, x2, x3, x4, M) => am_S am_ev G 2 yX0_findCovers.cls yX0_findCovers.name cX0_findCovers 6 none 35 [(0, .ref x0), (2, .int x2), (3, .int x3), (4, .int x4)] [] M (am_loop (fX0_findCovers_35) n (x0, x2, x3, x4, M)) := by
  exact am_loop_ok (fun q : (Nat × Int32 × Int32 × Int32 × am_M) => match q with | (x0, x2, x3, x4, M) => am_sh M x0 5) (fun q X => match q with | (x0, x2, x3, x4, M) => am_S am_ev G 2 yX0_findCovers.cls yX0_findCovers.name cX0_findCovers 6 none 35 [(0, .ref x0), (2, .int x2), (3, .int x3), (4, .int x4)] [] M X) (fun _ => am_none) (fun k35 hk35 q hq => match q, hq with | (x0, x2, x3, x4, M), h_x0 => sX0_findCovers_35 G k35 hk35 x0 x2 x3 x4 M h_x0) n q hq
set_option maxRecDepth 100000 in
set_option maxHeartbeats 4000000 in
theorem sX0_findCovers_0 (G : am_G) (a0 : Nat) (a1 : Nat) (M : am_M) (h_a0 : am_sh M a0 5) (h_a1 : am_sh M a1 9) : am_S am_ev G 2 yX0_findCovers.cls yX0_findCovers.name cX0_findCovers 6 none 0 [(0, .ref a0), (1, .ref a1)] [] M (fX0_findCovers a0 a1 M) := by
  show am_S am_ev G 2 yX0_findCovers.cls yX0_findCovers.name cX0_findCovers 6 none 0 [(0, .ref a0), (1, .ref a1)] [] M ((M.2.2.1 a0 1).bind fun r1 => (fX3_clear r1 M).bind fun M5 => (M5.2.2.1 a0 2).bind fun r9 => (fX3_clear r9 M5).bind fun M13 => (fX5_tileSize a1 (M13.1 a1 6) M13).bind fun p22 => am_loop (fX0_findCovers_35) 100000 (a0, p22.1, 1 <<< ((2 * (p22.2.1 a1 6)) &&& 31), 0, p22.2))
  refine am_aload_n 0 dX0_findCovers_0 rfl rfl ?_
  refine am_getR 0 dX0_findCovers_1 fl_RX0_18 h_a0 rfl (fun r1 e2 h3 => ?_)
  refine am_callVv 2 [] (CX3_clear G r1 M h3) dX0_findCovers_4 mb_yX3_clear ⟨ml_RX0_52, im_yX3_clear, se_yX3_clear⟩ rfl h3 (by decide) rfl rfl (Nat.le_of_ble_eq_true rfl) (fun M5 q4 w7 l6 => ?_)
  refine am_aload_n 0 dX0_findCovers_7 rfl rfl ?_
  refine am_getR 0 dX0_findCovers_8 fl_RX0_21 (am_sh.mono l6 h_a0) rfl (fun r9 e10 h11 => ?_)
  refine am_callVv 2 [] (CX3_clear G r9 M5 h11) dX0_findCovers_11 mb_yX3_clear ⟨ml_RX0_52, im_yX3_clear, se_yX3_clear⟩ rfl h11 (by decide) rfl rfl (Nat.le_of_ble_eq_true rfl) (fun M13 q12 w15 l14 => ?_)
  refine am_aload_n 1 dX0_findCovers_14 rfl rfl ?_
  refine am_aload_n 1 dX0_findCovers_15 rfl rfl ?_
  refine am_getI 4 dX0_findCovers_16 fl_RX0_86 (am_sh.mono l14 (am_sh.mono l6 h_a1)) rfl ?_
  refine am_callVi 4 [.int (M13.1 a1 6)] (CX5_tileSize G a1 (M13.1 a1 6) M13 (am_sh.mono l14 (am_sh.mono l6 h_a1))) dX0_findCovers_19 mb_yX5_tileSize ⟨ml_RX0_55, im_yX5_tileSize, se_yX5_tileSize⟩ rfl (am_sh.mono l14 (am_sh.mono l6 h_a1)) (by decide) rfl rfl (Nat.le_of_ble_eq_true rfl) (fun v21 M18 q17 w20 l19 => ?_)
  refine am_istore_n (L' := [(2, .int v21), (0, .ref a0), (1, .ref a1)]) dX0_findCovers_22 rfl (by decide) rfl ?_
  refine am_iconst dX0_findCovers_23 am_kc_1 ?_
  refine am_iconst dX0_findCovers_24 am_kc_2 ?_
  refine am_aload_n 2 dX0_findCovers_25 rfl rfl ?_
  refine am_getI 4 dX0_findCovers_26 fl_RX0_86 (am_sh.mono l19 (am_sh.mono l14 (am_sh.mono l6 h_a1))) rfl ?_
  refine am_imul dX0_findCovers_29 ?_
  refine am_ishl dX0_findCovers_30 ?_
  refine am_istore_n (L' := [(3, .int (1 <<< ((2 * (M18.1 a1 6)) &&& 31))), (2, .int v21), (0, .ref a0), (1, .ref a1)]) dX0_findCovers_31 rfl (by decide) rfl ?_
  refine am_iconst dX0_findCovers_32 am_kc_0 ?_
  refine am_istore (L' := [(4, .int 0), (3, .int (1 <<< ((2 * (M18.1 a1 6)) &&& 31))), (2, .int v21), (0, .ref a0), (1, .ref a1)]) dX0_findCovers_33 (by decide) rfl ?_
  refine am_sub [3, 2, 1, 0] rfl ?_
  exact lX0_findCovers_35 G 100000 (a0, v21, 1 <<< ((2 * (M18.1 a1 6)) &&& 31), 0, M18) (am_sh.mono l19 (am_sh.mono l14 (am_sh.mono l6 h_a0)))
theorem CX0_findCovers (G : am_G) (a0 : Nat) (a1 : Nat) (M : am_M) (h_a0 : am_sh M a0 5) (h_a1 : am_sh M a1 9) : am_C am_ev G 2 yX0_findCovers cX0_findCovers 6 none [.ref a0, .ref a1] M (fX0_findCovers a0 a1 M) :=
  am_meth (by decide) rfl (Nat.le_of_ble_eq_true rfl) (sX0_findCovers_0 G a0 a1 M h_a0 h_a1)
def fX0_refresh (a0 : Nat) (a1 : Nat) (M : am_M) : Option am_M := if M.1 a0 5 = 0 then (fX0_findShape a0 a1 (am_pI M a0 5 1)).bind fun M3 => (fX0_findCovers a0 a1 M3).bind fun M8 => some M8 else some M
set_option maxRecDepth 100000 in
set_option maxHeartbeats 4000000 in
theorem sX0_refresh_0 (G : am_G) (a0 : Nat) (a1 : Nat) (M : am_M) (h_a0 : am_sh M a0 5) (h_a1 : am_sh M a1 9) : am_S am_ev G 3 yX0_refresh.cls yX0_refresh.name cX0_refresh 2 none 0 [(0, .ref a0), (1, .ref a1)] [] M (fX0_refresh a0 a1 M) := by
  show am_S am_ev G 3 yX0_refresh.cls yX0_refresh.name cX0_refresh 2 none 0 [(0, .ref a0), (1, .ref a1)] [] M (if M.1 a0 5 = 0 then (fX0_findShape a0 a1 (am_pI M a0 5 1)).bind fun M3 => (fX0_findCovers a0 a1 M3).bind fun M8 => some M8 else some M)
  refine am_aload_n 0 dX0_refresh_0 rfl rfl ?_
  refine am_getI 0 dX0_refresh_1 fl_RX0_38 h_a0 rfl ?_
  refine am_if_eq (tgt := 8) dX0_refresh_4 (by decide) (fun c1 => ?_) (fun c1 => ?_)
  · refine am_aload_n 0 dX0_refresh_8 rfl rfl ?_
    refine am_iconst dX0_refresh_9 am_kc_1 ?_
    refine am_putI 0 dX0_refresh_10 fl_RX0_38 h_a0 rfl rfl rfl rfl ?_
    refine am_aload_n 0 dX0_refresh_13 rfl rfl ?_
    refine am_aload_n 1 dX0_refresh_14 rfl rfl ?_
    refine am_callVv 0 [.ref a1] (CX0_findShape G a0 a1 (am_pI M a0 5 1) (am_sh.of h_a0 rfl) (am_sh.of h_a1 rfl)) dX0_refresh_15 mb_yX0_findShape ⟨ml_RX0_45, im_yX0_findShape, se_yX0_findShape⟩ rfl (am_sh.of h_a0 rfl) (by decide) rfl rfl (Nat.le_of_ble_eq_true rfl) (fun M3 q2 w5 l4 => ?_)
    refine am_aload_n 0 dX0_refresh_18 rfl rfl ?_
    refine am_aload_n 1 dX0_refresh_19 rfl rfl ?_
    refine am_callVv 0 [.ref a1] (CX0_findCovers G a0 a1 M3 (am_sh.mono l4 (am_sh.of h_a0 rfl)) (am_sh.mono l4 (am_sh.of h_a1 rfl))) dX0_refresh_20 mb_yX0_findCovers ⟨ml_RX0_49, im_yX0_findCovers, se_yX0_findCovers⟩ rfl (am_sh.mono l4 (am_sh.of h_a0 rfl)) (by decide) rfl rfl (Nat.le_of_ble_eq_true rfl) (fun M8 q7 w10 l9 => ?_)
    exact am_vret dX0_refresh_23
  · exact am_vret dX0_refresh_7
theorem CX0_refresh (G : am_G) (a0 : Nat) (a1 : Nat) (M : am_M) (h_a0 : am_sh M a0 5) (h_a1 : am_sh M a1 9) : am_C am_ev G 3 yX0_refresh cX0_refresh 2 none [.ref a0, .ref a1] M (fX0_refresh a0 a1 M) :=
  am_meth (by decide) rfl (Nat.le_of_ble_eq_true rfl) (sX0_refresh_0 G a0 a1 M h_a0 h_a1)
def fX0_widestAt_55 (k5 : (Nat × Nat × Int32 × Int32 × am_M) → Option (Int32 × am_M)) (x0 : Nat) (x1 : Nat) (x2 : Int32) (x3 : Int32) (M : am_M) : Option (Int32 × am_M) := k5 (x0, x1, x2, x3 + 1, M)
def fX0_widestAt_34 (k5 : (Nat × Nat × Int32 × Int32 × am_M) → Option (Int32 × am_M)) (x0 : Nat) (x1 : Nat) (x2 : Int32) (x3 : Int32) (x4 : Int32) (s0 : Int32) (M : am_M) : Option (Int32 × am_M) := if s0 = 0 then fX0_widestAt_55 k5 x0 x1 x2 x3 M else (fX3_countIn x1 x2 x4 M).bind fun p15 => if p15.1 = x4 then some (x3, p15.2) else fX0_widestAt_55 k5 x0 x1 x2 x3 p15.2
def fX0_widestAt_5 : ((Nat × Nat × Int32 × Int32 × am_M) → Option (Int32 × am_M)) → (Nat × Nat × Int32 × Int32 × am_M) → Option (Int32 × am_M) := fun k5 q0 => match q0 with
  | (x0, x1, x2, x3, M) => if M.1 x0 6 < x3 then some ((-4), M) else (fX5_tileSize x0 x3 M).bind fun p7 => if x2 &&& (p7.1 - 1) = 0 then fX0_widestAt_34 k5 x0 x1 x2 x3 p7.1 1 p7.2 else fX0_widestAt_34 k5 x0 x1 x2 x3 p7.1 0 p7.2
def fX0_widestAt (a0 : Nat) (a1 : Nat) (a2 : Int32) (M : am_M) : Option (Int32 × am_M) := am_loop (fX0_widestAt_5) 100000 (a0, a1, a2, M.1 a0 5, M)
set_option maxRecDepth 100000 in
set_option maxHeartbeats 4000000 in
theorem sX0_widestAt_55 (G : am_G) (k5 : (Nat × Nat × Int32 × Int32 × am_M) → Option (Int32 × am_M)) (hk5 : ∀ q : (Nat × Nat × Int32 × Int32 × am_M), (match q with | (x0, x1, x2, x3, M) => am_sh M x0 9 ∧ am_sh M x1 7) → match q with | (x0, x1, x2, x3, M) => am_S am_ei G 2 yX0_widestAt.cls yX0_widestAt.name cX0_widestAt 6 (some FieldType.int) 5 [(0, .ref x0), (1, .ref x1), (2, .int x2), (3, .int x3)] [] M (k5 (x0, x1, x2, x3, M))) (x0 : Nat) (x1 : Nat) (x2 : Int32) (x3 : Int32) (M : am_M) (h_x0 : am_sh M x0 9) (h_x1 : am_sh M x1 7) : am_S am_ei G 2 yX0_widestAt.cls yX0_widestAt.name cX0_widestAt 6 (some FieldType.int) 55 [(0, .ref x0), (1, .ref x1), (2, .int x2), (3, .int x3)] [] M (fX0_widestAt_55 k5 x0 x1 x2 x3 M) := by
  show am_S am_ei G 2 yX0_widestAt.cls yX0_widestAt.name cX0_widestAt 6 (some FieldType.int) 55 [(0, .ref x0), (1, .ref x1), (2, .int x2), (3, .int x3)] [] M (k5 (x0, x1, x2, x3 + 1, M))
  refine am_iinc (L' := [(3, .int (x3 + 1)), (0, .ref x0), (1, .ref x1), (2, .int x2)]) 3 dX0_widestAt_55 rfl (by rfl) (by decide) rfl ?_
  refine am_goto (tgt := 5) dX0_widestAt_58 (by decide) ?_
  refine am_sub [1, 2, 3, 0] rfl ?_
  exact hk5 (x0, x1, x2, x3 + 1, M) ⟨h_x0, h_x1⟩
set_option maxRecDepth 100000 in
set_option maxHeartbeats 4000000 in
theorem sX0_widestAt_34 (G : am_G) (k5 : (Nat × Nat × Int32 × Int32 × am_M) → Option (Int32 × am_M)) (hk5 : ∀ q : (Nat × Nat × Int32 × Int32 × am_M), (match q with | (x0, x1, x2, x3, M) => am_sh M x0 9 ∧ am_sh M x1 7) → match q with | (x0, x1, x2, x3, M) => am_S am_ei G 2 yX0_widestAt.cls yX0_widestAt.name cX0_widestAt 6 (some FieldType.int) 5 [(0, .ref x0), (1, .ref x1), (2, .int x2), (3, .int x3)] [] M (k5 (x0, x1, x2, x3, M))) (x0 : Nat) (x1 : Nat) (x2 : Int32) (x3 : Int32) (x4 : Int32) (s0 : Int32) (M : am_M) (h_x0 : am_sh M x0 9) (h_x1 : am_sh M x1 7) : am_S am_ei G 2 yX0_widestAt.cls yX0_widestAt.name cX0_widestAt 6 (some FieldType.int) 34 [(0, .ref x0), (1, .ref x1), (2, .int x2), (3, .int x3), (4, .int x4)] [.int s0] M (fX0_widestAt_34 k5 x0 x1 x2 x3 x4 s0 M) := by
  show am_S am_ei G 2 yX0_widestAt.cls yX0_widestAt.name cX0_widestAt 6 (some FieldType.int) 34 [(0, .ref x0), (1, .ref x1), (2, .int x2), (3, .int x3), (4, .int x4)] [.int s0] M (if s0 = 0 then fX0_widestAt_55 k5 x0 x1 x2 x3 M else (fX3_countIn x1 x2 x4 M).bind fun p15 => if p15.1 = x4 then some (x3, p15.2) else fX0_widestAt_55 k5 x0 x1 x2 x3 p15.2)
  refine am_istore (L' := [(5, .int s0), (0, .ref x0), (1, .ref x1), (2, .int x2), (3, .int x3), (4, .int x4)]) dX0_widestAt_34 (by decide) rfl ?_
  refine am_iload 0 dX0_widestAt_36 rfl ?_
  refine am_if_eq (tgt := 55) dX0_widestAt_38 (by decide) (fun c9 => ?_) (fun c9 => ?_)
  · refine am_sub [1, 2, 3, 4] rfl ?_
    exact sX0_widestAt_55 G k5 hk5 x0 x1 x2 x3 M h_x0 h_x1
  · refine am_aload_n 2 dX0_widestAt_41 rfl rfl ?_
    refine am_iload_n 3 dX0_widestAt_42 rfl rfl ?_
    refine am_iload 5 dX0_widestAt_43 rfl ?_
    refine am_callVi 2 [.int x2, .int x4] (CX3_countIn G x1 x2 x4 M h_x1) dX0_widestAt_45 mb_yX3_countIn ⟨ml_RX0_89, im_yX3_countIn, se_yX3_countIn⟩ rfl h_x1 (by decide) rfl rfl (Nat.le_of_ble_eq_true rfl) (fun v14 M11 q10 w13 l12 => ?_)
    refine am_iload 5 dX0_widestAt_48 rfl ?_
    refine am_icmp_ne (tgt := 55) dX0_widestAt_50 (by decide) (fun c16 => ?_) (fun c16 => ?_)
    · refine am_sub [1, 2, 3, 4] rfl ?_
      exact sX0_widestAt_55 G k5 hk5 x0 x1 x2 x3 M11 (am_sh.mono l12 h_x0) (am_sh.mono l12 h_x1)
    · refine am_iload_n 4 dX0_widestAt_53 rfl rfl ?_
      exact am_iret dX0_widestAt_54
set_option maxRecDepth 100000 in
set_option maxHeartbeats 4000000 in
theorem sX0_widestAt_5 (G : am_G) (k5 : (Nat × Nat × Int32 × Int32 × am_M) → Option (Int32 × am_M)) (hk5 : ∀ q : (Nat × Nat × Int32 × Int32 × am_M), (match q with | (x0, x1, x2, x3, M) => am_sh M x0 9 ∧ am_sh M x1 7) → match q with | (x0, x1, x2, x3, M) => am_S am_ei G 2 yX0_widestAt.cls yX0_widestAt.name cX0_widestAt 6 (some FieldType.int) 5 [(0, .ref x0), (1, .ref x1), (2, .int x2), (3, .int x3)] [] M (k5 (x0, x1, x2, x3, M))) (x0 : Nat) (x1 : Nat) (x2 : Int32) (x3 : Int32) (M : am_M) (h_x0 : am_sh M x0 9) (h_x1 : am_sh M x1 7) : am_S am_ei G 2 yX0_widestAt.cls yX0_widestAt.name cX0_widestAt 6 (some FieldType.int) 5 [(0, .ref x0), (1, .ref x1), (2, .int x2), (3, .int x3)] [] M (fX0_widestAt_5 k5 (x0, x1, x2, x3, M)) := by
  show am_S am_ei G 2 yX0_widestAt.cls yX0_widestAt.name cX0_widestAt 6 (some FieldType.int) 5 [(0, .ref x0), (1, .ref x1), (2, .int x2), (3, .int x3)] [] M (if M.1 x0 6 < x3 then some ((-4), M) else (fX5_tileSize x0 x3 M).bind fun p7 => if x2 &&& (p7.1 - 1) = 0 then fX0_widestAt_34 k5 x0 x1 x2 x3 p7.1 1 p7.2 else fX0_widestAt_34 k5 x0 x1 x2 x3 p7.1 0 p7.2)
  refine am_iload_n 3 dX0_widestAt_5 rfl rfl ?_
  refine am_aload_n 0 dX0_widestAt_6 rfl rfl ?_
  refine am_getI 4 dX0_widestAt_7 fl_RX0_86 h_x0 rfl ?_
  refine am_icmp_gt (tgt := 61) dX0_widestAt_10 (by decide) (fun c1 => ?_) (fun c1 => ?_)
  · refine am_bipush (x := -4) dX0_widestAt_61 (by decide) ?_
    exact am_iret dX0_widestAt_63
  · refine am_aload_n 0 dX0_widestAt_13 rfl rfl ?_
    refine am_iload_n 3 dX0_widestAt_14 rfl rfl ?_
    refine am_callVi 4 [.int x3] (CX5_tileSize G x0 x3 M h_x0) dX0_widestAt_15 mb_yX5_tileSize ⟨ml_RX0_55, im_yX5_tileSize, se_yX5_tileSize⟩ rfl h_x0 (by decide) rfl rfl (Nat.le_of_ble_eq_true rfl) (fun v6 M3 q2 w5 l4 => ?_)
    refine am_istore (L' := [(4, .int v6), (0, .ref x0), (1, .ref x1), (2, .int x2), (3, .int x3)]) dX0_widestAt_18 (by decide) rfl ?_
    refine am_iload_n 3 dX0_widestAt_20 rfl rfl ?_
    refine am_iload 0 dX0_widestAt_21 rfl ?_
    refine am_iconst dX0_widestAt_23 am_kc_1 ?_
    refine am_isub dX0_widestAt_24 ?_
    refine am_iand dX0_widestAt_25 ?_
    refine am_if_ne (tgt := 33) dX0_widestAt_26 (by decide) (fun c8 => ?_) (fun c8 => ?_)
    · refine am_iconst dX0_widestAt_33 am_kc_0 ?_
      refine am_sub [1, 2, 3, 4, 0] rfl ?_
      exact sX0_widestAt_34 G k5 hk5 x0 x1 x2 x3 v6 0 M3 (am_sh.mono l4 h_x0) (am_sh.mono l4 h_x1)
    · refine am_iconst dX0_widestAt_29 am_kc_1 ?_
      refine am_goto (tgt := 34) dX0_widestAt_30 (by decide) ?_
      refine am_sub [1, 2, 3, 4, 0] rfl ?_
      exact sX0_widestAt_34 G k5 hk5 x0 x1 x2 x3 v6 1 M3 (am_sh.mono l4 h_x0) (am_sh.mono l4 h_x1)
set_option maxRecDepth 100000 in
set_option maxHeartbeats 4000000 in
theorem lX0_widestAt_5 (G : am_G) (n : Nat) (q : (Nat × Nat × Int32 × Int32 × am_M)) (hq : match q with | (x0, x1, x2, x3, M) => am_sh M x0 9 ∧ am_sh M x1 7) : match q with | (x0, x1, x2, x3, M) => am_S am_ei G 2 yX0_widestAt.cls yX0_widestAt.name cX0_widestAt 6 (some FieldType.int) 5 [(0, .ref x0), (1, .ref x1), (2, .int x2), (3, .int x3)] [] M (am_loop (fX0_widestAt_5) n (x0, x1, x2, x3, M)) := by
  exact am_loop_ok (fun q : (Nat × Nat × Int32 × Int32 × am_M) => match q with | (x0, x1, x2, x3, M) => am_sh M x0 9 ∧ am_sh M x1 7) (fun q X => match q with | (x0, x1, x2, x3, M) => am_S am_ei G 2 yX0_widestAt.cls yX0_widestAt.name cX0_widestAt 6 (some FieldType.int) 5 [(0, .ref x0), (1, .ref x1), (2, .int x2), (3, .int x3)] [] M X) (fun _ => am_none) (fun k5 hk5 q hq => match q, hq with | (x0, x1, x2, x3, M), ⟨h_x0, h_x1⟩ => sX0_widestAt_5 G k5 hk5 x0 x1 x2 x3 M h_x0 h_x1) n q hq
set_option maxRecDepth 100000 in
set_option maxHeartbeats 4000000 in
theorem sX0_widestAt_0 (G : am_G) (a0 : Nat) (a1 : Nat) (a2 : Int32) (M : am_M) (h_a0 : am_sh M a0 9) (h_a1 : am_sh M a1 7) : am_S am_ei G 2 yX0_widestAt.cls yX0_widestAt.name cX0_widestAt 6 (some FieldType.int) 0 [(0, .ref a0), (1, .ref a1), (2, .int a2)] [] M (fX0_widestAt a0 a1 a2 M) := by
  show am_S am_ei G 2 yX0_widestAt.cls yX0_widestAt.name cX0_widestAt 6 (some FieldType.int) 0 [(0, .ref a0), (1, .ref a1), (2, .int a2)] [] M (am_loop (fX0_widestAt_5) 100000 (a0, a1, a2, M.1 a0 5, M))
  refine am_aload_n 0 dX0_widestAt_0 rfl rfl ?_
  refine am_getI 4 dX0_widestAt_1 fl_RX0_103 h_a0 rfl ?_
  refine am_istore_n (L' := [(3, .int (M.1 a0 5)), (0, .ref a0), (1, .ref a1), (2, .int a2)]) dX0_widestAt_4 rfl (by decide) rfl ?_
  refine am_sub [1, 2, 3, 0] rfl ?_
  exact lX0_widestAt_5 G 100000 (a0, a1, a2, M.1 a0 5, M) ⟨h_a0, h_a1⟩
theorem CX0_widestAt (G : am_G) (a0 : Nat) (a1 : Nat) (a2 : Int32) (M : am_M) (h_a0 : am_sh M a0 9) (h_a1 : am_sh M a1 7) : am_C am_ei G 2 yX0_widestAt cX0_widestAt 6 (some FieldType.int) [.ref a0, .ref a1, .int a2] M (fX0_widestAt a0 a1 a2 M) :=
  am_meth (by decide) rfl (Nat.le_of_ble_eq_true rfl) (sX0_widestAt_0 G a0 a1 a2 M h_a0 h_a1)
def fX5_tileAround (a0 : Nat) (a1 : Int32) (a2 : Int32) (M : am_M) : Option (Int32 × am_M) := some (a1 >>> ((2 * ((M.1 a0 3) - a2)) &&& 31), M)
set_option maxRecDepth 100000 in
set_option maxHeartbeats 4000000 in
theorem sX5_tileAround_0 (G : am_G) (a0 : Nat) (a1 : Int32) (a2 : Int32) (M : am_M) (h_a0 : am_sh M a0 9) : am_S am_ei G 0 yX5_tileAround.cls yX5_tileAround.name cX5_tileAround 3 (some FieldType.int) 0 [(0, .ref a0), (1, .int a1), (2, .int a2)] [] M (fX5_tileAround a0 a1 a2 M) := by
  show am_S am_ei G 0 yX5_tileAround.cls yX5_tileAround.name cX5_tileAround 3 (some FieldType.int) 0 [(0, .ref a0), (1, .int a1), (2, .int a2)] [] M (some (a1 >>> ((2 * ((M.1 a0 3) - a2)) &&& 31), M))
  refine am_iload_n 1 dX5_tileAround_0 rfl rfl ?_
  refine am_iconst dX5_tileAround_1 am_kc_2 ?_
  refine am_aload_n 0 dX5_tileAround_2 rfl rfl ?_
  refine am_getI 4 dX5_tileAround_3 fl_RX5_29 h_a0 rfl ?_
  refine am_iload_n 2 dX5_tileAround_6 rfl rfl ?_
  refine am_isub dX5_tileAround_7 ?_
  refine am_imul dX5_tileAround_8 ?_
  refine am_ishr dX5_tileAround_9 ?_
  exact am_iret dX5_tileAround_10
theorem CX5_tileAround (G : am_G) (a0 : Nat) (a1 : Int32) (a2 : Int32) (M : am_M) (h_a0 : am_sh M a0 9) : am_C am_ei G 0 yX5_tileAround cX5_tileAround 3 (some FieldType.int) [.ref a0, .int a1, .int a2] M (fX5_tileAround a0 a1 a2 M) :=
  am_meth (by decide) rfl (Nat.le_of_ble_eq_true rfl) (sX5_tileAround_0 G a0 a1 a2 M h_a0)
def fX0_tileOf_99 (k19 : (Nat × Nat × Int32 × Int32 × Int32 × Int32 × Int32 × Int32 × am_M) → Option (Int32 × am_M)) (x1 : Nat) (x2 : Nat) (x3 : Int32) (x4 : Int32) (x5 : Int32) (x6 : Int32) (x7 : Int32) (x8 : Int32) (M : am_M) : Option (Int32 × am_M) := k19 (x1, x2, x3, x4, x5, x6, x7, x8 + x5, M)
def fX0_tileOf_48 (k19 : (Nat × Nat × Int32 × Int32 × Int32 × Int32 × Int32 × Int32 × am_M) → Option (Int32 × am_M)) (x1 : Nat) (x2 : Nat) (x3 : Int32) (x4 : Int32) (x5 : Int32) (x6 : Int32) (x7 : Int32) (x8 : Int32) (s0 : Int32) (M : am_M) : Option (Int32 × am_M) := if s0 = (-4) then fX0_tileOf_99 k19 x1 x2 x3 x4 x5 x6 x7 x8 M else if x6 = x3 then if x4 = 0 then some (s0, M) else (fX5_tileAround x1 x8 s0 M).bind fun p36 => some (p36.1, p36.2) else (fX5_tileSize x1 s0 M).bind fun p29 => fX0_tileOf_99 k19 x1 x2 x3 x4 x5 (x6 + 1) (x8 + p29.1) x8 p29.2
def fX0_tileOf_19 : ((Nat × Nat × Int32 × Int32 × Int32 × Int32 × Int32 × Int32 × am_M) → Option (Int32 × am_M)) → (Nat × Nat × Int32 × Int32 × Int32 × Int32 × Int32 × Int32 × am_M) → Option (Int32 × am_M) := fun k19 q0 => match q0 with
  | (x1, x2, x3, x4, x5, x6, x7, x8, M) => (fX5_tileSize x1 0 M).bind fun p12 => if p12.1 ≤ x8 then if x3 = (-1) then some (x6, p12.2) else some ((-4), p12.2) else if x7 ≤ x8 then (fX0_widestAt x1 x2 x8 p12.2).bind fun p21 => fX0_tileOf_48 k19 x1 x2 x3 x4 x5 x6 x7 x8 p21.1 p21.2 else fX0_tileOf_48 k19 x1 x2 x3 x4 x5 x6 x7 x8 (-4) p12.2
def fX0_tileOf (a0 : Nat) (a1 : Nat) (a2 : Nat) (a3 : Int32) (a4 : Int32) (M : am_M) : Option (Int32 × am_M) := (fX5_tileSize a1 (M.1 a1 6) M).bind fun p6 => am_loop (fX0_tileOf_19) 100000 (a1, a2, a3, a4, p6.1, 0, 0, 0, p6.2)
set_option maxRecDepth 100000 in
set_option maxHeartbeats 4000000 in
theorem sX0_tileOf_99 (G : am_G) (k19 : (Nat × Nat × Int32 × Int32 × Int32 × Int32 × Int32 × Int32 × am_M) → Option (Int32 × am_M)) (hk19 : ∀ q : (Nat × Nat × Int32 × Int32 × Int32 × Int32 × Int32 × Int32 × am_M), (match q with | (x1, x2, x3, x4, x5, x6, x7, x8, M) => am_sh M x1 9 ∧ am_sh M x2 7) → match q with | (x1, x2, x3, x4, x5, x6, x7, x8, M) => am_S am_ei G 3 yX0_tileOf.cls yX0_tileOf.name cX0_tileOf 10 (some FieldType.int) 19 [(1, .ref x1), (2, .ref x2), (3, .int x3), (4, .int x4), (5, .int x5), (6, .int x6), (7, .int x7), (8, .int x8)] [] M (k19 (x1, x2, x3, x4, x5, x6, x7, x8, M))) (x1 : Nat) (x2 : Nat) (x3 : Int32) (x4 : Int32) (x5 : Int32) (x6 : Int32) (x7 : Int32) (x8 : Int32) (M : am_M) (h_x1 : am_sh M x1 9) (h_x2 : am_sh M x2 7) : am_S am_ei G 3 yX0_tileOf.cls yX0_tileOf.name cX0_tileOf 10 (some FieldType.int) 99 [(1, .ref x1), (2, .ref x2), (3, .int x3), (4, .int x4), (5, .int x5), (6, .int x6), (7, .int x7), (8, .int x8)] [] M (fX0_tileOf_99 k19 x1 x2 x3 x4 x5 x6 x7 x8 M) := by
  show am_S am_ei G 3 yX0_tileOf.cls yX0_tileOf.name cX0_tileOf 10 (some FieldType.int) 99 [(1, .ref x1), (2, .ref x2), (3, .int x3), (4, .int x4), (5, .int x5), (6, .int x6), (7, .int x7), (8, .int x8)] [] M (k19 (x1, x2, x3, x4, x5, x6, x7, x8 + x5, M))
  refine am_iload 7 dX0_tileOf_99 rfl ?_
  refine am_iload 4 dX0_tileOf_101 rfl ?_
  refine am_iadd dX0_tileOf_103 ?_
  refine am_istore (L' := [(8, .int (x8 + x5)), (1, .ref x1), (2, .ref x2), (3, .int x3), (4, .int x4), (5, .int x5), (6, .int x6), (7, .int x7)]) dX0_tileOf_104 (by decide) rfl ?_
  refine am_goto (tgt := 19) dX0_tileOf_106 (by decide) ?_
  refine am_sub [1, 2, 3, 4, 5, 6, 7, 0] rfl ?_
  exact hk19 (x1, x2, x3, x4, x5, x6, x7, x8 + x5, M) ⟨h_x1, h_x2⟩
set_option maxRecDepth 100000 in
set_option maxHeartbeats 4000000 in
theorem sX0_tileOf_48 (G : am_G) (k19 : (Nat × Nat × Int32 × Int32 × Int32 × Int32 × Int32 × Int32 × am_M) → Option (Int32 × am_M)) (hk19 : ∀ q : (Nat × Nat × Int32 × Int32 × Int32 × Int32 × Int32 × Int32 × am_M), (match q with | (x1, x2, x3, x4, x5, x6, x7, x8, M) => am_sh M x1 9 ∧ am_sh M x2 7) → match q with | (x1, x2, x3, x4, x5, x6, x7, x8, M) => am_S am_ei G 3 yX0_tileOf.cls yX0_tileOf.name cX0_tileOf 10 (some FieldType.int) 19 [(1, .ref x1), (2, .ref x2), (3, .int x3), (4, .int x4), (5, .int x5), (6, .int x6), (7, .int x7), (8, .int x8)] [] M (k19 (x1, x2, x3, x4, x5, x6, x7, x8, M))) (x1 : Nat) (x2 : Nat) (x3 : Int32) (x4 : Int32) (x5 : Int32) (x6 : Int32) (x7 : Int32) (x8 : Int32) (s0 : Int32) (M : am_M) (h_x1 : am_sh M x1 9) (h_x2 : am_sh M x2 7) : am_S am_ei G 3 yX0_tileOf.cls yX0_tileOf.name cX0_tileOf 10 (some FieldType.int) 48 [(1, .ref x1), (2, .ref x2), (3, .int x3), (4, .int x4), (5, .int x5), (6, .int x6), (7, .int x7), (8, .int x8)] [.int s0] M (fX0_tileOf_48 k19 x1 x2 x3 x4 x5 x6 x7 x8 s0 M) := by
  show am_S am_ei G 3 yX0_tileOf.cls yX0_tileOf.name cX0_tileOf 10 (some FieldType.int) 48 [(1, .ref x1), (2, .ref x2), (3, .int x3), (4, .int x4), (5, .int x5), (6, .int x6), (7, .int x7), (8, .int x8)] [.int s0] M (if s0 = (-4) then fX0_tileOf_99 k19 x1 x2 x3 x4 x5 x6 x7 x8 M else if x6 = x3 then if x4 = 0 then some (s0, M) else (fX5_tileAround x1 x8 s0 M).bind fun p36 => some (p36.1, p36.2) else (fX5_tileSize x1 s0 M).bind fun p29 => fX0_tileOf_99 k19 x1 x2 x3 x4 x5 (x6 + 1) (x8 + p29.1) x8 p29.2)
  refine am_istore (L' := [(9, .int s0), (1, .ref x1), (2, .ref x2), (3, .int x3), (4, .int x4), (5, .int x5), (6, .int x6), (7, .int x7), (8, .int x8)]) dX0_tileOf_48 (by decide) rfl ?_
  refine am_iload 0 dX0_tileOf_50 rfl ?_
  refine am_bipush (x := -4) dX0_tileOf_52 (by decide) ?_
  refine am_icmp_ne (tgt := 60) dX0_tileOf_54 (by decide) (fun c22 => ?_) (fun c22 => ?_)
  · refine am_iload 6 dX0_tileOf_60 rfl ?_
    refine am_iload_n 3 dX0_tileOf_62 rfl rfl ?_
    refine am_icmp_ne (tgt := 85) dX0_tileOf_63 (by decide) (fun c23 => ?_) (fun c23 => ?_)
    · refine am_iinc (L' := [(6, .int (x6 + 1)), (9, .int s0), (1, .ref x1), (2, .ref x2), (3, .int x3), (4, .int x4), (5, .int x5), (7, .int x7), (8, .int x8)]) 6 dX0_tileOf_85 rfl (by rfl) (by decide) rfl ?_
      refine am_iload 8 dX0_tileOf_88 rfl ?_
      refine am_aload_n 2 dX0_tileOf_90 rfl rfl ?_
      refine am_iload 1 dX0_tileOf_91 rfl ?_
      refine am_callVi 4 [.int s0] (CX5_tileSize G x1 s0 M h_x1) dX0_tileOf_93 mb_yX5_tileSize ⟨ml_RX0_55, im_yX5_tileSize, se_yX5_tileSize⟩ rfl h_x1 (by decide) rfl rfl (Nat.le_of_ble_eq_true rfl) (fun v28 M25 q24 w27 l26 => ?_)
      refine am_iadd dX0_tileOf_96 ?_
      refine am_istore (L' := [(7, .int (x8 + v28)), (6, .int (x6 + 1)), (9, .int s0), (1, .ref x1), (2, .ref x2), (3, .int x3), (4, .int x4), (5, .int x5), (8, .int x8)]) dX0_tileOf_97 (by decide) rfl ?_
      refine am_sub [3, 4, 5, 6, 7, 1, 0, 8] rfl ?_
      exact sX0_tileOf_99 G k19 hk19 x1 x2 x3 x4 x5 (x6 + 1) (x8 + v28) x8 M25 (am_sh.mono l26 h_x1) (am_sh.mono l26 h_x2)
    · refine am_iload 4 dX0_tileOf_66 rfl ?_
      refine am_if_ne (tgt := 76) dX0_tileOf_68 (by decide) (fun c30 => ?_) (fun c30 => ?_)
      · refine am_aload_n 1 dX0_tileOf_76 rfl rfl ?_
        refine am_iload 8 dX0_tileOf_77 rfl ?_
        refine am_iload 0 dX0_tileOf_79 rfl ?_
        refine am_callVi 4 [.int x8, .int s0] (CX5_tileAround G x1 x8 s0 M h_x1) dX0_tileOf_81 mb_yX5_tileAround ⟨ml_RX0_100, im_yX5_tileAround, se_yX5_tileAround⟩ rfl h_x1 (by decide) rfl rfl (Nat.le_of_ble_eq_true rfl) (fun v35 M32 q31 w34 l33 => ?_)
        exact am_iret dX0_tileOf_84
      · refine am_iload 0 dX0_tileOf_71 rfl ?_
        refine am_goto (tgt := 84) dX0_tileOf_73 (by decide) ?_
        exact am_iret dX0_tileOf_84
  · refine am_goto (tgt := 99) dX0_tileOf_57 (by decide) ?_
    refine am_sub [1, 2, 3, 4, 5, 6, 7, 8] rfl ?_
    exact sX0_tileOf_99 G k19 hk19 x1 x2 x3 x4 x5 x6 x7 x8 M h_x1 h_x2
set_option maxRecDepth 100000 in
set_option maxHeartbeats 4000000 in
theorem sX0_tileOf_19 (G : am_G) (k19 : (Nat × Nat × Int32 × Int32 × Int32 × Int32 × Int32 × Int32 × am_M) → Option (Int32 × am_M)) (hk19 : ∀ q : (Nat × Nat × Int32 × Int32 × Int32 × Int32 × Int32 × Int32 × am_M), (match q with | (x1, x2, x3, x4, x5, x6, x7, x8, M) => am_sh M x1 9 ∧ am_sh M x2 7) → match q with | (x1, x2, x3, x4, x5, x6, x7, x8, M) => am_S am_ei G 3 yX0_tileOf.cls yX0_tileOf.name cX0_tileOf 10 (some FieldType.int) 19 [(1, .ref x1), (2, .ref x2), (3, .int x3), (4, .int x4), (5, .int x5), (6, .int x6), (7, .int x7), (8, .int x8)] [] M (k19 (x1, x2, x3, x4, x5, x6, x7, x8, M))) (x1 : Nat) (x2 : Nat) (x3 : Int32) (x4 : Int32) (x5 : Int32) (x6 : Int32) (x7 : Int32) (x8 : Int32) (M : am_M) (h_x1 : am_sh M x1 9) (h_x2 : am_sh M x2 7) : am_S am_ei G 3 yX0_tileOf.cls yX0_tileOf.name cX0_tileOf 10 (some FieldType.int) 19 [(1, .ref x1), (2, .ref x2), (3, .int x3), (4, .int x4), (5, .int x5), (6, .int x6), (7, .int x7), (8, .int x8)] [] M (fX0_tileOf_19 k19 (x1, x2, x3, x4, x5, x6, x7, x8, M)) := by
  show am_S am_ei G 3 yX0_tileOf.cls yX0_tileOf.name cX0_tileOf 10 (some FieldType.int) 19 [(1, .ref x1), (2, .ref x2), (3, .int x3), (4, .int x4), (5, .int x5), (6, .int x6), (7, .int x7), (8, .int x8)] [] M ((fX5_tileSize x1 0 M).bind fun p12 => if p12.1 ≤ x8 then if x3 = (-1) then some (x6, p12.2) else some ((-4), p12.2) else if x7 ≤ x8 then (fX0_widestAt x1 x2 x8 p12.2).bind fun p21 => fX0_tileOf_48 k19 x1 x2 x3 x4 x5 x6 x7 x8 p21.1 p21.2 else fX0_tileOf_48 k19 x1 x2 x3 x4 x5 x6 x7 x8 (-4) p12.2)
  refine am_iload 7 dX0_tileOf_19 rfl ?_
  refine am_aload_n 0 dX0_tileOf_21 rfl rfl ?_
  refine am_iconst dX0_tileOf_22 am_kc_0 ?_
  refine am_callVi 4 [.int 0] (CX5_tileSize G x1 0 M h_x1) dX0_tileOf_23 mb_yX5_tileSize ⟨ml_RX0_55, im_yX5_tileSize, se_yX5_tileSize⟩ rfl h_x1 (by decide) rfl rfl (Nat.le_of_ble_eq_true rfl) (fun v11 M8 q7 w10 l9 => ?_)
  refine am_icmp_ge (tgt := 109) dX0_tileOf_26 (by decide) (fun c13 => ?_) (fun c13 => ?_)
  · refine am_iload_n 2 dX0_tileOf_109 rfl rfl ?_
    refine am_iconst dX0_tileOf_110 am_kc_m1 ?_
    refine am_icmp_ne (tgt := 119) dX0_tileOf_111 (by decide) (fun c14 => ?_) (fun c14 => ?_)
    · refine am_bipush (x := -4) dX0_tileOf_119 (by decide) ?_
      exact am_iret dX0_tileOf_121
    · refine am_iload 5 dX0_tileOf_114 rfl ?_
      refine am_goto (tgt := 121) dX0_tileOf_116 (by decide) ?_
      exact am_iret dX0_tileOf_121
  · refine am_iload 7 dX0_tileOf_29 rfl ?_
    refine am_iload 6 dX0_tileOf_31 rfl ?_
    refine am_icmp_ge (tgt := 41) dX0_tileOf_33 (by decide) (fun c15 => ?_) (fun c15 => ?_)
    · refine am_aload_n 0 dX0_tileOf_41 rfl rfl ?_
      refine am_aload_n 1 dX0_tileOf_42 rfl rfl ?_
      refine am_iload 7 dX0_tileOf_43 rfl ?_
      refine am_callSi [.ref x1, .ref x2, .int x8] (CX0_widestAt G x1 x2 x8 M8 (am_sh.mono l9 h_x1) (am_sh.mono l9 h_x2)) dX0_tileOf_45 mb_yX0_widestAt ⟨ml_RX0_96, sm_yX0_widestAt⟩ (by decide) rfl rfl (Nat.le_of_ble_eq_true rfl) (fun v20 M17 q16 w19 l18 => ?_)
      exact sX0_tileOf_48 G k19 hk19 x1 x2 x3 x4 x5 x6 x7 x8 v20 M17 (am_sh.mono l18 (am_sh.mono l9 h_x1)) (am_sh.mono l18 (am_sh.mono l9 h_x2))
    · refine am_bipush (x := -4) dX0_tileOf_36 (by decide) ?_
      refine am_goto (tgt := 48) dX0_tileOf_38 (by decide) ?_
      exact sX0_tileOf_48 G k19 hk19 x1 x2 x3 x4 x5 x6 x7 x8 (-4) M8 (am_sh.mono l9 h_x1) (am_sh.mono l9 h_x2)
set_option maxRecDepth 100000 in
set_option maxHeartbeats 4000000 in
theorem lX0_tileOf_19 (G : am_G) (n : Nat) (q : (Nat × Nat × Int32 × Int32 × Int32 × Int32 × Int32 × Int32 × am_M)) (hq : match q with | (x1, x2, x3, x4, x5, x6, x7, x8, M) => am_sh M x1 9 ∧ am_sh M x2 7) : match q with | (x1, x2, x3, x4, x5, x6, x7, x8, M) => am_S am_ei G 3 yX0_tileOf.cls yX0_tileOf.name cX0_tileOf 10 (some FieldType.int) 19 [(1, .ref x1), (2, .ref x2), (3, .int x3), (4, .int x4), (5, .int x5), (6, .int x6), (7, .int x7), (8, .int x8)] [] M (am_loop (fX0_tileOf_19) n (x1, x2, x3, x4, x5, x6, x7, x8, M)) := by
  exact am_loop_ok (fun q : (Nat × Nat × Int32 × Int32 × Int32 × Int32 × Int32 × Int32 × am_M) => match q with | (x1, x2, x3, x4, x5, x6, x7, x8, M) => am_sh M x1 9 ∧ am_sh M x2 7) (fun q X => match q with | (x1, x2, x3, x4, x5, x6, x7, x8, M) => am_S am_ei G 3 yX0_tileOf.cls yX0_tileOf.name cX0_tileOf 10 (some FieldType.int) 19 [(1, .ref x1), (2, .ref x2), (3, .int x3), (4, .int x4), (5, .int x5), (6, .int x6), (7, .int x7), (8, .int x8)] [] M X) (fun _ => am_none) (fun k19 hk19 q hq => match q, hq with | (x1, x2, x3, x4, x5, x6, x7, x8, M), ⟨h_x1, h_x2⟩ => sX0_tileOf_19 G k19 hk19 x1 x2 x3 x4 x5 x6 x7 x8 M h_x1 h_x2) n q hq
set_option maxRecDepth 100000 in
set_option maxHeartbeats 4000000 in
theorem sX0_tileOf_0 (G : am_G) (a0 : Nat) (a1 : Nat) (a2 : Nat) (a3 : Int32) (a4 : Int32) (M : am_M) (h_a0 : am_sh M a0 5) (h_a1 : am_sh M a1 9) (h_a2 : am_sh M a2 7) : am_S am_ei G 3 yX0_tileOf.cls yX0_tileOf.name cX0_tileOf 10 (some FieldType.int) 0 [(0, .ref a0), (1, .ref a1), (2, .ref a2), (3, .int a3), (4, .int a4)] [] M (fX0_tileOf a0 a1 a2 a3 a4 M) := by
  show am_S am_ei G 3 yX0_tileOf.cls yX0_tileOf.name cX0_tileOf 10 (some FieldType.int) 0 [(0, .ref a0), (1, .ref a1), (2, .ref a2), (3, .int a3), (4, .int a4)] [] M ((fX5_tileSize a1 (M.1 a1 6) M).bind fun p6 => am_loop (fX0_tileOf_19) 100000 (a1, a2, a3, a4, p6.1, 0, 0, 0, p6.2))
  refine am_aload_n 1 dX0_tileOf_0 rfl rfl ?_
  refine am_aload_n 1 dX0_tileOf_1 rfl rfl ?_
  refine am_getI 4 dX0_tileOf_2 fl_RX0_86 h_a1 rfl ?_
  refine am_callVi 4 [.int (M.1 a1 6)] (CX5_tileSize G a1 (M.1 a1 6) M h_a1) dX0_tileOf_5 mb_yX5_tileSize ⟨ml_RX0_55, im_yX5_tileSize, se_yX5_tileSize⟩ rfl h_a1 (by decide) rfl rfl (Nat.le_of_ble_eq_true rfl) (fun v5 M2 q1 w4 l3 => ?_)
  refine am_istore (L' := [(5, .int v5), (0, .ref a0), (1, .ref a1), (2, .ref a2), (3, .int a3), (4, .int a4)]) dX0_tileOf_8 (by decide) rfl ?_
  refine am_iconst dX0_tileOf_10 am_kc_0 ?_
  refine am_istore (L' := [(6, .int 0), (5, .int v5), (0, .ref a0), (1, .ref a1), (2, .ref a2), (3, .int a3), (4, .int a4)]) dX0_tileOf_11 (by decide) rfl ?_
  refine am_iconst dX0_tileOf_13 am_kc_0 ?_
  refine am_istore (L' := [(7, .int 0), (6, .int 0), (5, .int v5), (0, .ref a0), (1, .ref a1), (2, .ref a2), (3, .int a3), (4, .int a4)]) dX0_tileOf_14 (by decide) rfl ?_
  refine am_iconst dX0_tileOf_16 am_kc_0 ?_
  refine am_istore (L' := [(8, .int 0), (7, .int 0), (6, .int 0), (5, .int v5), (0, .ref a0), (1, .ref a1), (2, .ref a2), (3, .int a3), (4, .int a4)]) dX0_tileOf_17 (by decide) rfl ?_
  refine am_sub [5, 6, 7, 8, 3, 2, 1, 0] rfl ?_
  exact lX0_tileOf_19 G 100000 (a1, a2, a3, a4, v5, 0, 0, 0, M2) ⟨(am_sh.mono l3 h_a1), (am_sh.mono l3 h_a2)⟩
theorem CX0_tileOf (G : am_G) (a0 : Nat) (a1 : Nat) (a2 : Nat) (a3 : Int32) (a4 : Int32) (M : am_M) (h_a0 : am_sh M a0 5) (h_a1 : am_sh M a1 9) (h_a2 : am_sh M a2 7) : am_C am_ei G 3 yX0_tileOf cX0_tileOf 10 (some FieldType.int) [.ref a0, .ref a1, .ref a2, .int a3, .int a4] M (fX0_tileOf a0 a1 a2 a3 a4 M) :=
  am_meth (by decide) rfl (Nat.le_of_ble_eq_true rfl) (sX0_tileOf_0 G a0 a1 a2 a3 a4 M h_a0 h_a1 h_a2)
def fJ7_fill_53178_5 : ((Nat × Int32 × Int32 × Int32 × am_M) → Option am_M) → (Nat × Int32 × Int32 × Int32 × am_M) → Option am_M := fun k5 q0 => match q0 with
  | (x0, x1, x2, x3, M) => if x3 ≤ x2 then some M else if x2 < 0 ∨ am_len M x0 ≤ x2.toNatClampNeg then none else k5 (x0, x1, x2 + 1, x3, am_pI M x0 x2.toNatClampNeg x1)
def fJ7_fill_53178 (a0 : Nat) (a1 : Int32) (M : am_M) : Option am_M := am_loop (fJ7_fill_53178_5) 100000 (a0, a1, 0, Int32.ofNat (am_len M a0), M)
set_option maxRecDepth 100000 in
set_option maxHeartbeats 4000000 in
theorem sJ7_fill_53178_5 (G : am_G) (k5 : (Nat × Int32 × Int32 × Int32 × am_M) → Option am_M) (hk5 : ∀ q : (Nat × Int32 × Int32 × Int32 × am_M), (match q with | (x0, x1, x2, x3, M) => am_sh M x0 0) → match q with | (x0, x1, x2, x3, M) => am_S am_ev G 0 yJ7_fill_53178.cls yJ7_fill_53178.name cJ7_fill_53178 4 none 5 [(0, .ref x0), (1, .int x1), (2, .int x2), (3, .int x3)] [] M (k5 (x0, x1, x2, x3, M))) (x0 : Nat) (x1 : Int32) (x2 : Int32) (x3 : Int32) (M : am_M) (h_x0 : am_sh M x0 0) : am_S am_ev G 0 yJ7_fill_53178.cls yJ7_fill_53178.name cJ7_fill_53178 4 none 5 [(0, .ref x0), (1, .int x1), (2, .int x2), (3, .int x3)] [] M (fJ7_fill_53178_5 k5 (x0, x1, x2, x3, M)) := by
  show am_S am_ev G 0 yJ7_fill_53178.cls yJ7_fill_53178.name cJ7_fill_53178 4 none 5 [(0, .ref x0), (1, .int x1), (2, .int x2), (3, .int x3)] [] M (if x3 ≤ x2 then some M else if x2 < 0 ∨ am_len M x0 ≤ x2.toNatClampNeg then none else k5 (x0, x1, x2 + 1, x3, am_pI M x0 x2.toNatClampNeg x1))
  refine am_iload_n 2 dJ7_fill_53178_5 rfl rfl ?_
  refine am_iload_n 3 dJ7_fill_53178_6 rfl rfl ?_
  refine am_icmp_ge (tgt := 20) dJ7_fill_53178_7 (by decide) (fun c1 => ?_) (fun c1 => ?_)
  · exact am_vret dJ7_fill_53178_20
  · refine am_aload_n 0 dJ7_fill_53178_10 rfl rfl ?_
    refine am_iload_n 2 dJ7_fill_53178_11 rfl rfl ?_
    refine am_iload_n 1 dJ7_fill_53178_12 rfl rfl ?_
    refine am_iast dJ7_fill_53178_13 h_x0 (fun b2 => ?_)
    refine am_iinc (L' := [(2, .int (x2 + 1)), (0, .ref x0), (1, .int x1), (3, .int x3)]) 2 dJ7_fill_53178_14 rfl (by rfl) (by decide) rfl ?_
    refine am_goto (tgt := 5) dJ7_fill_53178_17 (by decide) ?_
    refine am_sub [1, 2, 0, 3] rfl ?_
    exact hk5 (x0, x1, x2 + 1, x3, am_pI M x0 x2.toNatClampNeg x1) (am_sh.of h_x0 rfl)
set_option maxRecDepth 100000 in
set_option maxHeartbeats 4000000 in
theorem lJ7_fill_53178_5 (G : am_G) (n : Nat) (q : (Nat × Int32 × Int32 × Int32 × am_M)) (hq : match q with | (x0, x1, x2, x3, M) => am_sh M x0 0) : match q with | (x0, x1, x2, x3, M) => am_S am_ev G 0 yJ7_fill_53178.cls yJ7_fill_53178.name cJ7_fill_53178 4 none 5 [(0, .ref x0), (1, .int x1), (2, .int x2), (3, .int x3)] [] M (am_loop (fJ7_fill_53178_5) n (x0, x1, x2, x3, M)) := by
  exact am_loop_ok (fun q : (Nat × Int32 × Int32 × Int32 × am_M) => match q with | (x0, x1, x2, x3, M) => am_sh M x0 0) (fun q X => match q with | (x0, x1, x2, x3, M) => am_S am_ev G 0 yJ7_fill_53178.cls yJ7_fill_53178.name cJ7_fill_53178 4 none 5 [(0, .ref x0), (1, .int x1), (2, .int x2), (3, .int x3)] [] M X) (fun _ => am_none) (fun k5 hk5 q hq => match q, hq with | (x0, x1, x2, x3, M), h_x0 => sJ7_fill_53178_5 G k5 hk5 x0 x1 x2 x3 M h_x0) n q hq
set_option maxRecDepth 100000 in
set_option maxHeartbeats 4000000 in
theorem sJ7_fill_53178_0 (G : am_G) (a0 : Nat) (a1 : Int32) (M : am_M) (h_a0 : am_sh M a0 0) : am_S am_ev G 0 yJ7_fill_53178.cls yJ7_fill_53178.name cJ7_fill_53178 4 none 0 [(0, .ref a0), (1, .int a1)] [] M (fJ7_fill_53178 a0 a1 M) := by
  show am_S am_ev G 0 yJ7_fill_53178.cls yJ7_fill_53178.name cJ7_fill_53178 4 none 0 [(0, .ref a0), (1, .int a1)] [] M (am_loop (fJ7_fill_53178_5) 100000 (a0, a1, 0, Int32.ofNat (am_len M a0), M))
  refine am_iconst dJ7_fill_53178_0 am_kc_0 ?_
  refine am_istore_n (L' := [(2, .int 0), (0, .ref a0), (1, .int a1)]) dJ7_fill_53178_1 rfl (by decide) rfl ?_
  refine am_aload_n 1 dJ7_fill_53178_2 rfl rfl ?_
  refine am_alen dJ7_fill_53178_3 h_a0 (by decide) ?_
  refine am_istore_n (L' := [(3, .int (Int32.ofNat (am_len M a0))), (2, .int 0), (0, .ref a0), (1, .int a1)]) dJ7_fill_53178_4 rfl (by decide) rfl ?_
  refine am_sub [2, 3, 1, 0] rfl ?_
  exact lJ7_fill_53178_5 G 100000 (a0, a1, 0, Int32.ofNat (am_len M a0), M) h_a0
theorem CJ7_fill_53178 (G : am_G) (a0 : Nat) (a1 : Int32) (M : am_M) (h_a0 : am_sh M a0 0) : am_C am_ev G 0 yJ7_fill_53178 cJ7_fill_53178 4 none [.ref a0, .int a1] M (fJ7_fill_53178 a0 a1 M) :=
  am_meth (by decide) rfl (Nat.le_of_ble_eq_true rfl) (sJ7_fill_53178_0 G a0 a1 M h_a0)
def fX8_addRow_13 (k3 : (Nat × Nat × Int32 × am_M) → Option am_M) : ((Nat × Nat × Int32 × Int32 × Int32 × am_M) → Option am_M) → (Nat × Nat × Int32 × Int32 × Int32 × am_M) → Option am_M := fun k13 q0 => match q0 with
  | (x0, x1, x2, x3, x4, M) => if x2 < x4 then if x2 < 0 ∨ am_len M x0 ≤ x2.toNatClampNeg then none else k3 (x0, x1, x2 + (-1), am_pI M x0 x2.toNatClampNeg x3) else if x2 - x4 < 0 ∨ am_len M x0 ≤ (x2 - x4).toNatClampNeg then none else if x4 < 0 ∨ am_len M x1 ≤ x4.toNatClampNeg then none else k13 (x0, x1, x2, if (M.1 x0 ((x2 - x4).toNatClampNeg)) + (M.1 x1 (x4.toNatClampNeg)) < x3 then (M.1 x0 ((x2 - x4).toNatClampNeg)) + (M.1 x1 (x4.toNatClampNeg)) else x3, x4 + 1, M)
def fX8_addRow_3 : ((Nat × Nat × Int32 × am_M) → Option am_M) → (Nat × Nat × Int32 × am_M) → Option am_M := fun k3 q0 => match q0 with
  | (x0, x1, x2, M) => if x2 < 0 then some M else am_loop (fX8_addRow_13 k3) 100000 (x0, x1, x2, 1000000, 0, M)
def fX8_addRow (a0 : Nat) (a1 : Nat) (M : am_M) : Option am_M := am_loop (fX8_addRow_3) 100000 (a0, a1, 12, M)
set_option maxRecDepth 100000 in
set_option maxHeartbeats 4000000 in
theorem sX8_addRow_13 (G : am_G) (k3 : (Nat × Nat × Int32 × am_M) → Option am_M) (hk3 : ∀ q : (Nat × Nat × Int32 × am_M), (match q with | (x0, x1, x2, M) => am_sh M x0 0 ∧ am_sh M x1 0) → match q with | (x0, x1, x2, M) => am_S am_ev G 1 yX8_addRow.cls yX8_addRow.name cX8_addRow 5 none 3 [(0, .ref x0), (1, .ref x1), (2, .int x2)] [] M (k3 (x0, x1, x2, M))) (k13 : (Nat × Nat × Int32 × Int32 × Int32 × am_M) → Option am_M) (hk13 : ∀ q : (Nat × Nat × Int32 × Int32 × Int32 × am_M), (match q with | (x0, x1, x2, x3, x4, M) => am_sh M x0 0 ∧ am_sh M x1 0) → match q with | (x0, x1, x2, x3, x4, M) => am_S am_ev G 1 yX8_addRow.cls yX8_addRow.name cX8_addRow 5 none 13 [(0, .ref x0), (1, .ref x1), (2, .int x2), (3, .int x3), (4, .int x4)] [] M (k13 (x0, x1, x2, x3, x4, M))) (x0 : Nat) (x1 : Nat) (x2 : Int32) (x3 : Int32) (x4 : Int32) (M : am_M) (h_x0 : am_sh M x0 0) (h_x1 : am_sh M x1 0) : am_S am_ev G 1 yX8_addRow.cls yX8_addRow.name cX8_addRow 5 none 13 [(0, .ref x0), (1, .ref x1), (2, .int x2), (3, .int x3), (4, .int x4)] [] M (fX8_addRow_13 k3 k13 (x0, x1, x2, x3, x4, M)) := by
  show am_S am_ev G 1 yX8_addRow.cls yX8_addRow.name cX8_addRow 5 none 13 [(0, .ref x0), (1, .ref x1), (2, .int x2), (3, .int x3), (4, .int x4)] [] M (if x2 < x4 then if x2 < 0 ∨ am_len M x0 ≤ x2.toNatClampNeg then none else k3 (x0, x1, x2 + (-1), am_pI M x0 x2.toNatClampNeg x3) else if x2 - x4 < 0 ∨ am_len M x0 ≤ (x2 - x4).toNatClampNeg then none else if x4 < 0 ∨ am_len M x1 ≤ x4.toNatClampNeg then none else k13 (x0, x1, x2, if (M.1 x0 ((x2 - x4).toNatClampNeg)) + (M.1 x1 (x4.toNatClampNeg)) < x3 then (M.1 x0 ((x2 - x4).toNatClampNeg)) + (M.1 x1 (x4.toNatClampNeg)) else x3, x4 + 1, M))
  refine am_iload 4 dX8_addRow_13 rfl ?_
  refine am_iload_n 2 dX8_addRow_15 rfl rfl ?_
  refine am_icmp_gt (tgt := 41) dX8_addRow_16 (by decide) (fun c2 => ?_) (fun c2 => ?_)
  · refine am_aload_n 0 dX8_addRow_41 rfl rfl ?_
    refine am_iload_n 2 dX8_addRow_42 rfl rfl ?_
    refine am_iload_n 3 dX8_addRow_43 rfl rfl ?_
    refine am_iast dX8_addRow_44 h_x0 (fun b3 => ?_)
    refine am_iinc (L' := [(2, .int (x2 + (-1))), (0, .ref x0), (1, .ref x1), (3, .int x3), (4, .int x4)]) 2 dX8_addRow_45 rfl (by rfl) (by decide) rfl ?_
    refine am_goto (tgt := 3) dX8_addRow_48 (by decide) ?_
    refine am_sub [1, 2, 0] rfl ?_
    exact hk3 (x0, x1, x2 + (-1), am_pI M x0 x2.toNatClampNeg x3) ⟨(am_sh.of h_x0 rfl), (am_sh.of h_x1 rfl)⟩
  · refine am_iload_n 3 dX8_addRow_19 rfl rfl ?_
    refine am_aload_n 0 dX8_addRow_20 rfl rfl ?_
    refine am_iload_n 2 dX8_addRow_21 rfl rfl ?_
    refine am_iload 4 dX8_addRow_22 rfl ?_
    refine am_isub dX8_addRow_24 ?_
    refine am_iald dX8_addRow_25 h_x0 (fun b4 => ?_)
    refine am_aload_n 1 dX8_addRow_26 rfl rfl ?_
    refine am_iload 4 dX8_addRow_27 rfl ?_
    refine am_iald dX8_addRow_29 h_x1 (fun b5 => ?_)
    refine am_iadd dX8_addRow_30 ?_
    refine am_mmin dX8_addRow_31 ⟨ml_RX8_53, am_w_min⟩ (by decide) (Nat.le_of_ble_eq_true rfl) ?_
    refine am_istore_n (L' := [(3, .int (if (M.1 x0 ((x2 - x4).toNatClampNeg)) + (M.1 x1 (x4.toNatClampNeg)) < x3 then (M.1 x0 ((x2 - x4).toNatClampNeg)) + (M.1 x1 (x4.toNatClampNeg)) else x3)), (0, .ref x0), (1, .ref x1), (2, .int x2), (4, .int x4)]) dX8_addRow_34 rfl (by decide) rfl ?_
    refine am_iinc (L' := [(4, .int (x4 + 1)), (3, .int (if (M.1 x0 ((x2 - x4).toNatClampNeg)) + (M.1 x1 (x4.toNatClampNeg)) < x3 then (M.1 x0 ((x2 - x4).toNatClampNeg)) + (M.1 x1 (x4.toNatClampNeg)) else x3)), (0, .ref x0), (1, .ref x1), (2, .int x2)]) 4 dX8_addRow_35 rfl (by rfl) (by decide) rfl ?_
    refine am_goto (tgt := 13) dX8_addRow_38 (by decide) ?_
    refine am_sub [2, 3, 4, 1, 0] rfl ?_
    exact hk13 (x0, x1, x2, if (M.1 x0 ((x2 - x4).toNatClampNeg)) + (M.1 x1 (x4.toNatClampNeg)) < x3 then (M.1 x0 ((x2 - x4).toNatClampNeg)) + (M.1 x1 (x4.toNatClampNeg)) else x3, x4 + 1, M) ⟨h_x0, h_x1⟩
set_option maxRecDepth 100000 in
set_option maxHeartbeats 4000000 in
theorem lX8_addRow_13 (G : am_G) (k3 : (Nat × Nat × Int32 × am_M) → Option am_M) (hk3 : ∀ q : (Nat × Nat × Int32 × am_M), (match q with | (x0, x1, x2, M) => am_sh M x0 0 ∧ am_sh M x1 0) → match q with | (x0, x1, x2, M) => am_S am_ev G 1 yX8_addRow.cls yX8_addRow.name cX8_addRow 5 none 3 [(0, .ref x0), (1, .ref x1), (2, .int x2)] [] M (k3 (x0, x1, x2, M))) (n : Nat) (q : (Nat × Nat × Int32 × Int32 × Int32 × am_M)) (hq : match q with | (x0, x1, x2, x3, x4, M) => am_sh M x0 0 ∧ am_sh M x1 0) : match q with | (x0, x1, x2, x3, x4, M) => am_S am_ev G 1 yX8_addRow.cls yX8_addRow.name cX8_addRow 5 none 13 [(0, .ref x0), (1, .ref x1), (2, .int x2), (3, .int x3), (4, .int x4)] [] M (am_loop (fX8_addRow_13 k3) n (x0, x1, x2, x3, x4, M)) := by
  exact am_loop_ok (fun q : (Nat × Nat × Int32 × Int32 × Int32 × am_M) => match q with | (x0, x1, x2, x3, x4, M) => am_sh M x0 0 ∧ am_sh M x1 0) (fun q X => match q with | (x0, x1, x2, x3, x4, M) => am_S am_ev G 1 yX8_addRow.cls yX8_addRow.name cX8_addRow 5 none 13 [(0, .ref x0), (1, .ref x1), (2, .int x2), (3, .int x3), (4, .int x4)] [] M X) (fun _ => am_none) (fun k13 hk13 q hq => match q, hq with | (x0, x1, x2, x3, x4, M), ⟨h_x0, h_x1⟩ => sX8_addRow_13 G k3 hk3 k13 hk13 x0 x1 x2 x3 x4 M h_x0 h_x1) n q hq
set_option maxRecDepth 100000 in
set_option maxHeartbeats 4000000 in
theorem sX8_addRow_3 (G : am_G) (k3 : (Nat × Nat × Int32 × am_M) → Option am_M) (hk3 : ∀ q : (Nat × Nat × Int32 × am_M), (match q with | (x0, x1, x2, M) => am_sh M x0 0 ∧ am_sh M x1 0) → match q with | (x0, x1, x2, M) => am_S am_ev G 1 yX8_addRow.cls yX8_addRow.name cX8_addRow 5 none 3 [(0, .ref x0), (1, .ref x1), (2, .int x2)] [] M (k3 (x0, x1, x2, M))) (x0 : Nat) (x1 : Nat) (x2 : Int32) (M : am_M) (h_x0 : am_sh M x0 0) (h_x1 : am_sh M x1 0) : am_S am_ev G 1 yX8_addRow.cls yX8_addRow.name cX8_addRow 5 none 3 [(0, .ref x0), (1, .ref x1), (2, .int x2)] [] M (fX8_addRow_3 k3 (x0, x1, x2, M)) := by
  show am_S am_ev G 1 yX8_addRow.cls yX8_addRow.name cX8_addRow 5 none 3 [(0, .ref x0), (1, .ref x1), (2, .int x2)] [] M (if x2 < 0 then some M else am_loop (fX8_addRow_13 k3) 100000 (x0, x1, x2, 1000000, 0, M))
  refine am_iload_n 2 dX8_addRow_3 rfl rfl ?_
  refine am_if_lt (tgt := 51) dX8_addRow_4 (by decide) (fun c1 => ?_) (fun c1 => ?_)
  · exact am_vret dX8_addRow_51
  · refine am_ldc dX8_addRow_7 kc_RX8_20 ?_
    refine am_istore_n (L' := [(3, .int 1000000), (0, .ref x0), (1, .ref x1), (2, .int x2)]) dX8_addRow_9 rfl (by decide) rfl ?_
    refine am_iconst dX8_addRow_10 am_kc_0 ?_
    refine am_istore (L' := [(4, .int 0), (3, .int 1000000), (0, .ref x0), (1, .ref x1), (2, .int x2)]) dX8_addRow_11 (by decide) rfl ?_
    refine am_sub [2, 3, 4, 1, 0] rfl ?_
    exact lX8_addRow_13 G k3 hk3 100000 (x0, x1, x2, 1000000, 0, M) ⟨h_x0, h_x1⟩
set_option maxRecDepth 100000 in
set_option maxHeartbeats 4000000 in
theorem lX8_addRow_3 (G : am_G) (n : Nat) (q : (Nat × Nat × Int32 × am_M)) (hq : match q with | (x0, x1, x2, M) => am_sh M x0 0 ∧ am_sh M x1 0) : match q with | (x0, x1, x2, M) => am_S am_ev G 1 yX8_addRow.cls yX8_addRow.name cX8_addRow 5 none 3 [(0, .ref x0), (1, .ref x1), (2, .int x2)] [] M (am_loop (fX8_addRow_3) n (x0, x1, x2, M)) := by
  exact am_loop_ok (fun q : (Nat × Nat × Int32 × am_M) => match q with | (x0, x1, x2, M) => am_sh M x0 0 ∧ am_sh M x1 0) (fun q X => match q with | (x0, x1, x2, M) => am_S am_ev G 1 yX8_addRow.cls yX8_addRow.name cX8_addRow 5 none 3 [(0, .ref x0), (1, .ref x1), (2, .int x2)] [] M X) (fun _ => am_none) (fun k3 hk3 q hq => match q, hq with | (x0, x1, x2, M), ⟨h_x0, h_x1⟩ => sX8_addRow_3 G k3 hk3 x0 x1 x2 M h_x0 h_x1) n q hq
set_option maxRecDepth 100000 in
set_option maxHeartbeats 4000000 in
theorem sX8_addRow_0 (G : am_G) (a0 : Nat) (a1 : Nat) (M : am_M) (h_a0 : am_sh M a0 0) (h_a1 : am_sh M a1 0) : am_S am_ev G 1 yX8_addRow.cls yX8_addRow.name cX8_addRow 5 none 0 [(0, .ref a0), (1, .ref a1)] [] M (fX8_addRow a0 a1 M) := by
  show am_S am_ev G 1 yX8_addRow.cls yX8_addRow.name cX8_addRow 5 none 0 [(0, .ref a0), (1, .ref a1)] [] M (am_loop (fX8_addRow_3) 100000 (a0, a1, 12, M))
  refine am_bipush (x := 12) dX8_addRow_0 (by decide) ?_
  refine am_istore_n (L' := [(2, .int 12), (0, .ref a0), (1, .ref a1)]) dX8_addRow_2 rfl (by decide) rfl ?_
  refine am_sub [1, 2, 0] rfl ?_
  exact lX8_addRow_3 G 100000 (a0, a1, 12, M) ⟨h_a0, h_a1⟩
theorem CX8_addRow (G : am_G) (a0 : Nat) (a1 : Nat) (M : am_M) (h_a0 : am_sh M a0 0) (h_a1 : am_sh M a1 0) : am_C am_ev G 1 yX8_addRow cX8_addRow 5 none [.ref a0, .ref a1] M (fX8_addRow a0 a1 M) :=
  am_meth (by decide) rfl (Nat.le_of_ble_eq_true rfl) (sX8_addRow_0 G a0 a1 M h_a0 h_a1)
def fX8_takeWhole_2 : ((Nat × Int32 × Int32 × am_M) → Option am_M) → (Nat × Int32 × Int32 × am_M) → Option am_M := fun k2 q0 => match q0 with
  | (x0, x1, x2, M) => if (12 : Int32) < x2 then some M else if x2 < 0 ∨ am_len M x0 ≤ x2.toNatClampNeg then none else if x2 < 0 ∨ am_len M x0 ≤ x2.toNatClampNeg then none else k2 (x0, x1, x2 + 1, am_pI M x0 x2.toNatClampNeg (if x1 < M.1 x0 (x2.toNatClampNeg) then x1 else M.1 x0 (x2.toNatClampNeg)))
def fX8_takeWhole (a0 : Nat) (a1 : Int32) (M : am_M) : Option am_M := am_loop (fX8_takeWhole_2) 100000 (a0, a1, 1, M)
set_option maxRecDepth 100000 in
set_option maxHeartbeats 4000000 in
theorem sX8_takeWhole_2 (G : am_G) (k2 : (Nat × Int32 × Int32 × am_M) → Option am_M) (hk2 : ∀ q : (Nat × Int32 × Int32 × am_M), (match q with | (x0, x1, x2, M) => am_sh M x0 0) → match q with | (x0, x1, x2, M) => am_S am_ev G 1 yX8_takeWhole.cls yX8_takeWhole.name cX8_takeWhole 3 none 2 [(0, .ref x0), (1, .int x1), (2, .int x2)] [] M (k2 (x0, x1, x2, M))) (x0 : Nat) (x1 : Int32) (x2 : Int32) (M : am_M) (h_x0 : am_sh M x0 0) : am_S am_ev G 1 yX8_takeWhole.cls yX8_takeWhole.name cX8_takeWhole 3 none 2 [(0, .ref x0), (1, .int x1), (2, .int x2)] [] M (fX8_takeWhole_2 k2 (x0, x1, x2, M)) := by
  show am_S am_ev G 1 yX8_takeWhole.cls yX8_takeWhole.name cX8_takeWhole 3 none 2 [(0, .ref x0), (1, .int x1), (2, .int x2)] [] M (if (12 : Int32) < x2 then some M else if x2 < 0 ∨ am_len M x0 ≤ x2.toNatClampNeg then none else if x2 < 0 ∨ am_len M x0 ≤ x2.toNatClampNeg then none else k2 (x0, x1, x2 + 1, am_pI M x0 x2.toNatClampNeg (if x1 < M.1 x0 (x2.toNatClampNeg) then x1 else M.1 x0 (x2.toNatClampNeg))))
  refine am_iload_n 2 dX8_takeWhole_2 rfl rfl ?_
  refine am_bipush (x := 12) dX8_takeWhole_3 (by decide) ?_
  refine am_icmp_gt (tgt := 24) dX8_takeWhole_5 (by decide) (fun c1 => ?_) (fun c1 => ?_)
  · exact am_vret dX8_takeWhole_24
  · refine am_aload_n 0 dX8_takeWhole_8 rfl rfl ?_
    refine am_iload_n 2 dX8_takeWhole_9 rfl rfl ?_
    refine am_aload_n 0 dX8_takeWhole_10 rfl rfl ?_
    refine am_iload_n 2 dX8_takeWhole_11 rfl rfl ?_
    refine am_iald dX8_takeWhole_12 h_x0 (fun b2 => ?_)
    refine am_iload_n 1 dX8_takeWhole_13 rfl rfl ?_
    refine am_mmin dX8_takeWhole_14 ⟨ml_RX8_53, am_w_min⟩ (by decide) (Nat.le_of_ble_eq_true rfl) ?_
    refine am_iast dX8_takeWhole_17 h_x0 (fun b3 => ?_)
    refine am_iinc (L' := [(2, .int (x2 + 1)), (0, .ref x0), (1, .int x1)]) 2 dX8_takeWhole_18 rfl (by rfl) (by decide) rfl ?_
    refine am_goto (tgt := 2) dX8_takeWhole_21 (by decide) ?_
    refine am_sub [1, 2, 0] rfl ?_
    exact hk2 (x0, x1, x2 + 1, am_pI M x0 x2.toNatClampNeg (if x1 < M.1 x0 (x2.toNatClampNeg) then x1 else M.1 x0 (x2.toNatClampNeg))) (am_sh.of h_x0 rfl)
set_option maxRecDepth 100000 in
set_option maxHeartbeats 4000000 in
theorem lX8_takeWhole_2 (G : am_G) (n : Nat) (q : (Nat × Int32 × Int32 × am_M)) (hq : match q with | (x0, x1, x2, M) => am_sh M x0 0) : match q with | (x0, x1, x2, M) => am_S am_ev G 1 yX8_takeWhole.cls yX8_takeWhole.name cX8_takeWhole 3 none 2 [(0, .ref x0), (1, .int x1), (2, .int x2)] [] M (am_loop (fX8_takeWhole_2) n (x0, x1, x2, M)) := by
  exact am_loop_ok (fun q : (Nat × Int32 × Int32 × am_M) => match q with | (x0, x1, x2, M) => am_sh M x0 0) (fun q X => match q with | (x0, x1, x2, M) => am_S am_ev G 1 yX8_takeWhole.cls yX8_takeWhole.name cX8_takeWhole 3 none 2 [(0, .ref x0), (1, .int x1), (2, .int x2)] [] M X) (fun _ => am_none) (fun k2 hk2 q hq => match q, hq with | (x0, x1, x2, M), h_x0 => sX8_takeWhole_2 G k2 hk2 x0 x1 x2 M h_x0) n q hq
set_option maxRecDepth 100000 in
set_option maxHeartbeats 4000000 in
theorem sX8_takeWhole_0 (G : am_G) (a0 : Nat) (a1 : Int32) (M : am_M) (h_a0 : am_sh M a0 0) : am_S am_ev G 1 yX8_takeWhole.cls yX8_takeWhole.name cX8_takeWhole 3 none 0 [(0, .ref a0), (1, .int a1)] [] M (fX8_takeWhole a0 a1 M) := by
  show am_S am_ev G 1 yX8_takeWhole.cls yX8_takeWhole.name cX8_takeWhole 3 none 0 [(0, .ref a0), (1, .int a1)] [] M (am_loop (fX8_takeWhole_2) 100000 (a0, a1, 1, M))
  refine am_iconst dX8_takeWhole_0 am_kc_1 ?_
  refine am_istore_n (L' := [(2, .int 1), (0, .ref a0), (1, .int a1)]) dX8_takeWhole_1 rfl (by decide) rfl ?_
  refine am_sub [1, 2, 0] rfl ?_
  exact lX8_takeWhole_2 G 100000 (a0, a1, 1, M) h_a0
theorem CX8_takeWhole (G : am_G) (a0 : Nat) (a1 : Int32) (M : am_M) (h_a0 : am_sh M a0 0) : am_C am_ev G 1 yX8_takeWhole cX8_takeWhole 3 none [.ref a0, .int a1] M (fX8_takeWhole a0 a1 M) :=
  am_meth (by decide) rfl (Nat.le_of_ble_eq_true rfl) (sX8_takeWhole_0 G a0 a1 M h_a0)
def fX8_weighTile_150 (slf : Nat → Nat → Nat → Int32 → Int32 → am_M → Option am_M) (x1 : Nat) (x3 : Int32) (x5 : Int32) (x7 : Nat) (M : am_M) : Option am_M := if x3 < M.1 x1 5 then some M else (fX8_takeWhole x7 x5 M).bind fun M30 => some M30
def fX8_weighTile_97 (slf : Nat → Nat → Nat → Int32 → Int32 → am_M → Option am_M) : ((Nat × Nat × Nat × Int32 × Int32 × Int32 × Nat × Int32 × Int32 × am_M) → Option am_M) → (Nat × Nat × Nat × Int32 × Int32 × Int32 × Nat × Int32 × Int32 × am_M) → Option am_M := fun k97 q0 => match q0 with
  | (x0, x1, x2, x3, x4, x5, x7, x8, x9, M) => if (4 : Int32) ≤ x9 then fX8_weighTile_150 slf x1 x3 x5 x7 M else if x8 = 0 then if (12 : Int32) < 0 ∨ am_len M x7 ≤ (12 : Int32).toNatClampNeg then none else if (1000000 : Int32) ≤ M.1 x7 ((12 : Int32).toNatClampNeg) then fX8_weighTile_150 slf x1 x3 x5 x7 M else (slf x0 x1 x2 (x3 + 1) ((4 * x4) + x9) M).bind fun M38 => if x3 + 1 < 0 ∨ am_len M38 x0 ≤ (x3 + 1).toNatClampNeg then none else (M38.2.2.1 x0 ((x3 + 1).toNatClampNeg)).bind fun r43 => (fX8_addRow x7 r43 M38).bind fun M47 => k97 (x0, x1, x2, x3, x4, x5, x7, x8, x9 + 1, M47) else fX8_weighTile_150 slf x1 x3 x5 x7 M
def fX8_weighTile_94 (slf : Nat → Nat → Nat → Int32 → Int32 → am_M → Option am_M) (x0 : Nat) (x1 : Nat) (x2 : Nat) (x3 : Int32) (x4 : Int32) (x5 : Int32) (x7 : Nat) (x8 : Int32) (M : am_M) : Option am_M := am_loop (fX8_weighTile_97 slf) 100000 (x0, x1, x2, x3, x4, x5, x7, x8, 0, M)
def fX8_weighTile_80 (slf : Nat → Nat → Nat → Int32 → Int32 → am_M → Option am_M) (x0 : Nat) (x1 : Nat) (x2 : Nat) (x3 : Int32) (x4 : Int32) (x5 : Int32) (x7 : Nat) (s0 : Int32) (M : am_M) : Option am_M := if s0 = 0 then fX8_weighTile_94 slf x0 x1 x2 x3 x4 x5 x7 s0 M else (fJ7_fill_53178 x7 1000000 M).bind fun M52 => fX8_weighTile_94 slf x0 x1 x2 x3 x4 x5 x7 s0 M52
def fX8_weighTile_75 (slf : Nat → Nat → Nat → Int32 → Int32 → am_M → Option am_M) (x0 : Nat) (x1 : Nat) (x2 : Nat) (x3 : Int32) (x4 : Int32) (x5 : Int32) (x7 : Nat) (M : am_M) : Option am_M := fX8_weighTile_80 slf x0 x1 x2 x3 x4 x5 x7 1 M
def fX8_weighTile_79 (slf : Nat → Nat → Nat → Int32 → Int32 → am_M → Option am_M) (x0 : Nat) (x1 : Nat) (x2 : Nat) (x3 : Int32) (x4 : Int32) (x5 : Int32) (x7 : Nat) (M : am_M) : Option am_M := fX8_weighTile_80 slf x0 x1 x2 x3 x4 x5 x7 0 M
def fX8_weighTile_b (slf : Nat → Nat → Nat → Int32 → Int32 → am_M → Option am_M) (a0 : Nat) (a1 : Nat) (a2 : Nat) (a3 : Int32) (a4 : Int32) (M : am_M) : Option am_M := if M.1 a1 6 < a3 then some M else if a3 ≤ 6 then (fX5_tileSize a1 a3 M).bind fun p8 => (fX3_countIn a2 (a4 * p8.1) p8.1 p8.2).bind fun p14 => if a3 < 0 ∨ am_len p14.2 a0 ≤ a3.toNatClampNeg then none else (p14.2.2.2.1 a0 (a3.toNatClampNeg)).bind fun r16 => (fJ7_fill_53178 r16 0 p14.2).bind fun M20 => if p14.1 = 0 then some M20 else if a3 = M20.1 a1 6 then fX8_weighTile_75 slf a0 a1 a2 a3 a4 p8.1 r16 M20 else if p14.1 = p8.1 then if a3 < M20.1 a1 5 then fX8_weighTile_79 slf a0 a1 a2 a3 a4 p8.1 r16 M20 else fX8_weighTile_75 slf a0 a1 a2 a3 a4 p8.1 r16 M20 else fX8_weighTile_79 slf a0 a1 a2 a3 a4 p8.1 r16 M20 else some M
set_option maxRecDepth 100000 in
set_option maxHeartbeats 4000000 in
theorem sX8_weighTile_150 (G : am_G) (slf : Nat → Nat → Nat → Int32 → Int32 → am_M → Option am_M) (dS : Nat) (hS0 : 1 ≤ dS) (hslf : ∀ (a0 : Nat) (a1 : Nat) (a2 : Nat) (a3 : Int32) (a4 : Int32) (M : am_M), am_sh M a0 4 → am_sh M a1 9 → am_sh M a2 7 →  am_C am_ev G dS yX8_weighTile cX8_weighTile 10 none [.ref a0, .ref a1, .ref a2, .int a3, .int a4] M (slf a0 a1 a2 a3 a4 M)) (x1 : Nat) (x3 : Int32) (x5 : Int32) (x7 : Nat) (M : am_M) (h_x1 : am_sh M x1 9) (h_x7 : am_sh M x7 0) : am_S am_ev G (dS + 1) yX8_weighTile.cls yX8_weighTile.name cX8_weighTile 10 none 150 [(1, .ref x1), (3, .int x3), (5, .int x5), (7, .ref x7)] [] M (fX8_weighTile_150 slf x1 x3 x5 x7 M) := by
  show am_S am_ev G (dS + 1) yX8_weighTile.cls yX8_weighTile.name cX8_weighTile 10 none 150 [(1, .ref x1), (3, .int x3), (5, .int x5), (7, .ref x7)] [] M (if x3 < M.1 x1 5 then some M else (fX8_takeWhole x7 x5 M).bind fun M30 => some M30)
  refine am_iload_n 1 dX8_weighTile_150 rfl rfl ?_
  refine am_aload_n 0 dX8_weighTile_151 rfl rfl ?_
  refine am_getI 4 dX8_weighTile_152 fl_RX8_43 h_x1 rfl ?_
  refine am_icmp_lt (tgt := 165) dX8_weighTile_155 (by decide) (fun c28 => ?_) (fun c28 => ?_)
  · exact am_vret dX8_weighTile_165
  · refine am_aload 3 dX8_weighTile_158 rfl ?_
    refine am_iload 2 dX8_weighTile_160 rfl ?_
    refine am_callSv [.ref x7, .int x5] (CX8_takeWhole G x7 x5 M h_x7) dX8_weighTile_162 mb_yX8_takeWhole ⟨ml_RX8_50, sm_yX8_takeWhole⟩ (by omega) rfl rfl (Nat.le_of_ble_eq_true rfl) (fun M30 q29 w32 l31 => ?_)
    exact am_vret dX8_weighTile_165
set_option maxRecDepth 100000 in
set_option maxHeartbeats 4000000 in
theorem sX8_weighTile_97 (G : am_G) (slf : Nat → Nat → Nat → Int32 → Int32 → am_M → Option am_M) (dS : Nat) (hS0 : 1 ≤ dS) (hslf : ∀ (a0 : Nat) (a1 : Nat) (a2 : Nat) (a3 : Int32) (a4 : Int32) (M : am_M), am_sh M a0 4 → am_sh M a1 9 → am_sh M a2 7 →  am_C am_ev G dS yX8_weighTile cX8_weighTile 10 none [.ref a0, .ref a1, .ref a2, .int a3, .int a4] M (slf a0 a1 a2 a3 a4 M)) (k97 : (Nat × Nat × Nat × Int32 × Int32 × Int32 × Nat × Int32 × Int32 × am_M) → Option am_M) (hk97 : ∀ q : (Nat × Nat × Nat × Int32 × Int32 × Int32 × Nat × Int32 × Int32 × am_M), (match q with | (x0, x1, x2, x3, x4, x5, x7, x8, x9, M) => am_sh M x0 4 ∧ am_sh M x1 9 ∧ am_sh M x2 7 ∧ am_sh M x7 0) → match q with | (x0, x1, x2, x3, x4, x5, x7, x8, x9, M) => am_S am_ev G (dS + 1) yX8_weighTile.cls yX8_weighTile.name cX8_weighTile 10 none 97 [(0, .ref x0), (1, .ref x1), (2, .ref x2), (3, .int x3), (4, .int x4), (5, .int x5), (7, .ref x7), (8, .int x8), (9, .int x9)] [] M (k97 (x0, x1, x2, x3, x4, x5, x7, x8, x9, M))) (x0 : Nat) (x1 : Nat) (x2 : Nat) (x3 : Int32) (x4 : Int32) (x5 : Int32) (x7 : Nat) (x8 : Int32) (x9 : Int32) (M : am_M) (h_x0 : am_sh M x0 4) (h_x1 : am_sh M x1 9) (h_x2 : am_sh M x2 7) (h_x7 : am_sh M x7 0) : am_S am_ev G (dS + 1) yX8_weighTile.cls yX8_weighTile.name cX8_weighTile 10 none 97 [(0, .ref x0), (1, .ref x1), (2, .ref x2), (3, .int x3), (4, .int x4), (5, .int x5), (7, .ref x7), (8, .int x8), (9, .int x9)] [] M (fX8_weighTile_97 slf k97 (x0, x1, x2, x3, x4, x5, x7, x8, x9, M)) := by
  show am_S am_ev G (dS + 1) yX8_weighTile.cls yX8_weighTile.name cX8_weighTile 10 none 97 [(0, .ref x0), (1, .ref x1), (2, .ref x2), (3, .int x3), (4, .int x4), (5, .int x5), (7, .ref x7), (8, .int x8), (9, .int x9)] [] M (if (4 : Int32) ≤ x9 then fX8_weighTile_150 slf x1 x3 x5 x7 M else if x8 = 0 then if (12 : Int32) < 0 ∨ am_len M x7 ≤ (12 : Int32).toNatClampNeg then none else if (1000000 : Int32) ≤ M.1 x7 ((12 : Int32).toNatClampNeg) then fX8_weighTile_150 slf x1 x3 x5 x7 M else (slf x0 x1 x2 (x3 + 1) ((4 * x4) + x9) M).bind fun M38 => if x3 + 1 < 0 ∨ am_len M38 x0 ≤ (x3 + 1).toNatClampNeg then none else (M38.2.2.1 x0 ((x3 + 1).toNatClampNeg)).bind fun r43 => (fX8_addRow x7 r43 M38).bind fun M47 => k97 (x0, x1, x2, x3, x4, x5, x7, x8, x9 + 1, M47) else fX8_weighTile_150 slf x1 x3 x5 x7 M)
  refine am_iload 8 dX8_weighTile_97 rfl ?_
  refine am_iconst dX8_weighTile_99 am_kc_4 ?_
  refine am_icmp_ge (tgt := 150) dX8_weighTile_100 (by decide) (fun c27 => ?_) (fun c27 => ?_)
  · refine am_sub [1, 3, 5, 6] rfl ?_
    exact sX8_weighTile_150 G slf dS hS0 hslf x1 x3 x5 x7 M h_x1 h_x7
  · refine am_iload 7 dX8_weighTile_103 rfl ?_
    refine am_if_ne (tgt := 150) dX8_weighTile_105 (by decide) (fun c34 => ?_) (fun c34 => ?_)
    · refine am_sub [1, 3, 5, 6] rfl ?_
      exact sX8_weighTile_150 G slf dS hS0 hslf x1 x3 x5 x7 M h_x1 h_x7
    · refine am_aload 6 dX8_weighTile_108 rfl ?_
      refine am_bipush (x := 12) dX8_weighTile_110 (by decide) ?_
      refine am_iald dX8_weighTile_112 h_x7 (fun b35 => ?_)
      refine am_ldc dX8_weighTile_113 kc_RX8_20 ?_
      refine am_icmp_ge (tgt := 150) dX8_weighTile_115 (by decide) (fun c36 => ?_) (fun c36 => ?_)
      · refine am_sub [1, 3, 5, 6] rfl ?_
        exact sX8_weighTile_150 G slf dS hS0 hslf x1 x3 x5 x7 M h_x1 h_x7
      · refine am_aload_n 0 dX8_weighTile_118 rfl rfl ?_
        refine am_aload_n 1 dX8_weighTile_119 rfl rfl ?_
        refine am_aload_n 2 dX8_weighTile_120 rfl rfl ?_
        refine am_iload_n 3 dX8_weighTile_121 rfl rfl ?_
        refine am_iconst dX8_weighTile_122 am_kc_1 ?_
        refine am_iadd dX8_weighTile_123 ?_
        refine am_iconst dX8_weighTile_124 am_kc_4 ?_
        refine am_iload 4 dX8_weighTile_125 rfl ?_
        refine am_imul dX8_weighTile_127 ?_
        refine am_iload 8 dX8_weighTile_128 rfl ?_
        refine am_iadd dX8_weighTile_130 ?_
        refine am_callSv [.ref x0, .ref x1, .ref x2, .int (x3 + 1), .int ((4 * x4) + x9)] (hslf x0 x1 x2 (x3 + 1) ((4 * x4) + x9) M h_x0 h_x1 h_x2) dX8_weighTile_131 mb_yX8_weighTile ⟨ml_RX8_16, sm_yX8_weighTile⟩ (by omega) rfl rfl (Nat.le_of_ble_eq_true rfl) (fun M38 q37 w40 l39 => ?_)
        refine am_aload 6 dX8_weighTile_134 rfl ?_
        refine am_aload_n 0 dX8_weighTile_136 rfl rfl ?_
        refine am_iload_n 3 dX8_weighTile_137 rfl rfl ?_
        refine am_iconst dX8_weighTile_138 am_kc_1 ?_
        refine am_iadd dX8_weighTile_139 ?_
        refine am_aald dX8_weighTile_140 (am_sh.mono l39 h_x0) (Or.inr rfl) (fun r43 b42 e44 h45 => ?_)
        refine am_callSv [.ref x7, .ref r43] (CX8_addRow G x7 r43 M38 (am_sh.mono l39 h_x7) h45) dX8_weighTile_141 mb_yX8_addRow ⟨ml_RX8_46, sm_yX8_addRow⟩ (by omega) rfl rfl (Nat.le_of_ble_eq_true rfl) (fun M47 q46 w49 l48 => ?_)
        refine am_iinc (L' := [(9, .int (x9 + 1)), (0, .ref x0), (1, .ref x1), (2, .ref x2), (3, .int x3), (4, .int x4), (5, .int x5), (7, .ref x7), (8, .int x8)]) 8 dX8_weighTile_144 rfl (by rfl) (by decide) rfl ?_
        refine am_goto (tgt := 97) dX8_weighTile_147 (by decide) ?_
        refine am_sub [1, 2, 3, 4, 5, 6, 7, 8, 0] rfl ?_
        exact hk97 (x0, x1, x2, x3, x4, x5, x7, x8, x9 + 1, M47) ⟨(am_sh.mono l48 (am_sh.mono l39 h_x0)), (am_sh.mono l48 (am_sh.mono l39 h_x1)), (am_sh.mono l48 (am_sh.mono l39 h_x2)), (am_sh.mono l48 (am_sh.mono l39 h_x7))⟩
set_option maxRecDepth 100000 in
set_option maxHeartbeats 4000000 in
theorem lX8_weighTile_97 (G : am_G) (slf : Nat → Nat → Nat → Int32 → Int32 → am_M → Option am_M) (dS : Nat) (hS0 : 1 ≤ dS) (hslf : ∀ (a0 : Nat) (a1 : Nat) (a2 : Nat) (a3 : Int32) (a4 : Int32) (M : am_M), am_sh M a0 4 → am_sh M a1 9 → am_sh M a2 7 →  am_C am_ev G dS yX8_weighTile cX8_weighTile 10 none [.ref a0, .ref a1, .ref a2, .int a3, .int a4] M (slf a0 a1 a2 a3 a4 M)) (n : Nat) (q : (Nat × Nat × Nat × Int32 × Int32 × Int32 × Nat × Int32 × Int32 × am_M)) (hq : match q with | (x0, x1, x2, x3, x4, x5, x7, x8, x9, M) => am_sh M x0 4 ∧ am_sh M x1 9 ∧ am_sh M x2 7 ∧ am_sh M x7 0) : match q with | (x0, x1, x2, x3, x4, x5, x7, x8, x9, M) => am_S am_ev G (dS + 1) yX8_weighTile.cls yX8_weighTile.name cX8_weighTile 10 none 97 [(0, .ref x0), (1, .ref x1), (2, .ref x2), (3, .int x3), (4, .int x4), (5, .int x5), (7, .ref x7), (8, .int x8), (9, .int x9)] [] M (am_loop (fX8_weighTile_97 slf) n (x0, x1, x2, x3, x4, x5, x7, x8, x9, M)) := by
  exact am_loop_ok (fun q : (Nat × Nat × Nat × Int32 × Int32 × Int32 × Nat × Int32 × Int32 × am_M) => match q with | (x0, x1, x2, x3, x4, x5, x7, x8, x9, M) => am_sh M x0 4 ∧ am_sh M x1 9 ∧ am_sh M x2 7 ∧ am_sh M x7 0) (fun q X => match q with | (x0, x1, x2, x3, x4, x5, x7, x8, x9, M) => am_S am_ev G (dS + 1) yX8_weighTile.cls yX8_weighTile.name cX8_weighTile 10 none 97 [(0, .ref x0), (1, .ref x1), (2, .ref x2), (3, .int x3), (4, .int x4), (5, .int x5), (7, .ref x7), (8, .int x8), (9, .int x9)] [] M X) (fun _ => am_none) (fun k97 hk97 q hq => match q, hq with | (x0, x1, x2, x3, x4, x5, x7, x8, x9, M), ⟨h_x0, h_x1, h_x2, h_x7⟩ => sX8_weighTile_97 G slf dS hS0 hslf k97 hk97 x0 x1 x2 x3 x4 x5 x7 x8 x9 M h_x0 h_x1 h_x2 h_x7) n q hq
set_option maxRecDepth 100000 in
set_option maxHeartbeats 4000000 in
theorem sX8_weighTile_94 (G : am_G) (slf : Nat → Nat → Nat → Int32 → Int32 → am_M → Option am_M) (dS : Nat) (hS0 : 1 ≤ dS) (hslf : ∀ (a0 : Nat) (a1 : Nat) (a2 : Nat) (a3 : Int32) (a4 : Int32) (M : am_M), am_sh M a0 4 → am_sh M a1 9 → am_sh M a2 7 →  am_C am_ev G dS yX8_weighTile cX8_weighTile 10 none [.ref a0, .ref a1, .ref a2, .int a3, .int a4] M (slf a0 a1 a2 a3 a4 M)) (x0 : Nat) (x1 : Nat) (x2 : Nat) (x3 : Int32) (x4 : Int32) (x5 : Int32) (x7 : Nat) (x8 : Int32) (M : am_M) (h_x0 : am_sh M x0 4) (h_x1 : am_sh M x1 9) (h_x2 : am_sh M x2 7) (h_x7 : am_sh M x7 0) : am_S am_ev G (dS + 1) yX8_weighTile.cls yX8_weighTile.name cX8_weighTile 10 none 94 [(0, .ref x0), (1, .ref x1), (2, .ref x2), (3, .int x3), (4, .int x4), (5, .int x5), (7, .ref x7), (8, .int x8)] [] M (fX8_weighTile_94 slf x0 x1 x2 x3 x4 x5 x7 x8 M) := by
  show am_S am_ev G (dS + 1) yX8_weighTile.cls yX8_weighTile.name cX8_weighTile 10 none 94 [(0, .ref x0), (1, .ref x1), (2, .ref x2), (3, .int x3), (4, .int x4), (5, .int x5), (7, .ref x7), (8, .int x8)] [] M (am_loop (fX8_weighTile_97 slf) 100000 (x0, x1, x2, x3, x4, x5, x7, x8, 0, M))
  refine am_iconst dX8_weighTile_94 am_kc_0 ?_
  refine am_istore (L' := [(9, .int 0), (0, .ref x0), (1, .ref x1), (2, .ref x2), (3, .int x3), (4, .int x4), (5, .int x5), (7, .ref x7), (8, .int x8)]) dX8_weighTile_95 (by decide) rfl ?_
  refine am_sub [1, 2, 3, 4, 5, 6, 7, 8, 0] rfl ?_
  exact lX8_weighTile_97 G slf dS hS0 hslf 100000 (x0, x1, x2, x3, x4, x5, x7, x8, 0, M) ⟨h_x0, h_x1, h_x2, h_x7⟩
set_option maxRecDepth 100000 in
set_option maxHeartbeats 4000000 in
theorem sX8_weighTile_80 (G : am_G) (slf : Nat → Nat → Nat → Int32 → Int32 → am_M → Option am_M) (dS : Nat) (hS0 : 1 ≤ dS) (hslf : ∀ (a0 : Nat) (a1 : Nat) (a2 : Nat) (a3 : Int32) (a4 : Int32) (M : am_M), am_sh M a0 4 → am_sh M a1 9 → am_sh M a2 7 →  am_C am_ev G dS yX8_weighTile cX8_weighTile 10 none [.ref a0, .ref a1, .ref a2, .int a3, .int a4] M (slf a0 a1 a2 a3 a4 M)) (x0 : Nat) (x1 : Nat) (x2 : Nat) (x3 : Int32) (x4 : Int32) (x5 : Int32) (x7 : Nat) (s0 : Int32) (M : am_M) (h_x0 : am_sh M x0 4) (h_x1 : am_sh M x1 9) (h_x2 : am_sh M x2 7) (h_x7 : am_sh M x7 0) : am_S am_ev G (dS + 1) yX8_weighTile.cls yX8_weighTile.name cX8_weighTile 10 none 80 [(0, .ref x0), (1, .ref x1), (2, .ref x2), (3, .int x3), (4, .int x4), (5, .int x5), (7, .ref x7)] [.int s0] M (fX8_weighTile_80 slf x0 x1 x2 x3 x4 x5 x7 s0 M) := by
  show am_S am_ev G (dS + 1) yX8_weighTile.cls yX8_weighTile.name cX8_weighTile 10 none 80 [(0, .ref x0), (1, .ref x1), (2, .ref x2), (3, .int x3), (4, .int x4), (5, .int x5), (7, .ref x7)] [.int s0] M (if s0 = 0 then fX8_weighTile_94 slf x0 x1 x2 x3 x4 x5 x7 s0 M else (fJ7_fill_53178 x7 1000000 M).bind fun M52 => fX8_weighTile_94 slf x0 x1 x2 x3 x4 x5 x7 s0 M52)
  refine am_istore (L' := [(8, .int s0), (0, .ref x0), (1, .ref x1), (2, .ref x2), (3, .int x3), (4, .int x4), (5, .int x5), (7, .ref x7)]) dX8_weighTile_80 (by decide) rfl ?_
  refine am_iload 0 dX8_weighTile_82 rfl ?_
  refine am_if_eq (tgt := 94) dX8_weighTile_84 (by decide) (fun c26 => ?_) (fun c26 => ?_)
  · refine am_sub [1, 2, 3, 4, 5, 6, 7, 0] rfl ?_
    exact sX8_weighTile_94 G slf dS hS0 hslf x0 x1 x2 x3 x4 x5 x7 s0 M h_x0 h_x1 h_x2 h_x7
  · refine am_aload 7 dX8_weighTile_87 rfl ?_
    refine am_ldc dX8_weighTile_89 kc_RX8_20 ?_
    refine am_callSv [.ref x7, .int 1000000] (CJ7_fill_53178 G x7 1000000 M h_x7) dX8_weighTile_91 mb_yJ7_fill_53178 ⟨ml_RX8_37, sm_yJ7_fill_53178⟩ (by omega) rfl rfl (Nat.le_of_ble_eq_true rfl) (fun M52 q51 w54 l53 => ?_)
    refine am_sub [1, 2, 3, 4, 5, 6, 7, 0] rfl ?_
    exact sX8_weighTile_94 G slf dS hS0 hslf x0 x1 x2 x3 x4 x5 x7 s0 M52 (am_sh.mono l53 h_x0) (am_sh.mono l53 h_x1) (am_sh.mono l53 h_x2) (am_sh.mono l53 h_x7)
set_option maxRecDepth 100000 in
set_option maxHeartbeats 4000000 in
theorem sX8_weighTile_75 (G : am_G) (slf : Nat → Nat → Nat → Int32 → Int32 → am_M → Option am_M) (dS : Nat) (hS0 : 1 ≤ dS) (hslf : ∀ (a0 : Nat) (a1 : Nat) (a2 : Nat) (a3 : Int32) (a4 : Int32) (M : am_M), am_sh M a0 4 → am_sh M a1 9 → am_sh M a2 7 →  am_C am_ev G dS yX8_weighTile cX8_weighTile 10 none [.ref a0, .ref a1, .ref a2, .int a3, .int a4] M (slf a0 a1 a2 a3 a4 M)) (x0 : Nat) (x1 : Nat) (x2 : Nat) (x3 : Int32) (x4 : Int32) (x5 : Int32) (x7 : Nat) (M : am_M) (h_x0 : am_sh M x0 4) (h_x1 : am_sh M x1 9) (h_x2 : am_sh M x2 7) (h_x7 : am_sh M x7 0) : am_S am_ev G (dS + 1) yX8_weighTile.cls yX8_weighTile.name cX8_weighTile 10 none 75 [(0, .ref x0), (1, .ref x1), (2, .ref x2), (3, .int x3), (4, .int x4), (5, .int x5), (7, .ref x7)] [] M (fX8_weighTile_75 slf x0 x1 x2 x3 x4 x5 x7 M) := by
  show am_S am_ev G (dS + 1) yX8_weighTile.cls yX8_weighTile.name cX8_weighTile 10 none 75 [(0, .ref x0), (1, .ref x1), (2, .ref x2), (3, .int x3), (4, .int x4), (5, .int x5), (7, .ref x7)] [] M (fX8_weighTile_80 slf x0 x1 x2 x3 x4 x5 x7 1 M)
  refine am_iconst dX8_weighTile_75 am_kc_1 ?_
  refine am_goto (tgt := 80) dX8_weighTile_76 (by decide) ?_
  exact sX8_weighTile_80 G slf dS hS0 hslf x0 x1 x2 x3 x4 x5 x7 1 M h_x0 h_x1 h_x2 h_x7
set_option maxRecDepth 100000 in
set_option maxHeartbeats 4000000 in
theorem sX8_weighTile_79 (G : am_G) (slf : Nat → Nat → Nat → Int32 → Int32 → am_M → Option am_M) (dS : Nat) (hS0 : 1 ≤ dS) (hslf : ∀ (a0 : Nat) (a1 : Nat) (a2 : Nat) (a3 : Int32) (a4 : Int32) (M : am_M), am_sh M a0 4 → am_sh M a1 9 → am_sh M a2 7 →  am_C am_ev G dS yX8_weighTile cX8_weighTile 10 none [.ref a0, .ref a1, .ref a2, .int a3, .int a4] M (slf a0 a1 a2 a3 a4 M)) (x0 : Nat) (x1 : Nat) (x2 : Nat) (x3 : Int32) (x4 : Int32) (x5 : Int32) (x7 : Nat) (M : am_M) (h_x0 : am_sh M x0 4) (h_x1 : am_sh M x1 9) (h_x2 : am_sh M x2 7) (h_x7 : am_sh M x7 0) : am_S am_ev G (dS + 1) yX8_weighTile.cls yX8_weighTile.name cX8_weighTile 10 none 79 [(0, .ref x0), (1, .ref x1), (2, .ref x2), (3, .int x3), (4, .int x4), (5, .int x5), (7, .ref x7)] [] M (fX8_weighTile_79 slf x0 x1 x2 x3 x4 x5 x7 M) := by
  show am_S am_ev G (dS + 1) yX8_weighTile.cls yX8_weighTile.name cX8_weighTile 10 none 79 [(0, .ref x0), (1, .ref x1), (2, .ref x2), (3, .int x3), (4, .int x4), (5, .int x5), (7, .ref x7)] [] M (fX8_weighTile_80 slf x0 x1 x2 x3 x4 x5 x7 0 M)
  refine am_iconst dX8_weighTile_79 am_kc_0 ?_
  exact sX8_weighTile_80 G slf dS hS0 hslf x0 x1 x2 x3 x4 x5 x7 0 M h_x0 h_x1 h_x2 h_x7
set_option maxRecDepth 100000 in
set_option maxHeartbeats 4000000 in
theorem sX8_weighTile_0 (G : am_G) (slf : Nat → Nat → Nat → Int32 → Int32 → am_M → Option am_M) (dS : Nat) (hS0 : 1 ≤ dS) (hslf : ∀ (a0 : Nat) (a1 : Nat) (a2 : Nat) (a3 : Int32) (a4 : Int32) (M : am_M), am_sh M a0 4 → am_sh M a1 9 → am_sh M a2 7 →  am_C am_ev G dS yX8_weighTile cX8_weighTile 10 none [.ref a0, .ref a1, .ref a2, .int a3, .int a4] M (slf a0 a1 a2 a3 a4 M)) (a0 : Nat) (a1 : Nat) (a2 : Nat) (a3 : Int32) (a4 : Int32) (M : am_M) (h_a0 : am_sh M a0 4) (h_a1 : am_sh M a1 9) (h_a2 : am_sh M a2 7) : am_S am_ev G (dS + 1) yX8_weighTile.cls yX8_weighTile.name cX8_weighTile 10 none 0 [(0, .ref a0), (1, .ref a1), (2, .ref a2), (3, .int a3), (4, .int a4)] [] M (fX8_weighTile_b slf a0 a1 a2 a3 a4 M) := by
  show am_S am_ev G (dS + 1) yX8_weighTile.cls yX8_weighTile.name cX8_weighTile 10 none 0 [(0, .ref a0), (1, .ref a1), (2, .ref a2), (3, .int a3), (4, .int a4)] [] M (if M.1 a1 6 < a3 then some M else if a3 ≤ 6 then (fX5_tileSize a1 a3 M).bind fun p8 => (fX3_countIn a2 (a4 * p8.1) p8.1 p8.2).bind fun p14 => if a3 < 0 ∨ am_len p14.2 a0 ≤ a3.toNatClampNeg then none else (p14.2.2.2.1 a0 (a3.toNatClampNeg)).bind fun r16 => (fJ7_fill_53178 r16 0 p14.2).bind fun M20 => if p14.1 = 0 then some M20 else if a3 = M20.1 a1 6 then fX8_weighTile_75 slf a0 a1 a2 a3 a4 p8.1 r16 M20 else if p14.1 = p8.1 then if a3 < M20.1 a1 5 then fX8_weighTile_79 slf a0 a1 a2 a3 a4 p8.1 r16 M20 else fX8_weighTile_75 slf a0 a1 a2 a3 a4 p8.1 r16 M20 else fX8_weighTile_79 slf a0 a1 a2 a3 a4 p8.1 r16 M20 else some M)
  refine am_iload_n 3 dX8_weighTile_0 rfl rfl ?_
  refine am_aload_n 1 dX8_weighTile_1 rfl rfl ?_
  refine am_getI 4 dX8_weighTile_2 fl_RX8_21 h_a1 rfl ?_
  refine am_icmp_gt (tgt := 14) dX8_weighTile_5 (by decide) (fun c1 => ?_) (fun c1 => ?_)
  · exact am_vret dX8_weighTile_14
  · refine am_iload_n 3 dX8_weighTile_8 rfl rfl ?_
    refine am_bipush (x := 6) dX8_weighTile_9 (by decide) ?_
    refine am_icmp_le (tgt := 15) dX8_weighTile_11 (by decide) (fun c2 => ?_) (fun c2 => ?_)
    · refine am_aload_n 1 dX8_weighTile_15 rfl rfl ?_
      refine am_iload_n 3 dX8_weighTile_16 rfl rfl ?_
      refine am_callVi 4 [.int a3] (CX5_tileSize G a1 a3 M h_a1) dX8_weighTile_17 mb_yX5_tileSize ⟨ml_RX8_27, im_yX5_tileSize, se_yX5_tileSize⟩ rfl h_a1 (by omega) rfl rfl (Nat.le_of_ble_eq_true rfl) (fun v7 M4 q3 w6 l5 => ?_)
      refine am_istore (L' := [(5, .int v7), (0, .ref a0), (1, .ref a1), (2, .ref a2), (3, .int a3), (4, .int a4)]) dX8_weighTile_20 (by decide) rfl ?_
      refine am_aload_n 3 dX8_weighTile_22 rfl rfl ?_
      refine am_iload 5 dX8_weighTile_23 rfl ?_
      refine am_iload 0 dX8_weighTile_25 rfl ?_
      refine am_imul dX8_weighTile_27 ?_
      refine am_iload 0 dX8_weighTile_28 rfl ?_
      refine am_callVi 2 [.int (a4 * v7), .int v7] (CX3_countIn G a2 (a4 * v7) v7 M4 (am_sh.mono l5 h_a2)) dX8_weighTile_30 mb_yX3_countIn ⟨ml_RX8_31, im_yX3_countIn, se_yX3_countIn⟩ rfl (am_sh.mono l5 h_a2) (by omega) rfl rfl (Nat.le_of_ble_eq_true rfl) (fun v13 M10 q9 w12 l11 => ?_)
      refine am_istore (L' := [(6, .int v13), (5, .int v7), (0, .ref a0), (1, .ref a1), (2, .ref a2), (3, .int a3), (4, .int a4)]) dX8_weighTile_33 (by decide) rfl ?_
      refine am_aload_n 2 dX8_weighTile_35 rfl rfl ?_
      refine am_iload_n 5 dX8_weighTile_36 rfl rfl ?_
      refine am_aald dX8_weighTile_37 (am_sh.mono l11 (am_sh.mono l5 h_a0)) (Or.inr rfl) (fun r16 b15 e17 h18 => ?_)
      refine am_astore (L' := [(7, .ref r16), (6, .int v13), (5, .int v7), (0, .ref a0), (1, .ref a1), (2, .ref a2), (3, .int a3), (4, .int a4)]) dX8_weighTile_38 (by decide) rfl ?_
      refine am_aload 0 dX8_weighTile_40 rfl ?_
      refine am_iconst dX8_weighTile_42 am_kc_0 ?_
      refine am_callSv [.ref r16, .int 0] (CJ7_fill_53178 G r16 0 M10 h18) dX8_weighTile_43 mb_yJ7_fill_53178 ⟨ml_RX8_37, sm_yJ7_fill_53178⟩ (by omega) rfl rfl (Nat.le_of_ble_eq_true rfl) (fun M20 q19 w22 l21 => ?_)
      refine am_iload 1 dX8_weighTile_46 rfl ?_
      refine am_if_ne (tgt := 52) dX8_weighTile_48 (by decide) (fun c24 => ?_) (fun c24 => ?_)
      · refine am_iload_n 6 dX8_weighTile_52 rfl rfl ?_
        refine am_aload_n 4 dX8_weighTile_53 rfl rfl ?_
        refine am_getI 4 dX8_weighTile_54 fl_RX8_21 (am_sh.mono l21 (am_sh.mono l11 (am_sh.mono l5 h_a1))) rfl ?_
        refine am_icmp_eq (tgt := 75) dX8_weighTile_57 (by decide) (fun c25 => ?_) (fun c25 => ?_)
        · refine am_sub [3, 4, 5, 6, 7, 2, 0] rfl ?_
          exact sX8_weighTile_75 G slf dS hS0 hslf a0 a1 a2 a3 a4 v7 r16 M20 (am_sh.mono l21 (am_sh.mono l11 (am_sh.mono l5 h_a0))) (am_sh.mono l21 (am_sh.mono l11 (am_sh.mono l5 h_a1))) (am_sh.mono l21 (am_sh.mono l11 (am_sh.mono l5 h_a2))) (am_sh.mono l21 h18)
        · refine am_iload 1 dX8_weighTile_60 rfl ?_
          refine am_iload 2 dX8_weighTile_62 rfl ?_
          refine am_icmp_ne (tgt := 79) dX8_weighTile_64 (by decide) (fun c56 => ?_) (fun c56 => ?_)
          · refine am_sub [3, 4, 5, 6, 7, 2, 0] rfl ?_
            exact sX8_weighTile_79 G slf dS hS0 hslf a0 a1 a2 a3 a4 v7 r16 M20 (am_sh.mono l21 (am_sh.mono l11 (am_sh.mono l5 h_a0))) (am_sh.mono l21 (am_sh.mono l11 (am_sh.mono l5 h_a1))) (am_sh.mono l21 (am_sh.mono l11 (am_sh.mono l5 h_a2))) (am_sh.mono l21 h18)
          · refine am_iload_n 6 dX8_weighTile_67 rfl rfl ?_
            refine am_aload_n 4 dX8_weighTile_68 rfl rfl ?_
            refine am_getI 4 dX8_weighTile_69 fl_RX8_43 (am_sh.mono l21 (am_sh.mono l11 (am_sh.mono l5 h_a1))) rfl ?_
            refine am_icmp_lt (tgt := 79) dX8_weighTile_72 (by decide) (fun c57 => ?_) (fun c57 => ?_)
            · refine am_sub [3, 4, 5, 6, 7, 2, 0] rfl ?_
              exact sX8_weighTile_79 G slf dS hS0 hslf a0 a1 a2 a3 a4 v7 r16 M20 (am_sh.mono l21 (am_sh.mono l11 (am_sh.mono l5 h_a0))) (am_sh.mono l21 (am_sh.mono l11 (am_sh.mono l5 h_a1))) (am_sh.mono l21 (am_sh.mono l11 (am_sh.mono l5 h_a2))) (am_sh.mono l21 h18)
            · refine am_sub [3, 4, 5, 6, 7, 2, 0] rfl ?_
              exact sX8_weighTile_75 G slf dS hS0 hslf a0 a1 a2 a3 a4 v7 r16 M20 (am_sh.mono l21 (am_sh.mono l11 (am_sh.mono l5 h_a0))) (am_sh.mono l21 (am_sh.mono l11 (am_sh.mono l5 h_a1))) (am_sh.mono l21 (am_sh.mono l11 (am_sh.mono l5 h_a2))) (am_sh.mono l21 h18)
      · exact am_vret dX8_weighTile_51
    · exact am_vret dX8_weighTile_14
/-- the recursion, as deep as the fuel goes -/
def gX8_weighTile : Nat → Nat → Nat → Nat → Int32 → Int32 → am_M → Option am_M
  | 0 => fun _ _ _ _ _ _ => none
  | n + 1 => fun a0 a1 a2 a3 a4 M => fX8_weighTile_b (gX8_weighTile n) a0 a1 a2 a3 a4 M
theorem EX8_weighTile (G : am_G) (n : Nat) (a0 : Nat) (a1 : Nat) (a2 : Nat) (a3 : Int32) (a4 : Int32) (M : am_M) (h_a0 : am_sh M a0 4) (h_a1 : am_sh M a1 9) (h_a2 : am_sh M a2 7) : am_C am_ev G (1 + n) yX8_weighTile cX8_weighTile 10 none [.ref a0, .ref a1, .ref a2, .int a3, .int a4] M (gX8_weighTile n a0 a1 a2 a3 a4 M) := by
  induction n generalizing a0 a1 a2 a3 a4 M with
  | zero => intro _ r h; cases h
  | succ n ih => exact am_meth (by decide) rfl (Nat.le_of_ble_eq_true rfl) (sX8_weighTile_0 G (gX8_weighTile n) (1 + n) (by omega) (fun a0 a1 a2 a3 a4 M h_a0 h_a1 h_a2 => ih a0 a1 a2 a3 a4 M h_a0 h_a1 h_a2) a0 a1 a2 a3 a4 M h_a0 h_a1 h_a2)
def fX8_weighTile (a0 : Nat) (a1 : Nat) (a2 : Nat) (a3 : Int32) (a4 : Int32) (M : am_M) : Option am_M := gX8_weighTile 12 a0 a1 a2 a3 a4 M
theorem CX8_weighTile (G : am_G) (a0 : Nat) (a1 : Nat) (a2 : Nat) (a3 : Int32) (a4 : Int32) (M : am_M) (h_a0 : am_sh M a0 4) (h_a1 : am_sh M a1 9) (h_a2 : am_sh M a2 7) : am_C am_ev G 13 yX8_weighTile cX8_weighTile 10 none [.ref a0, .ref a1, .ref a2, .int a3, .int a4] M (fX8_weighTile a0 a1 a2 a3 a4 M) := EX8_weighTile G 12 a0 a1 a2 a3 a4 M h_a0 h_a1 h_a2
def fX8_weighWorld (a0 : Nat) (a1 : Nat) (a2 : Nat) (M : am_M) : Option am_M := (M.2.2.1 a0 0).bind fun r1 => (fX8_weighTile r1 a1 a2 0 0 M).bind fun M5 => some M5
set_option maxRecDepth 100000 in
set_option maxHeartbeats 4000000 in
theorem sX8_weighWorld_0 (G : am_G) (a0 : Nat) (a1 : Nat) (a2 : Nat) (M : am_M) (h_a0 : am_sh M a0 12) (h_a1 : am_sh M a1 9) (h_a2 : am_sh M a2 7) : am_S am_ev G 14 yX8_weighWorld.cls yX8_weighWorld.name cX8_weighWorld 3 none 0 [(0, .ref a0), (1, .ref a1), (2, .ref a2)] [] M (fX8_weighWorld a0 a1 a2 M) := by
  show am_S am_ev G 14 yX8_weighWorld.cls yX8_weighWorld.name cX8_weighWorld 3 none 0 [(0, .ref a0), (1, .ref a1), (2, .ref a2)] [] M ((M.2.2.1 a0 0).bind fun r1 => (fX8_weighTile r1 a1 a2 0 0 M).bind fun M5 => some M5)
  refine am_aload_n 0 dX8_weighWorld_0 rfl rfl ?_
  refine am_getR 7 dX8_weighWorld_1 fl_RX8_11 h_a0 rfl (fun r1 e2 h3 => ?_)
  refine am_aload_n 1 dX8_weighWorld_4 rfl rfl ?_
  refine am_aload_n 2 dX8_weighWorld_5 rfl rfl ?_
  refine am_iconst dX8_weighWorld_6 am_kc_0 ?_
  refine am_iconst dX8_weighWorld_7 am_kc_0 ?_
  refine am_callSv [.ref r1, .ref a1, .ref a2, .int 0, .int 0] (CX8_weighTile G r1 a1 a2 0 0 M h3 h_a1 h_a2) dX8_weighWorld_8 mb_yX8_weighTile ⟨ml_RX8_16, sm_yX8_weighTile⟩ (by decide) rfl rfl (Nat.le_of_ble_eq_true rfl) (fun M5 q4 w7 l6 => ?_)
  exact am_vret dX8_weighWorld_11
theorem CX8_weighWorld (G : am_G) (a0 : Nat) (a1 : Nat) (a2 : Nat) (M : am_M) (h_a0 : am_sh M a0 12) (h_a1 : am_sh M a1 9) (h_a2 : am_sh M a2 7) : am_C am_ev G 14 yX8_weighWorld cX8_weighWorld 3 none [.ref a0, .ref a1, .ref a2] M (fX8_weighWorld a0 a1 a2 M) :=
  am_meth (by decide) rfl (Nat.le_of_ble_eq_true rfl) (sX8_weighWorld_0 G a0 a1 a2 M h_a0 h_a1 h_a2)
def fX8_leastOf (a0 : Nat) (a1 : Int32) (M : am_M) : Option (Int32 × am_M) := if a1 < 0 then some (1000000, M) else if (12 : Int32) < a1 then some (1000000, M) else (M.2.2.1 a0 0).bind fun r3 => if (0 : Int32) < 0 ∨ am_len M r3 ≤ (0 : Int32).toNatClampNeg then none else (M.2.2.1 r3 ((0 : Int32).toNatClampNeg)).bind fun r7 => if a1 < 0 ∨ am_len M r7 ≤ a1.toNatClampNeg then none else some (M.1 r7 (a1.toNatClampNeg), M)
set_option maxRecDepth 100000 in
set_option maxHeartbeats 4000000 in
theorem sX8_leastOf_0 (G : am_G) (a0 : Nat) (a1 : Int32) (M : am_M) (h_a0 : am_sh M a0 12) : am_S am_ei G 0 yX8_leastOf.cls yX8_leastOf.name cX8_leastOf 2 (some FieldType.int) 0 [(0, .ref a0), (1, .int a1)] [] M (fX8_leastOf a0 a1 M) := by
  show am_S am_ei G 0 yX8_leastOf.cls yX8_leastOf.name cX8_leastOf 2 (some FieldType.int) 0 [(0, .ref a0), (1, .int a1)] [] M (if a1 < 0 then some (1000000, M) else if (12 : Int32) < a1 then some (1000000, M) else (M.2.2.1 a0 0).bind fun r3 => if (0 : Int32) < 0 ∨ am_len M r3 ≤ (0 : Int32).toNatClampNeg then none else (M.2.2.1 r3 ((0 : Int32).toNatClampNeg)).bind fun r7 => if a1 < 0 ∨ am_len M r7 ≤ a1.toNatClampNeg then none else some (M.1 r7 (a1.toNatClampNeg), M))
  refine am_iload_n 1 dX8_leastOf_0 rfl rfl ?_
  refine am_if_lt (tgt := 21) dX8_leastOf_1 (by decide) (fun c1 => ?_) (fun c1 => ?_)
  · refine am_ldc dX8_leastOf_21 kc_RX8_20 ?_
    exact am_iret dX8_leastOf_23
  · refine am_iload_n 1 dX8_leastOf_4 rfl rfl ?_
    refine am_bipush (x := 12) dX8_leastOf_5 (by decide) ?_
    refine am_icmp_gt (tgt := 21) dX8_leastOf_7 (by decide) (fun c2 => ?_) (fun c2 => ?_)
    · refine am_ldc dX8_leastOf_21 kc_RX8_20 ?_
      exact am_iret dX8_leastOf_23
    · refine am_aload_n 0 dX8_leastOf_10 rfl rfl ?_
      refine am_getR 7 dX8_leastOf_11 fl_RX8_11 h_a0 rfl (fun r3 e4 h5 => ?_)
      refine am_iconst dX8_leastOf_14 am_kc_0 ?_
      refine am_aald dX8_leastOf_15 h5 (Or.inr rfl) (fun r7 b6 e8 h9 => ?_)
      refine am_iload_n 1 dX8_leastOf_16 rfl rfl ?_
      refine am_iald dX8_leastOf_17 h9 (fun b10 => ?_)
      refine am_goto (tgt := 23) dX8_leastOf_18 (by decide) ?_
      exact am_iret dX8_leastOf_23
theorem CX8_leastOf (G : am_G) (a0 : Nat) (a1 : Int32) (M : am_M) (h_a0 : am_sh M a0 12) : am_C am_ei G 0 yX8_leastOf cX8_leastOf 2 (some FieldType.int) [.ref a0, .int a1] M (fX8_leastOf a0 a1 M) :=
  am_meth (by decide) rfl (Nat.le_of_ble_eq_true rfl) (sX8_leastOf_0 G a0 a1 M h_a0)
def fX0_leastCells_24 (x0 : Nat) (x2 : Int32) (M : am_M) : Option (Int32 × am_M) := (M.2.2.1 x0 4).bind fun r2 => (fX8_leastOf r2 x2 M).bind fun p10 => some (p10.1, p10.2)
def fX0_leastCells (a0 : Nat) (a1 : Nat) (a2 : Int32) (M : am_M) : Option (Int32 × am_M) := if M.1 a0 6 = 0 then (M.2.2.1 a0 4).bind fun r11 => (M.2.2.1 a0 0).bind fun r14 => (fX8_weighWorld r11 a1 r14 M).bind fun M18 => fX0_leastCells_24 a0 a2 (am_pI M18 a0 6 1) else fX0_leastCells_24 a0 a2 M
set_option maxRecDepth 100000 in
set_option maxHeartbeats 4000000 in
theorem sX0_leastCells_24 (G : am_G) (x0 : Nat) (x2 : Int32) (M : am_M) (h_x0 : am_sh M x0 5) : am_S am_ei G 15 yX0_leastCells.cls yX0_leastCells.name cX0_leastCells 3 (some FieldType.int) 24 [(0, .ref x0), (2, .int x2)] [] M (fX0_leastCells_24 x0 x2 M) := by
  show am_S am_ei G 15 yX0_leastCells.cls yX0_leastCells.name cX0_leastCells 3 (some FieldType.int) 24 [(0, .ref x0), (2, .int x2)] [] M ((M.2.2.1 x0 4).bind fun r2 => (fX8_leastOf r2 x2 M).bind fun p10 => some (p10.1, p10.2))
  refine am_aload_n 0 dX0_leastCells_24 rfl rfl ?_
  refine am_getR 0 dX0_leastCells_25 fl_RX0_34 h_x0 rfl (fun r2 e3 h4 => ?_)
  refine am_iload_n 1 dX0_leastCells_28 rfl rfl ?_
  refine am_callVi 7 [.int x2] (CX8_leastOf G r2 x2 M h4) dX0_leastCells_29 mb_yX8_leastOf ⟨ml_RX0_110, im_yX8_leastOf, se_yX8_leastOf⟩ rfl h4 (by decide) rfl rfl (Nat.le_of_ble_eq_true rfl) (fun v9 M6 q5 w8 l7 => ?_)
  exact am_iret dX0_leastCells_32
set_option maxRecDepth 100000 in
set_option maxHeartbeats 4000000 in
theorem sX0_leastCells_0 (G : am_G) (a0 : Nat) (a1 : Nat) (a2 : Int32) (M : am_M) (h_a0 : am_sh M a0 5) (h_a1 : am_sh M a1 9) : am_S am_ei G 15 yX0_leastCells.cls yX0_leastCells.name cX0_leastCells 3 (some FieldType.int) 0 [(0, .ref a0), (1, .ref a1), (2, .int a2)] [] M (fX0_leastCells a0 a1 a2 M) := by
  show am_S am_ei G 15 yX0_leastCells.cls yX0_leastCells.name cX0_leastCells 3 (some FieldType.int) 0 [(0, .ref a0), (1, .ref a1), (2, .int a2)] [] M (if M.1 a0 6 = 0 then (M.2.2.1 a0 4).bind fun r11 => (M.2.2.1 a0 0).bind fun r14 => (fX8_weighWorld r11 a1 r14 M).bind fun M18 => fX0_leastCells_24 a0 a2 (am_pI M18 a0 6 1) else fX0_leastCells_24 a0 a2 M)
  refine am_aload_n 0 dX0_leastCells_0 rfl rfl ?_
  refine am_getI 0 dX0_leastCells_1 fl_RX0_42 h_a0 rfl ?_
  refine am_if_ne (tgt := 24) dX0_leastCells_4 (by decide) (fun c1 => ?_) (fun c1 => ?_)
  · refine am_sub [0, 2] rfl ?_
    exact sX0_leastCells_24 G a0 a2 M h_a0
  · refine am_aload_n 0 dX0_leastCells_7 rfl rfl ?_
    refine am_getR 0 dX0_leastCells_8 fl_RX0_34 h_a0 rfl (fun r11 e12 h13 => ?_)
    refine am_aload_n 1 dX0_leastCells_11 rfl rfl ?_
    refine am_aload_n 0 dX0_leastCells_12 rfl rfl ?_
    refine am_getR 0 dX0_leastCells_13 fl_RX0_12 h_a0 rfl (fun r14 e15 h16 => ?_)
    refine am_callVv 7 [.ref a1, .ref r14] (CX8_weighWorld G r11 a1 r14 M h13 h_a1 h16) dX0_leastCells_16 mb_yX8_weighWorld ⟨ml_RX0_106, im_yX8_weighWorld, se_yX8_weighWorld⟩ rfl h13 (by decide) rfl rfl (Nat.le_of_ble_eq_true rfl) (fun M18 q17 w20 l19 => ?_)
    refine am_aload_n 0 dX0_leastCells_19 rfl rfl ?_
    refine am_iconst dX0_leastCells_20 am_kc_1 ?_
    refine am_putI 0 dX0_leastCells_21 fl_RX0_42 (am_sh.mono l19 h_a0) rfl rfl rfl rfl ?_
    refine am_sub [0, 2] rfl ?_
    exact sX0_leastCells_24 G a0 a2 (am_pI M18 a0 6 1) (am_sh.of (am_sh.mono l19 h_a0) rfl)
theorem CX0_leastCells (G : am_G) (a0 : Nat) (a1 : Nat) (a2 : Int32) (M : am_M) (h_a0 : am_sh M a0 5) (h_a1 : am_sh M a1 9) : am_C am_ei G 15 yX0_leastCells cX0_leastCells 3 (some FieldType.int) [.ref a0, .ref a1, .int a2] M (fX0_leastCells a0 a1 a2 M) :=
  am_meth (by decide) rfl (Nat.le_of_ble_eq_true rfl) (sX0_leastCells_0 G a0 a1 a2 M h_a0 h_a1)
def fX1_keyOf_81 (k14 : (Int32 × Int32 × Int32 × Int32 × Int32 × am_M) → Option (Int32 × am_M)) (x1 : Int32) (x4 : Int32) (x5 : Int32) (x6 : Int32) (x7 : Int32) (x8 : Int32) (x9 : Int32) (x10 : Int32) (s0 : Int32) (M : am_M) : Option (Int32 × am_M) := (fX1_turnedX x1 s0 x8 (x5 - (x9 * x8)) (x6 - (x10 * x8)) M).bind fun p11 => (fX1_turnedX x1 s0 x8 (x6 - (x10 * x8)) (x5 - (x9 * x8)) p11.2).bind fun p17 => k14 (x1, (4 * x4) + s0, p11.1, p17.1, x7 + (-1), p17.2)
def fX1_keyOf_51 (k14 : (Int32 × Int32 × Int32 × Int32 × Int32 × am_M) → Option (Int32 × am_M)) (x1 : Int32) (x4 : Int32) (x5 : Int32) (x6 : Int32) (x7 : Int32) (x8 : Int32) (x9 : Int32) (s0 : Int32) (M : am_M) : Option (Int32 × am_M) := if x1 = 0 then fX1_keyOf_81 k14 x1 x4 x5 x6 x7 x8 x9 s0 (x9 + (2 * s0)) M else if x9 = 0 then fX1_keyOf_81 k14 x1 x4 x5 x6 x7 x8 x9 s0 s0 M else fX1_keyOf_81 k14 x1 x4 x5 x6 x7 x8 x9 s0 (3 - s0) M
def fX1_keyOf_37 (k14 : (Int32 × Int32 × Int32 × Int32 × Int32 × am_M) → Option (Int32 × am_M)) (x1 : Int32) (x4 : Int32) (x5 : Int32) (x6 : Int32) (x7 : Int32) (x8 : Int32) (s0 : Int32) (M : am_M) : Option (Int32 × am_M) := if x6 < x8 then fX1_keyOf_51 k14 x1 x4 x5 x6 x7 x8 s0 0 M else fX1_keyOf_51 k14 x1 x4 x5 x6 x7 x8 s0 1 M
def fX1_keyOf_14 : ((Int32 × Int32 × Int32 × Int32 × Int32 × am_M) → Option (Int32 × am_M)) → (Int32 × Int32 × Int32 × Int32 × Int32 × am_M) → Option (Int32 × am_M) := fun k14 q0 => match q0 with
  | (x1, x4, x5, x6, x7, M) => if x7 < 0 then some (x4, M) else if x5 < 1 <<< (x7 &&& 31) then fX1_keyOf_37 k14 x1 x4 x5 x6 x7 (1 <<< (x7 &&& 31)) 0 M else fX1_keyOf_37 k14 x1 x4 x5 x6 x7 (1 <<< (x7 &&& 31)) 1 M
def fX1_keyOf (a0 : Int32) (a1 : Int32) (a2 : Int32) (a3 : Int32) (M : am_M) : Option (Int32 × am_M) := am_loop (fX1_keyOf_14) 100000 (a1, 0, a2, a3, a0 - 1, M)
set_option maxRecDepth 100000 in
set_option maxHeartbeats 4000000 in
theorem sX1_keyOf_81 (G : am_G) (k14 : (Int32 × Int32 × Int32 × Int32 × Int32 × am_M) → Option (Int32 × am_M)) (hk14 : ∀ q : (Int32 × Int32 × Int32 × Int32 × Int32 × am_M), (match q with | (x1, x4, x5, x6, x7, M) => True) → match q with | (x1, x4, x5, x6, x7, M) => am_S am_ei G 1 yX1_keyOf.cls yX1_keyOf.name cX1_keyOf 14 (some FieldType.int) 14 [(1, .int x1), (4, .int x4), (5, .int x5), (6, .int x6), (7, .int x7)] [] M (k14 (x1, x4, x5, x6, x7, M))) (x1 : Int32) (x4 : Int32) (x5 : Int32) (x6 : Int32) (x7 : Int32) (x8 : Int32) (x9 : Int32) (x10 : Int32) (s0 : Int32) (M : am_M) : am_S am_ei G 1 yX1_keyOf.cls yX1_keyOf.name cX1_keyOf 14 (some FieldType.int) 81 [(1, .int x1), (4, .int x4), (5, .int x5), (6, .int x6), (7, .int x7), (8, .int x8), (9, .int x9), (10, .int x10)] [.int s0] M (fX1_keyOf_81 k14 x1 x4 x5 x6 x7 x8 x9 x10 s0 M) := by
  show am_S am_ei G 1 yX1_keyOf.cls yX1_keyOf.name cX1_keyOf 14 (some FieldType.int) 81 [(1, .int x1), (4, .int x4), (5, .int x5), (6, .int x6), (7, .int x7), (8, .int x8), (9, .int x9), (10, .int x10)] [.int s0] M ((fX1_turnedX x1 s0 x8 (x5 - (x9 * x8)) (x6 - (x10 * x8)) M).bind fun p11 => (fX1_turnedX x1 s0 x8 (x6 - (x10 * x8)) (x5 - (x9 * x8)) p11.2).bind fun p17 => k14 (x1, (4 * x4) + s0, p11.1, p17.1, x7 + (-1), p17.2))
  refine am_istore (L' := [(11, .int s0), (1, .int x1), (4, .int x4), (5, .int x5), (6, .int x6), (7, .int x7), (8, .int x8), (9, .int x9), (10, .int x10)]) dX1_keyOf_81 (by decide) rfl ?_
  refine am_iconst dX1_keyOf_83 am_kc_4 ?_
  refine am_iload 2 dX1_keyOf_84 rfl ?_
  refine am_imul dX1_keyOf_86 ?_
  refine am_iload 0 dX1_keyOf_87 rfl ?_
  refine am_iadd dX1_keyOf_89 ?_
  refine am_istore (L' := [(4, .int ((4 * x4) + s0)), (11, .int s0), (1, .int x1), (5, .int x5), (6, .int x6), (7, .int x7), (8, .int x8), (9, .int x9), (10, .int x10)]) dX1_keyOf_90 (by decide) rfl ?_
  refine am_iload 3 dX1_keyOf_92 rfl ?_
  refine am_iload 7 dX1_keyOf_94 rfl ?_
  refine am_iload 6 dX1_keyOf_96 rfl ?_
  refine am_imul dX1_keyOf_98 ?_
  refine am_isub dX1_keyOf_99 ?_
  refine am_istore (L' := [(12, .int (x5 - (x9 * x8))), (4, .int ((4 * x4) + s0)), (11, .int s0), (1, .int x1), (5, .int x5), (6, .int x6), (7, .int x7), (8, .int x8), (9, .int x9), (10, .int x10)]) dX1_keyOf_100 (by decide) rfl ?_
  refine am_iload 5 dX1_keyOf_102 rfl ?_
  refine am_iload 9 dX1_keyOf_104 rfl ?_
  refine am_iload 7 dX1_keyOf_106 rfl ?_
  refine am_imul dX1_keyOf_108 ?_
  refine am_isub dX1_keyOf_109 ?_
  refine am_istore (L' := [(13, .int (x6 - (x10 * x8))), (12, .int (x5 - (x9 * x8))), (4, .int ((4 * x4) + s0)), (11, .int s0), (1, .int x1), (5, .int x5), (6, .int x6), (7, .int x7), (8, .int x8), (9, .int x9), (10, .int x10)]) dX1_keyOf_110 (by decide) rfl ?_
  refine am_iload_n 4 dX1_keyOf_112 rfl rfl ?_
  refine am_iload 3 dX1_keyOf_113 rfl ?_
  refine am_iload 8 dX1_keyOf_115 rfl ?_
  refine am_iload 1 dX1_keyOf_117 rfl ?_
  refine am_iload 0 dX1_keyOf_119 rfl ?_
  refine am_callSi [.int x1, .int s0, .int x8, .int (x5 - (x9 * x8)), .int (x6 - (x10 * x8))] (CX1_turnedX G x1 s0 x8 (x5 - (x9 * x8)) (x6 - (x10 * x8)) M) dX1_keyOf_121 mb_yX1_turnedX ⟨ml_RX1_9, sm_yX1_turnedX⟩ (by decide) rfl rfl (Nat.le_of_ble_eq_true rfl) (fun v10 M7 q6 w9 l8 => ?_)
  refine am_istore (L' := [(5, .int v10), (13, .int (x6 - (x10 * x8))), (12, .int (x5 - (x9 * x8))), (4, .int ((4 * x4) + s0)), (11, .int s0), (1, .int x1), (6, .int x6), (7, .int x7), (8, .int x8), (9, .int x9), (10, .int x10)]) dX1_keyOf_124 (by decide) rfl ?_
  refine am_iload_n 5 dX1_keyOf_126 rfl rfl ?_
  refine am_iload 4 dX1_keyOf_127 rfl ?_
  refine am_iload 8 dX1_keyOf_129 rfl ?_
  refine am_iload 1 dX1_keyOf_131 rfl ?_
  refine am_iload 2 dX1_keyOf_133 rfl ?_
  refine am_callSi [.int x1, .int s0, .int x8, .int (x6 - (x10 * x8)), .int (x5 - (x9 * x8))] (CX1_turnedX G x1 s0 x8 (x6 - (x10 * x8)) (x5 - (x9 * x8)) M7) dX1_keyOf_135 mb_yX1_turnedX ⟨ml_RX1_9, sm_yX1_turnedX⟩ (by decide) rfl rfl (Nat.le_of_ble_eq_true rfl) (fun v16 M13 q12 w15 l14 => ?_)
  refine am_istore (L' := [(6, .int v16), (5, .int v10), (13, .int (x6 - (x10 * x8))), (12, .int (x5 - (x9 * x8))), (4, .int ((4 * x4) + s0)), (11, .int s0), (1, .int x1), (7, .int x7), (8, .int x8), (9, .int x9), (10, .int x10)]) dX1_keyOf_138 (by decide) rfl ?_
  refine am_iinc (L' := [(7, .int (x7 + (-1))), (6, .int v16), (5, .int v10), (13, .int (x6 - (x10 * x8))), (12, .int (x5 - (x9 * x8))), (4, .int ((4 * x4) + s0)), (11, .int s0), (1, .int x1), (8, .int x8), (9, .int x9), (10, .int x10)]) 7 dX1_keyOf_140 rfl (by rfl) (by decide) rfl ?_
  refine am_goto (tgt := 14) dX1_keyOf_143 (by decide) ?_
  refine am_sub [7, 5, 2, 1, 0] rfl ?_
  exact hk14 (x1, (4 * x4) + s0, v10, v16, x7 + (-1), M13) trivial
set_option maxRecDepth 100000 in
set_option maxHeartbeats 4000000 in
theorem sX1_keyOf_51 (G : am_G) (k14 : (Int32 × Int32 × Int32 × Int32 × Int32 × am_M) → Option (Int32 × am_M)) (hk14 : ∀ q : (Int32 × Int32 × Int32 × Int32 × Int32 × am_M), (match q with | (x1, x4, x5, x6, x7, M) => True) → match q with | (x1, x4, x5, x6, x7, M) => am_S am_ei G 1 yX1_keyOf.cls yX1_keyOf.name cX1_keyOf 14 (some FieldType.int) 14 [(1, .int x1), (4, .int x4), (5, .int x5), (6, .int x6), (7, .int x7)] [] M (k14 (x1, x4, x5, x6, x7, M))) (x1 : Int32) (x4 : Int32) (x5 : Int32) (x6 : Int32) (x7 : Int32) (x8 : Int32) (x9 : Int32) (s0 : Int32) (M : am_M) : am_S am_ei G 1 yX1_keyOf.cls yX1_keyOf.name cX1_keyOf 14 (some FieldType.int) 51 [(1, .int x1), (4, .int x4), (5, .int x5), (6, .int x6), (7, .int x7), (8, .int x8), (9, .int x9)] [.int s0] M (fX1_keyOf_51 k14 x1 x4 x5 x6 x7 x8 x9 s0 M) := by
  show am_S am_ei G 1 yX1_keyOf.cls yX1_keyOf.name cX1_keyOf 14 (some FieldType.int) 51 [(1, .int x1), (4, .int x4), (5, .int x5), (6, .int x6), (7, .int x7), (8, .int x8), (9, .int x9)] [.int s0] M (if x1 = 0 then fX1_keyOf_81 k14 x1 x4 x5 x6 x7 x8 x9 s0 (x9 + (2 * s0)) M else if x9 = 0 then fX1_keyOf_81 k14 x1 x4 x5 x6 x7 x8 x9 s0 s0 M else fX1_keyOf_81 k14 x1 x4 x5 x6 x7 x8 x9 s0 (3 - s0) M)
  refine am_istore (L' := [(10, .int s0), (1, .int x1), (4, .int x4), (5, .int x5), (6, .int x6), (7, .int x7), (8, .int x8), (9, .int x9)]) dX1_keyOf_51 (by decide) rfl ?_
  refine am_iload_n 1 dX1_keyOf_53 rfl rfl ?_
  refine am_if_ne (tgt := 67) dX1_keyOf_54 (by decide) (fun c4 => ?_) (fun c4 => ?_)
  · refine am_iload 7 dX1_keyOf_67 rfl ?_
    refine am_if_ne (tgt := 77) dX1_keyOf_69 (by decide) (fun c5 => ?_) (fun c5 => ?_)
    · refine am_iconst dX1_keyOf_77 am_kc_3 ?_
      refine am_iload 0 dX1_keyOf_78 rfl ?_
      refine am_isub dX1_keyOf_80 ?_
      refine am_sub [1, 2, 3, 4, 5, 6, 7, 0] rfl ?_
      exact sX1_keyOf_81 G k14 hk14 x1 x4 x5 x6 x7 x8 x9 s0 (3 - s0) M
    · refine am_iload 0 dX1_keyOf_72 rfl ?_
      refine am_goto (tgt := 81) dX1_keyOf_74 (by decide) ?_
      refine am_sub [1, 2, 3, 4, 5, 6, 7, 0] rfl ?_
      exact sX1_keyOf_81 G k14 hk14 x1 x4 x5 x6 x7 x8 x9 s0 s0 M
  · refine am_iload 7 dX1_keyOf_57 rfl ?_
    refine am_iconst dX1_keyOf_59 am_kc_2 ?_
    refine am_iload 0 dX1_keyOf_60 rfl ?_
    refine am_imul dX1_keyOf_62 ?_
    refine am_iadd dX1_keyOf_63 ?_
    refine am_goto (tgt := 81) dX1_keyOf_64 (by decide) ?_
    refine am_sub [1, 2, 3, 4, 5, 6, 7, 0] rfl ?_
    exact sX1_keyOf_81 G k14 hk14 x1 x4 x5 x6 x7 x8 x9 s0 (x9 + (2 * s0)) M
set_option maxRecDepth 100000 in
set_option maxHeartbeats 4000000 in
theorem sX1_keyOf_37 (G : am_G) (k14 : (Int32 × Int32 × Int32 × Int32 × Int32 × am_M) → Option (Int32 × am_M)) (hk14 : ∀ q : (Int32 × Int32 × Int32 × Int32 × Int32 × am_M), (match q with | (x1, x4, x5, x6, x7, M) => True) → match q with | (x1, x4, x5, x6, x7, M) => am_S am_ei G 1 yX1_keyOf.cls yX1_keyOf.name cX1_keyOf 14 (some FieldType.int) 14 [(1, .int x1), (4, .int x4), (5, .int x5), (6, .int x6), (7, .int x7)] [] M (k14 (x1, x4, x5, x6, x7, M))) (x1 : Int32) (x4 : Int32) (x5 : Int32) (x6 : Int32) (x7 : Int32) (x8 : Int32) (s0 : Int32) (M : am_M) : am_S am_ei G 1 yX1_keyOf.cls yX1_keyOf.name cX1_keyOf 14 (some FieldType.int) 37 [(1, .int x1), (4, .int x4), (5, .int x5), (6, .int x6), (7, .int x7), (8, .int x8)] [.int s0] M (fX1_keyOf_37 k14 x1 x4 x5 x6 x7 x8 s0 M) := by
  show am_S am_ei G 1 yX1_keyOf.cls yX1_keyOf.name cX1_keyOf 14 (some FieldType.int) 37 [(1, .int x1), (4, .int x4), (5, .int x5), (6, .int x6), (7, .int x7), (8, .int x8)] [.int s0] M (if x6 < x8 then fX1_keyOf_51 k14 x1 x4 x5 x6 x7 x8 s0 0 M else fX1_keyOf_51 k14 x1 x4 x5 x6 x7 x8 s0 1 M)
  refine am_istore (L' := [(9, .int s0), (1, .int x1), (4, .int x4), (5, .int x5), (6, .int x6), (7, .int x7), (8, .int x8)]) dX1_keyOf_37 (by decide) rfl ?_
  refine am_iload 4 dX1_keyOf_39 rfl ?_
  refine am_iload 6 dX1_keyOf_41 rfl ?_
  refine am_icmp_lt (tgt := 50) dX1_keyOf_43 (by decide) (fun c3 => ?_) (fun c3 => ?_)
  · refine am_iconst dX1_keyOf_50 am_kc_0 ?_
    refine am_sub [1, 2, 3, 4, 5, 6, 0] rfl ?_
    exact sX1_keyOf_51 G k14 hk14 x1 x4 x5 x6 x7 x8 s0 0 M
  · refine am_iconst dX1_keyOf_46 am_kc_1 ?_
    refine am_goto (tgt := 51) dX1_keyOf_47 (by decide) ?_
    refine am_sub [1, 2, 3, 4, 5, 6, 0] rfl ?_
    exact sX1_keyOf_51 G k14 hk14 x1 x4 x5 x6 x7 x8 s0 1 M
set_option maxRecDepth 100000 in
set_option maxHeartbeats 4000000 in
theorem sX1_keyOf_14 (G : am_G) (k14 : (Int32 × Int32 × Int32 × Int32 × Int32 × am_M) → Option (Int32 × am_M)) (hk14 : ∀ q : (Int32 × Int32 × Int32 × Int32 × Int32 × am_M), (match q with | (x1, x4, x5, x6, x7, M) => True) → match q with | (x1, x4, x5, x6, x7, M) => am_S am_ei G 1 yX1_keyOf.cls yX1_keyOf.name cX1_keyOf 14 (some FieldType.int) 14 [(1, .int x1), (4, .int x4), (5, .int x5), (6, .int x6), (7, .int x7)] [] M (k14 (x1, x4, x5, x6, x7, M))) (x1 : Int32) (x4 : Int32) (x5 : Int32) (x6 : Int32) (x7 : Int32) (M : am_M) : am_S am_ei G 1 yX1_keyOf.cls yX1_keyOf.name cX1_keyOf 14 (some FieldType.int) 14 [(1, .int x1), (4, .int x4), (5, .int x5), (6, .int x6), (7, .int x7)] [] M (fX1_keyOf_14 k14 (x1, x4, x5, x6, x7, M)) := by
  show am_S am_ei G 1 yX1_keyOf.cls yX1_keyOf.name cX1_keyOf 14 (some FieldType.int) 14 [(1, .int x1), (4, .int x4), (5, .int x5), (6, .int x6), (7, .int x7)] [] M (if x7 < 0 then some (x4, M) else if x5 < 1 <<< (x7 &&& 31) then fX1_keyOf_37 k14 x1 x4 x5 x6 x7 (1 <<< (x7 &&& 31)) 0 M else fX1_keyOf_37 k14 x1 x4 x5 x6 x7 (1 <<< (x7 &&& 31)) 1 M)
  refine am_iload 4 dX1_keyOf_14 rfl ?_
  refine am_if_lt (tgt := 146) dX1_keyOf_16 (by decide) (fun c1 => ?_) (fun c1 => ?_)
  · refine am_iload 1 dX1_keyOf_146 rfl ?_
    exact am_iret dX1_keyOf_148
  · refine am_iconst dX1_keyOf_19 am_kc_1 ?_
    refine am_iload 4 dX1_keyOf_20 rfl ?_
    refine am_ishl dX1_keyOf_22 ?_
    refine am_istore (L' := [(8, .int (1 <<< (x7 &&& 31))), (1, .int x1), (4, .int x4), (5, .int x5), (6, .int x6), (7, .int x7)]) dX1_keyOf_23 (by decide) rfl ?_
    refine am_iload 3 dX1_keyOf_25 rfl ?_
    refine am_iload 0 dX1_keyOf_27 rfl ?_
    refine am_icmp_lt (tgt := 36) dX1_keyOf_29 (by decide) (fun c2 => ?_) (fun c2 => ?_)
    · refine am_iconst dX1_keyOf_36 am_kc_0 ?_
      refine am_sub [1, 2, 3, 4, 5, 0] rfl ?_
      exact sX1_keyOf_37 G k14 hk14 x1 x4 x5 x6 x7 (1 <<< (x7 &&& 31)) 0 M
    · refine am_iconst dX1_keyOf_32 am_kc_1 ?_
      refine am_goto (tgt := 37) dX1_keyOf_33 (by decide) ?_
      refine am_sub [1, 2, 3, 4, 5, 0] rfl ?_
      exact sX1_keyOf_37 G k14 hk14 x1 x4 x5 x6 x7 (1 <<< (x7 &&& 31)) 1 M
set_option maxRecDepth 100000 in
set_option maxHeartbeats 4000000 in
theorem lX1_keyOf_14 (G : am_G) (n : Nat) (q : (Int32 × Int32 × Int32 × Int32 × Int32 × am_M)) (hq : match q with | (x1, x4, x5, x6, x7, M) => True) : match q with | (x1, x4, x5, x6, x7, M) => am_S am_ei G 1 yX1_keyOf.cls yX1_keyOf.name cX1_keyOf 14 (some FieldType.int) 14 [(1, .int x1), (4, .int x4), (5, .int x5), (6, .int x6), (7, .int x7)] [] M (am_loop (fX1_keyOf_14) n (x1, x4, x5, x6, x7, M)) := by
  exact am_loop_ok (fun q : (Int32 × Int32 × Int32 × Int32 × Int32 × am_M) => match q with | (x1, x4, x5, x6, x7, M) => True) (fun q X => match q with | (x1, x4, x5, x6, x7, M) => am_S am_ei G 1 yX1_keyOf.cls yX1_keyOf.name cX1_keyOf 14 (some FieldType.int) 14 [(1, .int x1), (4, .int x4), (5, .int x5), (6, .int x6), (7, .int x7)] [] M X) (fun _ => am_none) (fun k14 hk14 q hq => match q, hq with | (x1, x4, x5, x6, x7, M), _ => sX1_keyOf_14 G k14 hk14 x1 x4 x5 x6 x7 M) n q hq
set_option maxRecDepth 100000 in
set_option maxHeartbeats 4000000 in
theorem sX1_keyOf_0 (G : am_G) (a0 : Int32) (a1 : Int32) (a2 : Int32) (a3 : Int32) (M : am_M) : am_S am_ei G 1 yX1_keyOf.cls yX1_keyOf.name cX1_keyOf 14 (some FieldType.int) 0 [(0, .int a0), (1, .int a1), (2, .int a2), (3, .int a3)] [] M (fX1_keyOf a0 a1 a2 a3 M) := by
  show am_S am_ei G 1 yX1_keyOf.cls yX1_keyOf.name cX1_keyOf 14 (some FieldType.int) 0 [(0, .int a0), (1, .int a1), (2, .int a2), (3, .int a3)] [] M (am_loop (fX1_keyOf_14) 100000 (a1, 0, a2, a3, a0 - 1, M))
  refine am_iconst dX1_keyOf_0 am_kc_0 ?_
  refine am_istore (L' := [(4, .int 0), (0, .int a0), (1, .int a1), (2, .int a2), (3, .int a3)]) dX1_keyOf_1 (by decide) rfl ?_
  refine am_iload_n 3 dX1_keyOf_3 rfl rfl ?_
  refine am_istore (L' := [(5, .int a2), (4, .int 0), (0, .int a0), (1, .int a1), (2, .int a2), (3, .int a3)]) dX1_keyOf_4 (by decide) rfl ?_
  refine am_iload_n 5 dX1_keyOf_6 rfl rfl ?_
  refine am_istore (L' := [(6, .int a3), (5, .int a2), (4, .int 0), (0, .int a0), (1, .int a1), (2, .int a2), (3, .int a3)]) dX1_keyOf_7 (by decide) rfl ?_
  refine am_iload_n 3 dX1_keyOf_9 rfl rfl ?_
  refine am_iconst dX1_keyOf_10 am_kc_1 ?_
  refine am_isub dX1_keyOf_11 ?_
  refine am_istore (L' := [(7, .int (a0 - 1)), (6, .int a3), (5, .int a2), (4, .int 0), (0, .int a0), (1, .int a1), (2, .int a2), (3, .int a3)]) dX1_keyOf_12 (by decide) rfl ?_
  refine am_sub [5, 3, 2, 1, 0] rfl ?_
  exact lX1_keyOf_14 G 100000 (a1, 0, a2, a3, a0 - 1, M) trivial
theorem CX1_keyOf (G : am_G) (a0 : Int32) (a1 : Int32) (a2 : Int32) (a3 : Int32) (M : am_M) : am_C am_ei G 1 yX1_keyOf cX1_keyOf 14 (some FieldType.int) [.int a0, .int a1, .int a2, .int a3] M (fX1_keyOf a0 a1 a2 a3 M) :=
  am_meth (by decide) rfl (Nat.le_of_ble_eq_true rfl) (sX1_keyOf_0 G a0 a1 a2 a3 M)
def fX3_has (a0 : Nat) (a1 : Int32) (M : am_M) : Option (Int32 × am_M) := if a1 < 0 then some (0, M) else if (4096 : Int32) ≤ a1 then some (0, M) else (M.2.2.1 a0 0).bind fun r3 => if a1 / 64 < 0 ∨ am_len M r3 ≤ (a1 / 64).toNatClampNeg then none else if lg_cmp ((((M.2.1 r3 ((a1 / 64).toNatClampNeg)).toUInt64 >>> ((a1 - a1 / 64 * 64).toInt64.toUInt64 &&& Int64.toUInt64 63)).toInt64) &&& 1) 0 = 0 then some (0, M) else some (1, M)
set_option maxRecDepth 100000 in
set_option maxHeartbeats 4000000 in
theorem sX3_has_0 (G : am_G) (a0 : Nat) (a1 : Int32) (M : am_M) (h_a0 : am_sh M a0 7) : am_S am_ei G 0 yX3_has.cls yX3_has.name cX3_has 2 (some FieldType.boolean) 0 [(0, .ref a0), (1, .int a1)] [] M (fX3_has a0 a1 M) := by
  show am_S am_ei G 0 yX3_has.cls yX3_has.name cX3_has 2 (some FieldType.boolean) 0 [(0, .ref a0), (1, .int a1)] [] M (if a1 < 0 then some (0, M) else if (4096 : Int32) ≤ a1 then some (0, M) else (M.2.2.1 a0 0).bind fun r3 => if a1 / 64 < 0 ∨ am_len M r3 ≤ (a1 / 64).toNatClampNeg then none else if lg_cmp ((((M.2.1 r3 ((a1 / 64).toNatClampNeg)).toUInt64 >>> ((a1 - a1 / 64 * 64).toInt64.toUInt64 &&& Int64.toUInt64 63)).toInt64) &&& 1) 0 = 0 then some (0, M) else some (1, M))
  refine am_iload_n 1 dX3_has_0 rfl rfl ?_
  refine am_if_lt (tgt := 36) dX3_has_1 (by decide) (fun c1 => ?_) (fun c1 => ?_)
  · refine am_iconst dX3_has_36 am_kc_0 ?_
    exact am_zret0 dX3_has_37
  · refine am_iload_n 1 dX3_has_4 rfl rfl ?_
    refine am_sipush (x := 4096) dX3_has_5 (by decide) ?_
    refine am_icmp_ge (tgt := 36) dX3_has_8 (by decide) (fun c2 => ?_) (fun c2 => ?_)
    · refine am_iconst dX3_has_36 am_kc_0 ?_
      exact am_zret0 dX3_has_37
    · refine am_aload_n 0 dX3_has_11 rfl rfl ?_
      refine am_getR 2 dX3_has_12 fl_RX3_9 h_a0 rfl (fun r3 e4 h5 => ?_)
      refine am_iload_n 1 dX3_has_15 rfl rfl ?_
      refine am_bipush (x := 64) dX3_has_16 (by decide) ?_
      refine am_idivk dX3_has_18 (by decide) ?_
      refine am_lald dX3_has_19 h5 (fun b6 => ?_)
      refine am_iload_n 1 dX3_has_20 rfl rfl ?_
      refine am_bipush (x := 64) dX3_has_21 (by decide) ?_
      refine am_iremk dX3_has_23 (by decide) ?_
      refine am_lushr dX3_has_24 ?_
      refine am_lconst (x := 1) dX3_has_25 rfl ?_
      refine am_land dX3_has_26 ?_
      refine am_lconst (x := 0) dX3_has_27 rfl ?_
      refine am_lcmp dX3_has_28 ?_
      refine am_if_eq (tgt := 36) dX3_has_29 (by decide) (fun c7 => ?_) (fun c7 => ?_)
      · refine am_iconst dX3_has_36 am_kc_0 ?_
        exact am_zret0 dX3_has_37
      · refine am_iconst dX3_has_32 am_kc_1 ?_
        refine am_goto (tgt := 37) dX3_has_33 (by decide) ?_
        exact am_zret1 dX3_has_37
theorem CX3_has (G : am_G) (a0 : Nat) (a1 : Int32) (M : am_M) (h_a0 : am_sh M a0 7) : am_C am_ei G 0 yX3_has cX3_has 2 (some FieldType.boolean) [.ref a0, .int a1] M (fX3_has a0 a1 M) :=
  am_meth (by decide) rfl (Nat.le_of_ble_eq_true rfl) (sX3_has_0 G a0 a1 M h_a0)
def fX2_filledBy_83 (k51 : (Nat × Int32 × Int32 × Int32 × Int32 × am_M) → Option (Int32 × am_M)) (x0 : Nat) (x1 : Int32) (x3 : Int32) (x4 : Int32) (x5 : Int32) (M : am_M) : Option (Int32 × am_M) := k51 (x0, x1, x3, x4, x5 + 1, M)
def fX2_filledBy_51 : ((Nat × Int32 × Int32 × Int32 × Int32 × am_M) → Option (Int32 × am_M)) → (Nat × Int32 × Int32 × Int32 × Int32 × am_M) → Option (Int32 × am_M) := fun k51 q0 => match q0 with
  | (x0, x1, x3, x4, x5, M) => if M.1 x0 1 ≤ x5 then if x4 = (-4) then some (x3, M) else (M.2.2.1 x0 0).bind fun r4 => if x4 < 0 ∨ am_len M r4 ≤ x4.toNatClampNeg then none else some (x3, am_pI M r4 x4.toNatClampNeg x1) else (M.2.2.1 x0 0).bind fun r8 => if x5 < 0 ∨ am_len M r8 ≤ x5.toNatClampNeg then none else if x3 ≤ M.1 r8 (x5.toNatClampNeg) then fX2_filledBy_83 k51 x0 x1 x3 x4 x5 M else (M.2.2.1 x0 0).bind fun r13 => if x5 < 0 ∨ am_len M r13 ≤ x5.toNatClampNeg then none else fX2_filledBy_83 k51 x0 x1 (M.1 r13 (x5.toNatClampNeg)) x5 x5 M
def fX2_filledBy_42 (x0 : Nat) (x1 : Int32) (M : am_M) : Option (Int32 × am_M) := am_loop (fX2_filledBy_51) 100000 (x0, x1, x1, (-4), 0, M)
def fX2_filledBy (a0 : Nat) (a1 : Int32) (a2 : Int32) (M : am_M) : Option (Int32 × am_M) := if a2 ≤ M.1 a0 1 then fX2_filledBy_42 a0 a1 M else (M.2.2.1 a0 0).bind fun r17 => if Int32.ofNat (am_len M r17) ≤ M.1 a0 1 then fX2_filledBy_42 a0 a1 M else (M.2.2.1 a0 0).bind fun r21 => if M.1 a0 1 < 0 ∨ am_len M r21 ≤ (M.1 a0 1).toNatClampNeg then none else some (0, am_pI (am_pI M r21 (M.1 a0 1).toNatClampNeg a1) a0 1 (((am_pI M r21 (M.1 a0 1).toNatClampNeg a1).1 a0 1) + 1))
set_option maxRecDepth 100000 in
set_option maxHeartbeats 4000000 in
theorem sX2_filledBy_83 (G : am_G) (k51 : (Nat × Int32 × Int32 × Int32 × Int32 × am_M) → Option (Int32 × am_M)) (hk51 : ∀ q : (Nat × Int32 × Int32 × Int32 × Int32 × am_M), (match q with | (x0, x1, x3, x4, x5, M) => am_sh M x0 6) → match q with | (x0, x1, x3, x4, x5, M) => am_S am_ei G 0 yX2_filledBy.cls yX2_filledBy.name cX2_filledBy 6 (some FieldType.int) 51 [(0, .ref x0), (1, .int x1), (3, .int x3), (4, .int x4), (5, .int x5)] [] M (k51 (x0, x1, x3, x4, x5, M))) (x0 : Nat) (x1 : Int32) (x3 : Int32) (x4 : Int32) (x5 : Int32) (M : am_M) (h_x0 : am_sh M x0 6) : am_S am_ei G 0 yX2_filledBy.cls yX2_filledBy.name cX2_filledBy 6 (some FieldType.int) 83 [(0, .ref x0), (1, .int x1), (3, .int x3), (4, .int x4), (5, .int x5)] [] M (fX2_filledBy_83 k51 x0 x1 x3 x4 x5 M) := by
  show am_S am_ei G 0 yX2_filledBy.cls yX2_filledBy.name cX2_filledBy 6 (some FieldType.int) 83 [(0, .ref x0), (1, .int x1), (3, .int x3), (4, .int x4), (5, .int x5)] [] M (k51 (x0, x1, x3, x4, x5 + 1, M))
  refine am_iinc (L' := [(5, .int (x5 + 1)), (0, .ref x0), (1, .int x1), (3, .int x3), (4, .int x4)]) 4 dX2_filledBy_83 rfl (by rfl) (by decide) rfl ?_
  refine am_goto (tgt := 51) dX2_filledBy_86 (by decide) ?_
  refine am_sub [1, 2, 3, 4, 0] rfl ?_
  exact hk51 (x0, x1, x3, x4, x5 + 1, M) h_x0
set_option maxRecDepth 100000 in
set_option maxHeartbeats 4000000 in
theorem sX2_filledBy_51 (G : am_G) (k51 : (Nat × Int32 × Int32 × Int32 × Int32 × am_M) → Option (Int32 × am_M)) (hk51 : ∀ q : (Nat × Int32 × Int32 × Int32 × Int32 × am_M), (match q with | (x0, x1, x3, x4, x5, M) => am_sh M x0 6) → match q with | (x0, x1, x3, x4, x5, M) => am_S am_ei G 0 yX2_filledBy.cls yX2_filledBy.name cX2_filledBy 6 (some FieldType.int) 51 [(0, .ref x0), (1, .int x1), (3, .int x3), (4, .int x4), (5, .int x5)] [] M (k51 (x0, x1, x3, x4, x5, M))) (x0 : Nat) (x1 : Int32) (x3 : Int32) (x4 : Int32) (x5 : Int32) (M : am_M) (h_x0 : am_sh M x0 6) : am_S am_ei G 0 yX2_filledBy.cls yX2_filledBy.name cX2_filledBy 6 (some FieldType.int) 51 [(0, .ref x0), (1, .int x1), (3, .int x3), (4, .int x4), (5, .int x5)] [] M (fX2_filledBy_51 k51 (x0, x1, x3, x4, x5, M)) := by
  show am_S am_ei G 0 yX2_filledBy.cls yX2_filledBy.name cX2_filledBy 6 (some FieldType.int) 51 [(0, .ref x0), (1, .int x1), (3, .int x3), (4, .int x4), (5, .int x5)] [] M (if M.1 x0 1 ≤ x5 then if x4 = (-4) then some (x3, M) else (M.2.2.1 x0 0).bind fun r4 => if x4 < 0 ∨ am_len M r4 ≤ x4.toNatClampNeg then none else some (x3, am_pI M r4 x4.toNatClampNeg x1) else (M.2.2.1 x0 0).bind fun r8 => if x5 < 0 ∨ am_len M r8 ≤ x5.toNatClampNeg then none else if x3 ≤ M.1 r8 (x5.toNatClampNeg) then fX2_filledBy_83 k51 x0 x1 x3 x4 x5 M else (M.2.2.1 x0 0).bind fun r13 => if x5 < 0 ∨ am_len M r13 ≤ x5.toNatClampNeg then none else fX2_filledBy_83 k51 x0 x1 (M.1 r13 (x5.toNatClampNeg)) x5 x5 M)
  refine am_iload 4 dX2_filledBy_51 rfl ?_
  refine am_aload_n 0 dX2_filledBy_53 rfl rfl ?_
  refine am_getI 1 dX2_filledBy_54 fl_RX2_15 h_x0 rfl ?_
  refine am_icmp_ge (tgt := 89) dX2_filledBy_57 (by decide) (fun c2 => ?_) (fun c2 => ?_)
  · refine am_iload 3 dX2_filledBy_89 rfl ?_
    refine am_bipush (x := -4) dX2_filledBy_91 (by decide) ?_
    refine am_icmp_eq (tgt := 104) dX2_filledBy_93 (by decide) (fun c3 => ?_) (fun c3 => ?_)
    · refine am_iload_n 2 dX2_filledBy_104 rfl rfl ?_
      exact am_iret dX2_filledBy_105
    · refine am_aload_n 0 dX2_filledBy_96 rfl rfl ?_
      refine am_getR 1 dX2_filledBy_97 fl_RX2_9 h_x0 rfl (fun r4 e5 h6 => ?_)
      refine am_iload 3 dX2_filledBy_100 rfl ?_
      refine am_iload_n 1 dX2_filledBy_102 rfl rfl ?_
      refine am_iast dX2_filledBy_103 h6 (fun b7 => ?_)
      refine am_iload_n 2 dX2_filledBy_104 rfl rfl ?_
      exact am_iret dX2_filledBy_105
  · refine am_aload_n 0 dX2_filledBy_60 rfl rfl ?_
    refine am_getR 1 dX2_filledBy_61 fl_RX2_9 h_x0 rfl (fun r8 e9 h10 => ?_)
    refine am_iload 4 dX2_filledBy_64 rfl ?_
    refine am_iald dX2_filledBy_66 h10 (fun b11 => ?_)
    refine am_iload_n 2 dX2_filledBy_67 rfl rfl ?_
    refine am_icmp_ge (tgt := 83) dX2_filledBy_68 (by decide) (fun c12 => ?_) (fun c12 => ?_)
    · exact sX2_filledBy_83 G k51 hk51 x0 x1 x3 x4 x5 M h_x0
    · refine am_aload_n 0 dX2_filledBy_71 rfl rfl ?_
      refine am_getR 1 dX2_filledBy_72 fl_RX2_9 h_x0 rfl (fun r13 e14 h15 => ?_)
      refine am_iload 4 dX2_filledBy_75 rfl ?_
      refine am_iald dX2_filledBy_77 h15 (fun b16 => ?_)
      refine am_istore_n (L' := [(3, .int (M.1 r13 (x5.toNatClampNeg))), (0, .ref x0), (1, .int x1), (4, .int x4), (5, .int x5)]) dX2_filledBy_78 rfl (by decide) rfl ?_
      refine am_iload 4 dX2_filledBy_79 rfl ?_
      refine am_istore (L' := [(4, .int x5), (3, .int (M.1 r13 (x5.toNatClampNeg))), (0, .ref x0), (1, .int x1), (5, .int x5)]) dX2_filledBy_81 (by decide) rfl ?_
      refine am_sub [2, 3, 1, 0, 4] rfl ?_
      exact sX2_filledBy_83 G k51 hk51 x0 x1 (M.1 r13 (x5.toNatClampNeg)) x5 x5 M h_x0
set_option maxRecDepth 100000 in
set_option maxHeartbeats 4000000 in
theorem lX2_filledBy_51 (G : am_G) (n : Nat) (q : (Nat × Int32 × Int32 × Int32 × Int32 × am_M)) (hq : match q with | (x0, x1, x3, x4, x5, M) => am_sh M x0 6) : match q with | (x0, x1, x3, x4, x5, M) => am_S am_ei G 0 yX2_filledBy.cls yX2_filledBy.name cX2_filledBy 6 (some FieldType.int) 51 [(0, .ref x0), (1, .int x1), (3, .int x3), (4, .int x4), (5, .int x5)] [] M (am_loop (fX2_filledBy_51) n (x0, x1, x3, x4, x5, M)) := by
  exact am_loop_ok (fun q : (Nat × Int32 × Int32 × Int32 × Int32 × am_M) => match q with | (x0, x1, x3, x4, x5, M) => am_sh M x0 6) (fun q X => match q with | (x0, x1, x3, x4, x5, M) => am_S am_ei G 0 yX2_filledBy.cls yX2_filledBy.name cX2_filledBy 6 (some FieldType.int) 51 [(0, .ref x0), (1, .int x1), (3, .int x3), (4, .int x4), (5, .int x5)] [] M X) (fun _ => am_none) (fun k51 hk51 q hq => match q, hq with | (x0, x1, x3, x4, x5, M), h_x0 => sX2_filledBy_51 G k51 hk51 x0 x1 x3 x4 x5 M h_x0) n q hq
set_option maxRecDepth 100000 in
set_option maxHeartbeats 4000000 in
theorem sX2_filledBy_42 (G : am_G) (x0 : Nat) (x1 : Int32) (M : am_M) (h_x0 : am_sh M x0 6) : am_S am_ei G 0 yX2_filledBy.cls yX2_filledBy.name cX2_filledBy 6 (some FieldType.int) 42 [(0, .ref x0), (1, .int x1)] [] M (fX2_filledBy_42 x0 x1 M) := by
  show am_S am_ei G 0 yX2_filledBy.cls yX2_filledBy.name cX2_filledBy 6 (some FieldType.int) 42 [(0, .ref x0), (1, .int x1)] [] M (am_loop (fX2_filledBy_51) 100000 (x0, x1, x1, (-4), 0, M))
  refine am_iload_n 1 dX2_filledBy_42 rfl rfl ?_
  refine am_istore_n (L' := [(3, .int x1), (0, .ref x0), (1, .int x1)]) dX2_filledBy_43 rfl (by decide) rfl ?_
  refine am_bipush (x := -4) dX2_filledBy_44 (by decide) ?_
  refine am_istore (L' := [(4, .int (-4)), (3, .int x1), (0, .ref x0), (1, .int x1)]) dX2_filledBy_46 (by decide) rfl ?_
  refine am_iconst dX2_filledBy_48 am_kc_0 ?_
  refine am_istore (L' := [(5, .int 0), (4, .int (-4)), (3, .int x1), (0, .ref x0), (1, .int x1)]) dX2_filledBy_49 (by decide) rfl ?_
  refine am_sub [3, 4, 2, 1, 0] rfl ?_
  exact lX2_filledBy_51 G 100000 (x0, x1, x1, (-4), 0, M) h_x0
set_option maxRecDepth 100000 in
set_option maxHeartbeats 4000000 in
theorem sX2_filledBy_0 (G : am_G) (a0 : Nat) (a1 : Int32) (a2 : Int32) (M : am_M) (h_a0 : am_sh M a0 6) : am_S am_ei G 0 yX2_filledBy.cls yX2_filledBy.name cX2_filledBy 6 (some FieldType.int) 0 [(0, .ref a0), (1, .int a1), (2, .int a2)] [] M (fX2_filledBy a0 a1 a2 M) := by
  show am_S am_ei G 0 yX2_filledBy.cls yX2_filledBy.name cX2_filledBy 6 (some FieldType.int) 0 [(0, .ref a0), (1, .int a1), (2, .int a2)] [] M (if a2 ≤ M.1 a0 1 then fX2_filledBy_42 a0 a1 M else (M.2.2.1 a0 0).bind fun r17 => if Int32.ofNat (am_len M r17) ≤ M.1 a0 1 then fX2_filledBy_42 a0 a1 M else (M.2.2.1 a0 0).bind fun r21 => if M.1 a0 1 < 0 ∨ am_len M r21 ≤ (M.1 a0 1).toNatClampNeg then none else some (0, am_pI (am_pI M r21 (M.1 a0 1).toNatClampNeg a1) a0 1 (((am_pI M r21 (M.1 a0 1).toNatClampNeg a1).1 a0 1) + 1)))
  refine am_aload_n 0 dX2_filledBy_0 rfl rfl ?_
  refine am_getI 1 dX2_filledBy_1 fl_RX2_15 h_a0 rfl ?_
  refine am_iload_n 2 dX2_filledBy_4 rfl rfl ?_
  refine am_icmp_ge (tgt := 42) dX2_filledBy_5 (by decide) (fun c1 => ?_) (fun c1 => ?_)
  · refine am_sub [0, 1] rfl ?_
    exact sX2_filledBy_42 G a0 a1 M h_a0
  · refine am_aload_n 0 dX2_filledBy_8 rfl rfl ?_
    refine am_getI 1 dX2_filledBy_9 fl_RX2_15 h_a0 rfl ?_
    refine am_aload_n 0 dX2_filledBy_12 rfl rfl ?_
    refine am_getR 1 dX2_filledBy_13 fl_RX2_9 h_a0 rfl (fun r17 e18 h19 => ?_)
    refine am_alen dX2_filledBy_16 h19 (by decide) ?_
    refine am_icmp_ge (tgt := 42) dX2_filledBy_17 (by decide) (fun c20 => ?_) (fun c20 => ?_)
    · refine am_sub [0, 1] rfl ?_
      exact sX2_filledBy_42 G a0 a1 M h_a0
    · refine am_aload_n 0 dX2_filledBy_20 rfl rfl ?_
      refine am_getR 1 dX2_filledBy_21 fl_RX2_9 h_a0 rfl (fun r21 e22 h23 => ?_)
      refine am_aload_n 0 dX2_filledBy_24 rfl rfl ?_
      refine am_getI 1 dX2_filledBy_25 fl_RX2_15 h_a0 rfl ?_
      refine am_iload_n 1 dX2_filledBy_28 rfl rfl ?_
      refine am_iast dX2_filledBy_29 h23 (fun b24 => ?_)
      refine am_aload_n 0 dX2_filledBy_30 rfl rfl ?_
      refine am_dup dX2_filledBy_31 rfl ?_
      refine am_getI 1 dX2_filledBy_32 fl_RX2_15 (am_sh.of h_a0 rfl) rfl ?_
      refine am_iconst dX2_filledBy_35 am_kc_1 ?_
      refine am_iadd dX2_filledBy_36 ?_
      refine am_putI 1 dX2_filledBy_37 fl_RX2_15 (am_sh.of h_a0 rfl) rfl rfl rfl rfl ?_
      refine am_iconst dX2_filledBy_40 am_kc_0 ?_
      exact am_iret dX2_filledBy_41
theorem CX2_filledBy (G : am_G) (a0 : Nat) (a1 : Int32) (a2 : Int32) (M : am_M) (h_a0 : am_sh M a0 6) : am_C am_ei G 0 yX2_filledBy cX2_filledBy 6 (some FieldType.int) [.ref a0, .int a1, .int a2] M (fX2_filledBy a0 a1 a2 M) :=
  am_meth (by decide) rfl (Nat.le_of_ble_eq_true rfl) (sX2_filledBy_0 G a0 a1 a2 M h_a0)
