/-! ===== String's own methods on the text constant ===== -/
theorem am_bret0 {G : am_G} {d : Nat} {own nm : String} {cc : ByteArray} {nL pc : Nat} {L : List (Nat × Value)} {M : am_M} (hd : decode cc pc = .ok (.ireturn, 1)) : am_S am_ei G d own nm cc nL (some .byte) pc L [.int 0] M (some (0, M)) :=
  am_stepR (0, M) rfl (fun p e R s m args below meth c H locs cells slots ls Qc free hZ hq hf => am_W_nret hZ.1 hZ.2.1 hZ.2.2.2.2.2.1 rfl hq hf hd hZ.2.2.2.2.2.2.1)
set_option maxRecDepth 100000 in
set_option maxHeartbeats 4000000 in
theorem CJ0_coder (G : am_G) (M : am_M) : am_C am_ei G 0 yJ0_coder_7d493 cJ0_coder_7d493 1 (some .byte) [.retAddr G.2.2.2.2.2.2.2.1] M (some (0, M)) := by
  refine am_meth (L0 := [(0, .retAddr G.2.2.2.2.2.2.2.1)]) (by decide) rfl (Nat.le_of_ble_eq_true rfl) ?_
  refine am_getsC dJ0_coder_7d493_0 fw_RJ0_38 ?_
  have e1 : ¬ (1 : Int32) = 0 := by decide
  rw [show (some (0, M) : Option (Int32 × am_M)) = if (1 : Int32) = 0 then none else some (0, M) by rw [if_neg e1]]
  refine am_if_eq (tgt := 13) dJ0_coder_7d493_3 (by decide) (fun h => absurd h e1) (fun _ => ?_)
  refine am_rload_n 0 dJ0_coder_7d493_6 rfl rfl ?_
  refine am_getCo dJ0_coder_7d493_7 fw_RJ0_15 ?_
  refine am_goto (tgt := 14) dJ0_coder_7d493_10 (by decide) ?_
  exact am_bret0 dJ0_coder_7d493_14
set_option maxRecDepth 100000 in
set_option maxHeartbeats 4000000 in
theorem CJ0_isLatin1 (G : am_G) (M : am_M) : am_C am_ei G 0 yJ0_isLatin1_aae02 cJ0_isLatin1_aae02 1 (some .boolean) [.retAddr G.2.2.2.2.2.2.2.1] M (some (1, M)) := by
  refine am_meth (L0 := [(0, .retAddr G.2.2.2.2.2.2.2.1)]) (by decide) rfl (Nat.le_of_ble_eq_true rfl) ?_
  refine am_getsC dJ0_isLatin1_aae02_0 fw_RJ0_38 ?_
  have e1 : ¬ (1 : Int32) = 0 := by decide
  rw [show (some (1, M) : Option (Int32 × am_M)) = if (1 : Int32) = 0 then none else if (0 : Int32) = 0 then some (1, M) else none by rw [if_neg e1, if_pos rfl]]
  refine am_if_eq (tgt := 17) dJ0_isLatin1_aae02_3 (by decide) (fun h => absurd h e1) (fun _ => ?_)
  refine am_rload_n 0 dJ0_isLatin1_aae02_6 rfl rfl ?_
  refine am_getCo dJ0_isLatin1_aae02_7 fw_RJ0_15 ?_
  refine am_if_ne (tgt := 17) dJ0_isLatin1_aae02_10 (by decide) (fun h => absurd rfl h) (fun _ => ?_)
  refine am_iconst dJ0_isLatin1_aae02_13 am_kc_1 ?_
  refine am_goto (tgt := 18) dJ0_isLatin1_aae02_14 (by decide) ?_
  exact am_zret1 dJ0_isLatin1_aae02_18
set_option maxRecDepth 100000 in
set_option maxHeartbeats 4000000 in
theorem CJ0_length (G : am_G) (M : am_M) : am_C am_ei G 1 yJ0_length_8abf5 cJ0_length_8abf5 1 (some .int) [.retAddr G.2.2.2.2.2.2.2.1] M (some (68, M)) := by
  refine am_meth (L0 := [(0, .retAddr G.2.2.2.2.2.2.2.1)]) (by decide) rfl (Nat.le_of_ble_eq_true rfl) ?_
  refine am_rload_n 0 dJ0_length_8abf5_0 rfl rfl ?_
  refine am_getVa dJ0_length_8abf5_1 fw_RJ0_9 ?_
  refine am_tlen dJ0_length_8abf5_4 ?_
  refine am_rload_n 0 dJ0_length_8abf5_5 rfl rfl ?_
  refine am_eq (Y := (some ((0 : Int32), M)).bind fun q => some ((68 : Int32) >>> (q.1 &&& 31), q.2)) (by show some ((68 : Int32), M) = some ((68 : Int32) >>> ((0 : Int32) &&& 31), M); rw [show (68 : Int32) >>> ((0 : Int32) &&& 31) = 68 by decide]) ?_
  refine am_callR [] (CJ0_coder G M) dJ0_length_8abf5_6 mb_yJ0_coder_7d493 ⟨ml_RJ0_335, im_yJ0_coder_7d493, se_yJ0_coder_7d493⟩ rfl (by decide) rfl rfl (Nat.le_of_ble_eq_true rfl) (fun r _ _ _ _ => ?_)
  show am_S am_ei G 1 _ _ _ _ _ 9 _ (.int r.1 :: [.int 68]) r.2 _
  refine am_ishr dJ0_length_8abf5_9 ?_
  exact am_iret dJ0_length_8abf5_10
set_option maxRecDepth 100000 in
set_option maxHeartbeats 4000000 in
theorem CJ3_checkIndex (G : am_G) (i n : Int32) (M : am_M) (hfm : G.2.2.2.2.2.2.2.2.2 = .null ∨ ∃ t, G.2.2.2.2.2.2.2.2.2 = .retAddr t) : am_C am_ei G 0 yJ3_checkIndex_8e157 cJ3_checkIndex_8e157 3 (some .int) [.int i, .int n, G.2.2.2.2.2.2.2.2.2] M (if i < 0 then none else if i < n then some (i, M) else none) := by
  have key : am_S am_ei G 0 yJ3_checkIndex_8e157.cls yJ3_checkIndex_8e157.name cJ3_checkIndex_8e157 3 (some .int) 0 [(0, .int i), (1, .int n), (2, G.2.2.2.2.2.2.2.2.2)] [] M (if i < 0 then none else if i < n then some (i, M) else none) := by
    refine am_iload_n 0 dJ3_checkIndex_8e157_0 rfl rfl ?_
    refine am_if_lt (tgt := 9) dJ3_checkIndex_8e157_1 (by decide) (fun _ => am_none) (fun _ => ?_)
    refine am_iload_n 0 dJ3_checkIndex_8e157_4 rfl rfl ?_
    refine am_iload_n 1 dJ3_checkIndex_8e157_5 rfl rfl ?_
    refine am_icmp_lt (tgt := 16) dJ3_checkIndex_8e157_6 (by decide) (fun _ => ?_) (fun _ => am_none)
    refine am_iload_n 0 dJ3_checkIndex_8e157_16 rfl rfl ?_
    exact am_iret dJ3_checkIndex_8e157_17
  refine am_meth (by decide) ?_ ?_ key
  · rcases hfm with e | ⟨t, e⟩ <;> rw [e] <;> rfl
  · rcases hfm with e | ⟨t, e⟩ <;> rw [e] <;> exact Nat.le_of_ble_eq_true rfl
set_option maxRecDepth 100000 in
set_option maxHeartbeats 4000000 in
theorem CJ0_checkIndex (G : am_G) (i n : Int32) (M : am_M) (hfm : G.2.2.2.2.2.2.2.2.2 = .null ∨ ∃ t, G.2.2.2.2.2.2.2.2.2 = .retAddr t) : am_C am_ev G 1 yJ0_checkIndex_df160 cJ0_checkIndex_df160 2 none [.int i, .int n] M ((if i < 0 then none else if i < n then some (i, M) else none : Option (Int32 × am_M)).bind fun q => some q.2) := by
  refine am_meth (L0 := [(0, .int i), (1, .int n)]) (by decide) rfl (Nat.le_of_ble_eq_true rfl) ?_
  refine am_iload_n 0 dJ0_checkIndex_df160_0 rfl rfl ?_
  refine am_iload_n 1 dJ0_checkIndex_df160_1 rfl rfl ?_
  refine am_getsF dJ0_checkIndex_df160_2 fw_RJ0_1053 ?_
  refine am_callSi [.int i, .int n, G.2.2.2.2.2.2.2.2.2] (CJ3_checkIndex G i n M hfm) dJ0_checkIndex_df160_5 mb_yJ3_checkIndex_8e157 ⟨ml_RJ0_1059, sm_yJ3_checkIndex_8e157⟩ (by decide) rfl rfl (Nat.le_of_ble_eq_true rfl) (fun x M1 _ _ _ => ?_)
  refine am_pop dJ0_checkIndex_df160_8 rfl ?_
  exact am_vret dJ0_checkIndex_df160_9
def am_chr (i : Int32) : Int32 := ((am_bytes.getD i.toNatClampNeg 0 &&& 255).toUInt32 % 65536).toInt32
set_option maxRecDepth 100000 in
set_option maxHeartbeats 4000000 in
theorem CJ1_charAt (G : am_G) (i : Int32) (M : am_M) (hfm : G.2.2.2.2.2.2.2.2.2 = .null ∨ ∃ t, G.2.2.2.2.2.2.2.2.2 = .retAddr t) (h0 : ¬ i < 0) (h1 : i < 68) : am_C am_ei G 2 yJ1_charAt_3b067 cJ1_charAt_3b067 2 (some .char) [.retAddr G.2.2.2.2.2.2.2.2.1, .int i] M (some ((am_chr i).toUInt32.toUInt16.toUInt32.toInt32, M)) := by
  refine am_meth (L0 := [(0, .retAddr G.2.2.2.2.2.2.2.2.1), (1, .int i)]) (by decide) rfl (Nat.le_of_ble_eq_true rfl) ?_
  refine am_iload_n 1 dJ1_charAt_3b067_0 rfl rfl ?_
  refine am_rload_n 0 dJ1_charAt_3b067_1 rfl rfl ?_
  refine am_tlen dJ1_charAt_3b067_2 ?_
  refine am_eq (Y := ((if i < 0 then none else if i < 68 then some (i, M) else none : Option (Int32 × am_M)).bind fun q => some q.2).bind fun M1 => some ((am_chr i).toUInt32.toUInt16.toUInt32.toInt32, M1)) (by rw [if_neg h0, if_pos h1]; rfl) ?_
  refine am_callSv [.int i, .int 68] (CJ0_checkIndex G i 68 M hfm) dJ1_charAt_3b067_3 mb_yJ0_checkIndex_df160 ⟨ml_RJ1_9, sm_yJ0_checkIndex_df160⟩ (by decide) rfl rfl (Nat.le_of_ble_eq_true rfl) (fun M1 _ _ _ => ?_)
  refine am_rload_n 0 dJ1_charAt_3b067_6 rfl rfl ?_
  refine am_iload_n 1 dJ1_charAt_3b067_7 rfl rfl ?_
  refine am_tbld dJ1_charAt_3b067_8 (fun h => ?_) ?_
  · rcases h with h | h
    · exact h0 h
    · obtain ⟨j, hj, e⟩ := nI_of h0
      have h68 : (68 : Int32) = nI 68 := by decide
      rw [e, nI_clamp hj] at h
      rw [e, h68, nI_ltI hj (by decide)] at h1
      omega
  refine am_sipush (x := 255) dJ1_charAt_3b067_9 (by decide) ?_
  refine am_iand dJ1_charAt_3b067_12 ?_
  refine am_i2c dJ1_charAt_3b067_13 ?_
  exact am_cret dJ1_charAt_3b067_14
set_option maxRecDepth 100000 in
set_option maxHeartbeats 4000000 in
theorem CJ0_charAt (G : am_G) (i : Int32) (M : am_M) (hfm : G.2.2.2.2.2.2.2.2.2 = .null ∨ ∃ t, G.2.2.2.2.2.2.2.2.2 = .retAddr t) (h0 : ¬ i < 0) (h1 : i < 68) : am_C am_ei G 3 yJ0_charAt_5068e cJ0_charAt_5068e 2 (some .char) [.retAddr G.2.2.2.2.2.2.2.1, .int i] M (some (((am_chr i).toUInt32.toUInt16.toUInt32.toInt32).toUInt32.toUInt16.toUInt32.toInt32, M)) := by
  refine am_meth (L0 := [(0, .retAddr G.2.2.2.2.2.2.2.1), (1, .int i)]) (by decide) rfl (Nat.le_of_ble_eq_true rfl) ?_
  refine am_rload_n 0 dJ0_charAt_5068e_0 rfl rfl ?_
  refine am_eq (Y := (some ((1 : Int32), M)).bind fun q => if q.1 = 0 then none else (some ((am_chr i).toUInt32.toUInt16.toUInt32.toInt32, q.2)).bind fun q => some (q.1.toUInt32.toUInt16.toUInt32.toInt32, q.2)) (by rfl) ?_
  refine am_callR [] (CJ0_isLatin1 G M) dJ0_charAt_5068e_1 mb_yJ0_isLatin1_aae02 ⟨ml_RJ0_492, im_yJ0_isLatin1_aae02, se_yJ0_isLatin1_aae02⟩ rfl (by decide) rfl rfl (Nat.le_of_ble_eq_true rfl) (fun r hr _ _ _ => ?_)
  cases hr
  refine am_if_eq (tgt := 16) (x := 1) dJ0_charAt_5068e_4 (by decide) (fun h => absurd h (by decide)) (fun _ => ?_)
  refine am_rload_n 0 dJ0_charAt_5068e_7 rfl rfl ?_
  refine am_getVa dJ0_charAt_5068e_8 fw_RJ0_9 ?_
  refine am_iload_n 1 dJ0_charAt_5068e_11 rfl rfl ?_
  refine am_callSi [.retAddr G.2.2.2.2.2.2.2.2.1, .int i] (CJ1_charAt G i M hfm h0 h1) dJ0_charAt_5068e_12 mb_yJ1_charAt_3b067 ⟨ml_RJ0_495, sm_yJ1_charAt_3b067⟩ (by decide) rfl rfl (Nat.le_of_ble_eq_true rfl) (fun x M1 _ _ _ => ?_)
  exact am_cret dJ0_charAt_5068e_15
/-! the two calls on the text, as functions -/
def fJ0_length (M : am_M) : Option (Int32 × am_M) := some (68, M)
def am_chr2 (i : Int32) : Int32 := ((am_chr i).toUInt32.toUInt16.toUInt32.toInt32).toUInt32.toUInt16.toUInt32.toInt32
def fJ0_charAt (i : Int32) (M : am_M) : Option (Int32 × am_M) := if i < 0 then none else if i < 68 then some (am_chr2 i, M) else none
theorem KJ0_length (G : am_G) (M : am_M) : am_C am_ei G 1 yJ0_length_8abf5 cJ0_length_8abf5 1 (some .int) [.retAddr G.2.2.2.2.2.2.2.1] M (fJ0_length M) := CJ0_length G M
theorem KJ0_charAt (G : am_G) (hfm : G.2.2.2.2.2.2.2.2.2 = .null ∨ ∃ t, G.2.2.2.2.2.2.2.2.2 = .retAddr t) (i : Int32) (M : am_M) : am_C am_ei G 3 yJ0_charAt_5068e cJ0_charAt_5068e 2 (some .char) [.retAddr G.2.2.2.2.2.2.2.1, .int i] M (fJ0_charAt i M) := by
  unfold fJ0_charAt
  by_cases h0 : i < 0
  · rw [if_pos h0]; intro _ r h; cases h
  · rw [if_neg h0]
    by_cases h1 : i < 68
    · rw [if_pos h1]; exact CJ0_charAt G i M hfm h0 h1
    · rw [if_neg h1]; intro _ r h; cases h
theorem am_callRi {G : am_G} {d : Nat} {own nm : String} {cc : ByteArray} {nL : Nat} {ret : Option FieldType} {pc : Nat} {L : List (Nat × Value)} {st st' : List Value} {M : am_M} {β : Type} {emb : β → Option Value × am_M} {Xc : Option (Int32 × am_M)} {Xk : (Int32 × am_M) → Option β} {d' idx n : Nat} {y : MethodName} {cc' : ByteArray} {nL' : Nat} {ret' : Option FieldType} (As : List Value)
    (hC : am_C am_ei G d' y cc' nL' ret' (.retAddr G.2.2.2.2.2.2.2.1 :: As) M Xc) (hd : decode cc pc = .ok (.invokevirtual idx, 3)) (hB : am_mB y cc' nL' ret' n) (hw : Cond.methodLink own idx y ∈ am_T ∧ Cond.instanceMethod y ∈ am_T ∧ Cond.selects y.cls y y ∈ am_T) (hcl : y.cls = "java/lang/String") (hdd : d' + 1 ≤ d) (hn : As.length = n) (hst : st = As.reverse ++ .retAddr G.2.2.2.2.2.2.2.1 :: st') (hr8 : (st'.map fun v => v.category).sum ≤ 8)
    (k : ∀ (x : Int32) (M1 : am_M), Xc = some (x, M1) → am_wt M → am_le M M1 → am_S emb G d own nm cc nL ret (pc + 3) L (.int x :: st') M1 (Xk (x, M1))) :
    am_S emb G d own nm cc nL ret pc L st M (Xc.bind Xk) := am_callR As hC hd hB hw hcl hdd hn hst hr8 (fun q h1 h2 h3 _ => k q.1 q.2 h1 h2 h3)
