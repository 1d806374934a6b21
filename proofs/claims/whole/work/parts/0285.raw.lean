/-! ===== what was there before the run: the script, the text constant, two statics: raw references stand as .retAddr ===== -/
section AM7
variable {G : am_G} {d : Nat} {own nm : String} {cc : ByteArray} {nL : Nat} {ret : Option FieldType} {pc pc' : Nat} {L L' : List (Nat × Value)} {st st' : List Value} {M M1 : am_M} {β : Type} {emb : β → Option Value × am_M} {X Y : Option β}
theorem am_stepS (h : ∀ (p : Program) (e : Env) (R : Room) (s : State) (m : MethodId) (args : Array Value) (below : List Frame) (meth : Method) (c : Code) (H : Heap) (locs : List Loc) (cells slots : Nat) (ls : Array Slot) (Q : State → Prop),
      am_Z G d own nm cc nL ret p R s m args meth c → va_S (am_A G.2.1) s.heap H locs → W p G.1 e R s m args below meth c H locs cells slots Q (F0 m pc' ls (st'.map (am_c G.2.1))) → W p G.1 e R s m args below meth c H locs cells slots Q (F0 m pc ls (st.map (am_c G.2.1))))
    (k : am_S emb G d own nm cc nL ret pc' L st' M X) : am_S emb G d own nm cc nL ret pc L st M X := by
  intro hwt r0 hX
  obtain ⟨hle, hw', hk⟩ := k hwt r0 hX
  refine ⟨hle, hw', ?_⟩
  intro p e R s m args below meth c H locs cells slots ls hZ hl hH hS hc h1 h2
  exact h p e R s m args below meth c H locs cells slots ls _ hZ hS (hk p e R s m args below meth c H locs cells slots ls hZ hl hH hS hc h1 h2)
theorem am_rload_n (j : Nat) {k : Fin 4} {i a : Nat} (hd : decode cc pc = .ok (.aload_n k, 1)) (hi : (k : Nat) = i) (hj : L[j]? = some (i, .retAddr a)) (kk : am_S emb G d own nm cc nL ret (pc + 1) L (.retAddr a :: st) M X) : am_S emb G d own nm cc nL ret pc L st M X := am_step (fun p e R s m args below meth c H locs cells slots ls Q hZ hl kk => lv_aload_n hZ.1 hZ.2.1 hd hi (am_Lat hl hj) kk) kk
theorem am_slen (hd : decode cc pc = .ok (.arraylength, 1)) (k : am_S emb G d own nm cc nL ret (pc + 1) L (.int (Int32.ofNat G.2.2.2.2.2.1) :: st) M X) : am_S emb G d own nm cc nL ret pc L (.retAddr G.2.2.2.2.1 :: st) M X :=
  am_stepS (fun p e R s m args below meth c H locs cells slots ls Q hZ hS kk => by
    obtain ⟨-, -, -, -, h5, h6, -⟩ := hZ.2.2.2.2.2.2.2.2.1
    exact va_slen hZ.1 hZ.2.1 h5 (Nat.lt_of_lt_of_le h6 hZ.2.2.2.2.2.2.2.2.2.1) (Nat.not_le.mpr h6) hS hd kk) k
theorem am_sld {i : Int32} (hd : decode cc pc = .ok (.iaload, 1)) (k : ¬ (i < 0 ∨ G.2.2.2.2.2.1 ≤ i.toNatClampNeg) → am_S emb G d own nm cc nL ret (pc + 1) L (.int (G.2.2.2.2.2.2.1 i.toNatClampNeg) :: st) M X) : am_S emb G d own nm cc nL ret pc L (.int i :: .retAddr G.2.2.2.2.1 :: st) M (if i < 0 ∨ G.2.2.2.2.2.1 ≤ i.toNatClampNeg then none else X) := by
  by_cases h : i < 0 ∨ G.2.2.2.2.2.1 ≤ i.toNatClampNeg
  · rw [if_pos h]; exact am_none
  · rw [if_neg h]
    exact am_stepS (fun p e R s m args below meth c H locs cells slots ls Q hZ hS kk => by
      obtain ⟨-, -, -, -, h5, h6, -⟩ := hZ.2.2.2.2.2.2.2.2.1
      exact va_sld hZ.1 hZ.2.1 h5 (Nat.lt_of_lt_of_le h6 hZ.2.2.2.2.2.2.2.2.2.1) (Nat.not_le.mpr h6) hS h hd kk) (k h)
theorem am_ldcS (ho : own = RX9) (hd : decode cc pc = .ok (.ldc 33, 2)) (k : am_S emb G d own nm cc nL ret (pc + 2) L (.retAddr G.2.2.2.2.2.2.2.1 :: st) M X) : am_S emb G d own nm cc nL ret pc L st M X :=
  am_stepS (fun p e R s m args below meth c H locs cells slots ls Q hZ hS kk => by
    obtain ⟨-, -, -, -, -, -, -, h8, -⟩ := hZ.2.2.2.2.2.2.2.2.1
    subst ho
    exact va_ldcS hZ.1 hZ.2.1 hZ.2.2.2.1 h8 hd kk) k
theorem am_getsC {idx : Nat} (hd : decode cc pc = .ok (.getstatic idx, 3)) (hw : Cond.fieldLink own idx "java/lang/String" "COMPACT_STRINGS" "Z" ∈ am_T) (k : am_S emb G d own nm cc nL ret (pc + 3) L (.int 1 :: st) M X) : am_S emb G d own nm cc nL ret pc L st M X :=
  am_stepS (fun p e R s m args below meth c H locs cells slots ls Q hZ hS kk => by
    obtain ⟨-, -, -, -, -, -, -, -, h9, -⟩ := hZ.2.2.2.2.2.2.2.2.1
    exact va_gets hZ.1 hZ.2.1 h9 hS hZ.2.2.2.1 (hZ.2.2.2.2.1 _ hw) (fun _ h => h) hd kk) k
theorem am_getsF {idx : Nat} (hd : decode cc pc = .ok (.getstatic idx, 3)) (hw : Cond.fieldLink own idx "jdk/internal/util/Preconditions" "SIOOBE_FORMATTER" "Ljava/util/function/BiFunction;" ∈ am_T) (k : am_S emb G d own nm cc nL ret (pc + 3) L (G.2.2.2.2.2.2.2.2.2 :: st) M X) : am_S emb G d own nm cc nL ret pc L st M X :=
  am_stepS (fun p e R s m args below meth c H locs cells slots ls Q hZ hS kk => by
    obtain ⟨-, -, -, -, -, -, -, -, -, h10⟩ := hZ.2.2.2.2.2.2.2.2.1
    exact va_gets hZ.1 hZ.2.1 h10 hS hZ.2.2.2.1 (hZ.2.2.2.2.1 _ hw) (fun _ h => h) hd kk) k
theorem am_getCo {idx : Nat} (hd : decode cc pc = .ok (.getfield idx, 3)) (hw : Cond.fieldLink own idx "java/lang/String" "coder" "B" ∈ am_T) (k : am_S emb G d own nm cc nL ret (pc + 3) L (.int 0 :: st) M X) : am_S emb G d own nm cc nL ret pc L (.retAddr G.2.2.2.2.2.2.2.1 :: st) M X :=
  am_stepS (fun p e R s m args below meth c H locs cells slots ls Q hZ hS kk => by
    obtain ⟨-, -, -, -, -, -, h7, -⟩ := hZ.2.2.2.2.2.2.2.2.1
    exact vk_getf hZ.1 hZ.2.1 (h7.1 0 (by decide)).2.1 hS hZ.2.2.2.1 (hZ.2.2.2.2.1 _ hw) (fun _ h => h) hd kk) k
theorem am_getVa {idx : Nat} (hd : decode cc pc = .ok (.getfield idx, 3)) (hw : Cond.fieldLink own idx "java/lang/String" "value" "[B" ∈ am_T) (k : am_S emb G d own nm cc nL ret (pc + 3) L (.retAddr G.2.2.2.2.2.2.2.2.1 :: st) M X) : am_S emb G d own nm cc nL ret pc L (.retAddr G.2.2.2.2.2.2.2.1 :: st) M X :=
  am_stepS (fun p e R s m args below meth c H locs cells slots ls Q hZ hS kk => by
    obtain ⟨-, -, -, -, -, -, h7, -⟩ := hZ.2.2.2.2.2.2.2.2.1
    exact vk_getf hZ.1 hZ.2.1 (h7.1 0 (by decide)).2.2.1 hS hZ.2.2.2.1 (hZ.2.2.2.2.1 _ hw) (fun _ h => h) hd kk) k
theorem am_tlen (hd : decode cc pc = .ok (.arraylength, 1)) (k : am_S emb G d own nm cc nL ret (pc + 1) L (.int 68 :: st) M X) : am_S emb G d own nm cc nL ret pc L (.retAddr G.2.2.2.2.2.2.2.2.1 :: st) M X :=
  am_stepS (fun p e R s m args below meth c H locs cells slots ls Q hZ hS kk => by
    obtain ⟨-, -, -, -, -, -, h7, -⟩ := hZ.2.2.2.2.2.2.2.2.1
    exact va_tlen hZ.1 hZ.2.1 (h7.1 0 (by decide)).2.2.2 hS (by decide) hd kk) k
theorem am_tbld {i : Int32} (hd : decode cc pc = .ok (.baload, 1)) (h : ¬ (i < 0 ∨ 68 ≤ i.toNatClampNeg)) (k : am_S emb G d own nm cc nL ret (pc + 1) L (.int (am_bytes.getD i.toNatClampNeg 0) :: st) M X) : am_S emb G d own nm cc nL ret pc L (.int i :: .retAddr G.2.2.2.2.2.2.2.2.1 :: st) M X :=
  am_stepS (fun p e R s m args below meth c H locs cells slots ls Q hZ hS kk => by
    obtain ⟨-, -, -, -, -, -, h7, -⟩ := hZ.2.2.2.2.2.2.2.2.1
    exact va_tb hZ.1 hZ.2.1 (h7.1 0 (by decide)).2.2.2 hS h rfl hd kk) k
/-- a call on the text constant -/
theorem am_callR {β' : Type} {em' : β' → Option Value × am_M} {Xc : Option β'} {Xk : β' → Option β} {d' idx n : Nat} {y : MethodName} {cc' : ByteArray} {nL' : Nat} {ret' : Option FieldType} (As : List Value)
    (hC : am_C em' G d' y cc' nL' ret' (.retAddr G.2.2.2.2.2.2.2.1 :: As) M Xc) (hd : decode cc pc = .ok (.invokevirtual idx, 3)) (hB : am_mB y cc' nL' ret' n) (hw : Cond.methodLink own idx y ∈ am_T ∧ Cond.instanceMethod y ∈ am_T ∧ Cond.selects y.cls y y ∈ am_T) (hcl : y.cls = "java/lang/String") (hdd : d' + 1 ≤ d) (hn : As.length = n) (hst : st = As.reverse ++ .retAddr G.2.2.2.2.2.2.2.1 :: st') (hr8 : (st'.map fun v => v.category).sum ≤ 8)
    (k : ∀ r : β', Xc = some r → am_wt M → am_le M (em' r).2 → am_wt (em' r).2 → am_S emb G d own nm cc nL ret (pc + 3) L ((em' r).1.toList ++ st') (em' r).2 (Xk r)) :
    am_S emb G d own nm cc nL ret pc L st M (Xc.bind Xk) := by
  refine am_stepC hC hdd (fun v M1 p e R s m args below meth c0 H locs cells slots ls hwt hZ hls hH hS hfr hlo hM hf => ⟨(Value.ref G.2.2.2.2.2.2.2.1 :: As.map (am_c G.2.1)).toArray, ?_⟩) k
  have hts := hZ.2.2.2.2.1
  have hrc : ∃ cell : Cell, H[G.2.2.2.2.2.2.2.1]? = some cell ∧ cell.vm.isStatics = false ∧ s.vm.findClass y.cls = some cell.cls := by
    obtain ⟨-, -, -, -, -, -, h7, -⟩ := hZ.2.2.2.2.2.2.2.2.1
    rw [hcl]
    exact vk_recv (i := 0) h7 (by decide) hS
  exact va_runV (As := As.map (am_c G.2.1)) (b := G.2.2.2.2.2.2.2.1) ⟨hZ.1, hZ.2.1, hZ.2.2.1, hZ.2.2.2.1, hts⟩ hM ⟨callB_of n hts (am_goodC hB.2.1) rfl rfl rfl (hts _ hB.1) (hts _ hw.1) hB.2.2.1 (am_room hfr hlo hB.2.2.2), hts _ hw.2.1, hts _ hw.2.2⟩
    ⟨am_blind G M _, hrc, fun U hU hW => ⟨rfl, by rw [hU]; exact hH, hZ.2.2.2.2.2.2.2.2.1.step hW hZ.2.2.2.2.2.2.2.2.2.1 (fun a ha hn => by rw [hU]; exact hS.2.1 a ha hn)⟩⟩ rfl (by rw [List.length_map]; exact hn) hls (by rw [hst]; show ((As.reverse ++ Value.retAddr G.2.2.2.2.2.2.2.1 :: st').map (am_c G.2.1)) = _; simp [am_c]) (lv_room (by rw [am_cats]; exact hr8)) hd hf
end AM7
