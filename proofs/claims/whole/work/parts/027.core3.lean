/-! ===== a method's end, a method, a call ===== -/
section AM3
variable {G : am_G} {d : Nat} {own nm : String} {cc : ByteArray} {nL : Nat} {ret : Option FieldType} {pc pc' : Nat} {L L' : List (Nat × Value)} {st st' : List Value} {M M1 : am_M} {β : Type} {emb : β → Option Value × am_M} {X Y : Option β}
/-- answers: nothing, an int, a reference -/
abbrev am_ev : am_M → Option Value × am_M := fun M => (none, M)
abbrev am_ei : Int32 × am_M → Option Value × am_M := fun q => (some (.int q.1), q.2)
abbrev am_er : Nat × am_M → Option Value × am_M := fun q => (some (.ref q.1), q.2)
/-- a return: the answer, the memory as it is -/
theorem am_stepR (r0 : β) (hM : (emb r0).2 = M) (h : ∀ (p : Program) (e : Env) (R : Room) (s : State) (m : MethodId) (args : Array Value) (below : List Frame) (meth : Method) (c : Code) (H : Heap) (locs : List Loc) (cells slots : Nat) (ls : Array Slot) (Qc : Array Value → State → Outcome → State → Prop) (free : Addr → Prop),
      am_Z G d own nm cc nL ret p R s m args meth c → (∀ t : State, t.heap = H → s.WarmedH t.vm → Qc args s (.returned ((emb r0).1.map (am_c G.2.1))) t) → (∀ q ∈ locs, free q.base) → W p G.1 e R s m args below meth c H locs cells slots (MQ below Qc args s cells slots free) (F0 m pc ls (st.map (am_c G.2.1)))) :
    am_S emb G d own nm cc nL ret pc L st M (some r0) := by
  subst hM
  intro hwt v' hX
  cases hX
  refine ⟨am_le.rf _, hwt, ?_⟩
  intro p e R s m args below meth c H locs cells slots ls hZ hl hH hS hc h1 h2
  refine W.widen (k := R.cells) (n := R.slots) (by omega) (by omega) ?_
  exact h p e R s m args below meth c H locs R.cells R.slots ls _ _ hZ (fun t ht _ => ⟨⟨rfl, by rw [ht]; exact hH⟩, hS.F ht⟩) hS.2.2
theorem am_vret (hd : decode cc pc = .ok (.return_, 1)) : am_S am_ev G d own nm cc nL none pc L [] M (some M) :=
  am_stepR M rfl (fun p e R s m args below meth c H locs cells slots ls Qc free hZ hq hf => W.vret hZ.1 hZ.2.1 hZ.2.2.2.2.2.1 hq hf hd hZ.2.2.2.2.2.2.1)
theorem am_iret {x : Int32} (hd : decode cc pc = .ok (.ireturn, 1)) : am_S am_ei G d own nm cc nL (some .int) pc L [.int x] M (some (x, M)) :=
  am_stepR (x, M) rfl (fun p e R s m args below meth c H locs cells slots ls Qc free hZ hq hf => W.iret hZ.1 hZ.2.1 hZ.2.2.2.2.2.1 hq hf hd hZ.2.2.2.2.2.2.1)
theorem am_aret {q : Nat} {rt : FieldType} (hrt : (∃ n, rt = .object n) ∨ ∃ t, rt = .array t) (hd : decode cc pc = .ok (.areturn, 1)) : am_S am_er G d own nm cc nL (some rt) pc L [.ref q] M (some (q, M)) :=
  am_stepR (q, M) rfl (fun p e R s m args below meth c H locs cells slots ls Qc free hZ hq hf => W.aret hZ.1 hZ.2.1 hZ.2.2.2.2.2.1 hrt (Or.inr ⟨_, rfl⟩) hq hf hd hZ.2.2.2.2.2.2.1)
/-- a narrow answer -/
theorem am_W_nret {p : Program} {l : Launch} {e : Env} {R : Room} {s : State} {m : MethodId} {args : Array Value} {below : List Frame} {meth : Method} {c : Code} {H : Heap} {locs : List Loc} {cells slots : Nat} {cc : ByteArray} {Qc : Array Value → State → Outcome → State → Prop} {free : Addr → Prop} {v w : Int32} {ty : FieldType} (hexec : p.tables.exec = Jvm.exec) (hb : c.code = cc) (hr : meth.sig.returnType = some ty) (hn : narrow ty (.int v) = .int w)
    (hq : ∀ t : State, t.heap = H → s.WarmedH t.vm → Qc args s (.returned (some (.int w))) t) (hf : ∀ q ∈ locs, free q.base)
    {pc : Nat} {ls : Array Slot} (hdg : decode cc pc = .ok (.ireturn, 1)) (hlocks : meth.locks = false) : W p l e R s m args below meth c H locs cells slots (MQ below Qc args s cells slots free) (F0 m pc ls [.int v]) := by
  intro T hT X
  obtain ⟨fs, hret, hrun, hended, hW, hframe⟩ := X.leave (v := some (.int w)) (fun h => by rw [hr] at h; cases h)
  have hmeth' : T.vm.method? m = some meth := X.method'
  refine ⟨T.setFrames fs, ?_, .returned (some (.int w)), hrun, hended, hq _ hT hW, locs, ⟨⟨_, rfl⟩, hW, hframe⟩, hf⟩
  jvm_step X.here [X.here.top, hexec, hb, hdg, hmeth', hr, hn]
  (try refine ⟨rfl, ?_⟩); (try refine ⟨rfl, ?_⟩)
  first | (intro acts; rw [hret _ acts rfl rfl rfl]) | rw [hret _ _ rfl rfl rfl]
  exact Steps.refl _
theorem am_zret {x : Int32} (hd : decode cc pc = .ok (.ireturn, 1)) : am_S am_ei G d own nm cc nL (some .boolean) pc L [.int x] M (some (x &&& 1, M)) :=
  am_stepR (x &&& 1, M) rfl (fun p e R s m args below meth c H locs cells slots ls Qc free hZ hq hf => am_W_nret hZ.1 hZ.2.1 hZ.2.2.2.2.2.1 rfl hq hf hd hZ.2.2.2.2.2.2.1)
theorem am_cret {x : Int32} (hd : decode cc pc = .ok (.ireturn, 1)) : am_S am_ei G d own nm cc nL (some .char) pc L [.int x] M (some (x.toUInt32.toUInt16.toUInt32.toInt32, M)) :=
  am_stepR (x.toUInt32.toUInt16.toUInt32.toInt32, M) rfl (fun p e R s m args below meth c H locs cells slots ls Qc free hZ hq hf => am_W_nret hZ.1 hZ.2.1 hZ.2.2.2.2.2.1 rfl hq hf hd hZ.2.2.2.2.2.2.1)
/-- A METHOD: its body from its entry gives its contract -/
theorem am_meth {y : MethodName} {av : List Value} {L0 : List (Nat × Value)} (hy : plainName y.cls = true) (hL : lv_args 0 (av.map (am_c G.2.1)) = am_Lc G.2.1 L0) (hn : (lg_sl (av.map (am_c G.2.1))).length ≤ nL)
    (h : am_S emb G d y.cls y.name cc nL ret 0 L0 [] M X) : am_C emb G d y cc nL ret av M X := by
  intro hwt r0 hX
  obtain ⟨hle, hw', hk⟩ := h hwt r0 hX
  have hnn := hle.n
  have hss := hle.sl
  refine ⟨hle, hw', Met.ofW (cc := cc) (maxL := nL) (ret := ret) hy rfl ?_⟩
  intro p e s m args below meth c s₁ B hml hv
  obtain ⟨rfl, hH, hK⟩ := hv
  have hts := atoms_spec (ws := .code y cc nL ret :: am_T) B.pre
  have hown : s.vm.findClass y.cls = some m.cls := findClass_of_methodNamed B.named
  have hl := lv_entry (av.map (am_c G.2.1)) (n := nL) hn
  rw [lg_entry_eq]
  generalize (lg_sl (av.map (am_c G.2.1)) ++ List.replicate (nL - (lg_sl (av.map (am_c G.2.1))).length) Slot.unset).toArray = ls at hl ⊢
  rw [hL] at hl
  have hh : G.2.1 ≤ s.heap.size := by rw [hH.1]; exact Nat.le_add_right _ _
  exact hk p e _ s m _ below meth c s.heap [] 0 0 ls ⟨B.exec, B.bytes, hml, hown, fun w hw => hts w (List.mem_cons_of_mem _ hw), B.returns, B.notSynchronized, (name_of_methodNamed B.named B.method).1, hK, hh, Nat.le_refl _, Nat.le_refl _⟩ hl hH va_S.rf hH.1 (by show 0 + am_n (emb r0).2 ≤ (am_n (emb r0).2 - am_n M) + am_n M; omega) (by show 0 + am_sl (emb r0).2 ≤ (am_sl (emb r0).2 - am_sl M) + am_sl M; omega)
theorem am_blind (G : am_G) (M : am_M) (av : List Value) : FrameBlind (va_Pc av (fun U => am_H G M U.heap ∧ am_K G U)) :=
  fun a U g mk q => ⟨q.1, q.2.1, am_K.same (u := U) rfl rfl q.2.2⟩
theorem am_goodC {y : MethodName} {cc' : ByteArray} {nL' : Nat} {ret' : Option FieldType} (h : Cond.code y cc' nL' ret' ∈ am_T) : GoodIn am_T (.code y cc' nL' ret' :: am_T) := by
  intro w hw
  rcases List.mem_cons.mp hw with rfl | hw
  · exact ⟨h, am_T_good _ h⟩
  · exact ⟨hw, am_T_good _ hw⟩
/-- what a call needs of the tables -/
def am_mB (y : MethodName) (cc' : ByteArray) (nL' : Nat) (ret' : Option FieldType) (n : Nat) : Prop :=
  Cond.initialized y.cls ∈ am_T ∧ Cond.code y cc' nL' ret' ∈ am_T ∧ (y.cls ≠ "java/lang/invoke/MethodHandle" ∧ y.cls ≠ "java/lang/invoke/VarHandle" ∧ (parseMethodDescriptor y.desc).map (fun q => q.parameters.length) = some n) ∧ nL' ≤ 45
/-- behind a call -/
theorem am_stepC {β' : Type} {em' : β' → Option Value × am_M} {Xc : Option β'} {Xk : β' → Option β} {d' : Nat} {y : MethodName} {cc' : ByteArray} {nL' : Nat} {ret' : Option FieldType} {av : List Value}
    (hC : am_C em' G d' y cc' nL' ret' av M Xc) (hdd : d' + 1 ≤ d)
    (h : ∀ (v : Option Value) (M1 : am_M) (p : Program) (e : Env) (R : Room) (s : State) (m : MethodId) (args : Array Value) (below : List Frame) (meth : Method) (c : Code) (H : Heap) (locs : List Loc) (cells slots : Nat) (ls : Array Slot),
      am_wt M → am_Z G d own nm cc nL ret p R s m args meth c → ls.size = nL → am_H G M H → va_S (am_A G.2.1) s.heap H locs → d' + 1 ≤ R.frames → 64 * d' + 64 ≤ R.locals → Met G.1 y (.code y cc' nL' ret' :: am_T) (am_R d' (am_n M1 - am_n M) (am_sl M1 - am_sl M)) (va_Pc (av.map (am_c G.2.1)) (fun U => am_H G M U.heap ∧ am_K G U)) (am_Q G v M1) (am_n M1 - am_n M) (am_sl M1 - am_sl M) (am_A G.2.1) →
      cells + (am_n M1 - am_n M) ≤ R.cells ∧ slots + (am_sl M1 - am_sl M) ≤ R.slots →
      ∃ a, va_Run p G.1 e R s m args below meth c H locs cells slots (am_n M1 - am_n M) (am_sl M1 - am_sl M) (F0 m pc ls (st.map (am_c G.2.1))) (st'.map (am_c G.2.1)) (am_Q G v M1 a) (am_A G.2.1))
    (k : ∀ r : β', Xc = some r → am_wt M → am_le M (em' r).2 → am_wt (em' r).2 → am_S emb G d own nm cc nL ret (pc + 3) L ((em' r).1.toList ++ st') (em' r).2 (Xk r)) :
    am_S emb G d own nm cc nL ret pc L st M (Xc.bind Xk) := by
  intro hwt r0 hX
  cases hXc : Xc with
  | none => rw [hXc] at hX; cases hX
  | some q =>
    rw [hXc] at hX
    have hX : Xk q = some r0 := hX
    obtain ⟨hle1, hwt1, hM⟩ := hC hwt q hXc
    obtain ⟨hle2, hw', hk⟩ := k q hXc hwt hle1 hwt1 hwt1 r0 hX
    generalize (em' q).1 = v at *
    generalize (em' q).2 = M1 at *
    have n1 := hle1.n
    have n2 := hle2.n
    have l1 := hle1.sl
    have l2 := hle2.sl
    refine ⟨hle1.tr hle2, hw', ?_⟩
    intro p e R s m args below meth c H locs cells slots ls hZ hl hH hS hc h1 h2
    have hfr : d' + 1 ≤ R.frames := Nat.le_trans hdd hZ.2.2.2.2.2.2.2.2.2.2.1
    have hlo : 64 * d' + 64 ≤ R.locals := Nat.le_trans (by omega) hZ.2.2.2.2.2.2.2.2.2.2.2
    obtain ⟨a, hr⟩ := h v M1 p e R s m args below meth c H locs cells slots ls hwt hZ hl.1 hH hS hfr hlo hM ⟨by omega, by omega⟩
    intro T hT X0
    obtain ⟨v2, st₀, t, T', Lc, h0, X', hL, e1, e2, ⟨⟨hv, hH1⟩, hz, hkk⟩, stp⟩ := hr T hT X0
    cases hv
    rw [h0] at hz hkk
    obtain ⟨t2, a1, b1⟩ := hk p e R s m args below meth c T'.heap (locs ++ Lc) (cells + (am_n M1 - am_n M)) (slots + (am_sl M1 - am_sl M)) ls hZ hl (by rw [e1]; exact hH1)
      ⟨Nat.le_trans hS.1 (by rw [e1]; exact hz), fun q hq hn => by rw [e1, hkk q (Nat.lt_of_lt_of_le hq hS.1) hn]; exact hS.2.1 q hq hn, fun q hq => by
        rcases List.mem_append.mp hq with h | h
        · exact hS.2.2 q h
        · exact hL q h⟩ (by omega) (by omega) (by omega) T' rfl X'
    refine ⟨t2, stp t2 ?_, b1⟩
    have e3 : (v.toList ++ st').map (am_c G.2.1) = (v.map (am_c G.2.1)).toList ++ st'.map (am_c G.2.1) := by cases v <;> simp
    rw [e3] at a1
    exact a1
theorem am_room {R : Room} {d' mc ms nL' : Nat} (h1 : d' + 1 ≤ R.frames) (h2 : 64 * d' + 64 ≤ R.locals) (h3 : nL' ≤ 45) : (am_R d' mc ms).frames + 1 ≤ R.frames ∧ 8 + (nL' + 11) + (am_R d' mc ms).locals ≤ R.locals :=
  ⟨h1, by show 8 + (nL' + 11) + 64 * d' ≤ R.locals; omega⟩
theorem am_cats (b : Nat) (l : List Value) : ((l.map (am_c b)).map fun v => v.category) = l.map fun v => v.category := by
  rw [List.map_map]
  apply List.map_congr_left
  intro v _
  exact am_c_cat b v
theorem am_callV {β' : Type} {em' : β' → Option Value × am_M} {Xc : Option β'} {Xk : β' → Option β} {d' idx q n : Nat} {y : MethodName} {cc' : ByteArray} {nL' : Nat} {ret' : Option FieldType} (c : Nat) (As : List Value)
    (hC : am_C em' G d' y cc' nL' ret' (.ref q :: As) M Xc) (hd : decode cc pc = .ok (.invokevirtual idx, 3)) (hB : am_mB y cc' nL' ret' n) (hw : Cond.methodLink own idx y ∈ am_T ∧ Cond.instanceMethod y ∈ am_T ∧ Cond.selects y.cls y y ∈ am_T) (hcl : vwCl[c]? = some (y.cls, am_TT c, am_N c)) (hs : am_sh M q (5 + c)) (hdd : d' + 1 ≤ d) (hn : As.length = n) (hst : st = As.reverse ++ .ref q :: st') (hr8 : (st'.map fun v => v.category).sum ≤ 8)
    (k : ∀ r : β', Xc = some r → am_wt M → am_le M (em' r).2 → am_wt (em' r).2 → am_S emb G d own nm cc nL ret (pc + 3) L ((em' r).1.toList ++ st') (em' r).2 (Xk r)) :
    am_S emb G d own nm cc nL ret pc L st M (Xc.bind Xk) := by
  refine am_stepC hC hdd (fun v M1 p e R s m args below meth c0 H locs cells slots ls hwt hZ hls hH hS hfr hlo hM hf => ⟨(Value.ref (G.2.1 + q) :: As.map (am_c G.2.1)).toArray, ?_⟩) k
  have he : (am_ws G M)[q]? = some (G.2.1 + q, .inr (c, am_fs G.2.1 M q c (am_N c))) := by rw [am_ws_at (hwt.ob hs), am_e_ob]
  have hts := hZ.2.2.2.2.1
  exact va_runV (As := As.map (am_c G.2.1)) ⟨hZ.1, hZ.2.1, hZ.2.2.1, hZ.2.2.2.1, hts⟩ hM ⟨callB_of n hts (am_goodC hB.2.1) rfl rfl rfl (hts _ hB.1) (hts _ hw.1) hB.2.2.1 (am_room hfr hlo hB.2.2.2), hts _ hw.2.1, hts _ hw.2.2⟩
    ⟨am_blind G M _, va_recv hZ.2.2.2.2.2.2.2.2.1.1 hH.2 hcl he, fun U hU hW => ⟨rfl, by rw [hU]; exact hH, hZ.2.2.2.2.2.2.2.2.1.step hW hZ.2.2.2.2.2.2.2.2.2.1 (fun a ha hn => by rw [hU]; exact hS.2.1 a ha hn)⟩⟩ rfl (by rw [List.length_map]; exact hn) hls (by rw [hst]; show ((As.reverse ++ Value.ref q :: st').map (am_c G.2.1)) = _; simp [am_c]) (lv_room (by rw [am_cats]; exact hr8)) hd hf
theorem am_callS {β' : Type} {em' : β' → Option Value × am_M} {Xc : Option β'} {Xk : β' → Option β} {d' idx n : Nat} {y : MethodName} {cc' : ByteArray} {nL' : Nat} {ret' : Option FieldType} (As : List Value)
    (hC : am_C em' G d' y cc' nL' ret' As M Xc) (hd : decode cc pc = .ok (.invokestatic idx, 3)) (hB : am_mB y cc' nL' ret' n) (hw : Cond.methodLink own idx y ∈ am_T ∧ Cond.static y ∈ am_T) (hdd : d' + 1 ≤ d) (hn : As.length = n) (hst : st = As.reverse ++ st') (hr8 : (st'.map fun v => v.category).sum ≤ 8)
    (k : ∀ r : β', Xc = some r → am_wt M → am_le M (em' r).2 → am_wt (em' r).2 → am_S emb G d own nm cc nL ret (pc + 3) L ((em' r).1.toList ++ st') (em' r).2 (Xk r)) :
    am_S emb G d own nm cc nL ret pc L st M (Xc.bind Xk) := by
  refine am_stepC hC hdd (fun v M1 p e R s m args below meth c0 H locs cells slots ls hwt hZ hls hH hS hfr hlo hM hf => ⟨(As.map (am_c G.2.1)).toArray, ?_⟩) k
  have hts := hZ.2.2.2.2.1
  exact va_runS (As := As.map (am_c G.2.1)) ⟨hZ.1, hZ.2.1, hZ.2.2.1, hZ.2.2.2.1, hts⟩ hM ⟨callB_of n hts (am_goodC hB.2.1) rfl rfl rfl (hts _ hB.1) (hts _ hw.1) hB.2.2.1 (am_room hfr hlo hB.2.2.2), hts _ hw.2⟩
    ⟨am_blind G M _, fun U hU hW => ⟨rfl, by rw [hU]; exact hH, hZ.2.2.2.2.2.2.2.2.1.step hW hZ.2.2.2.2.2.2.2.2.2.1 (fun a ha hn => by rw [hU]; exact hS.2.1 a ha hn)⟩⟩ rfl (by rw [List.length_map]; exact hn) hls (by rw [hst]; show ((As.reverse ++ st').map (am_c G.2.1)) = _; simp) (lv_room (by rw [am_cats]; exact hr8)) hd hf
theorem am_callSN {β' : Type} {em' : β' → Option Value × am_M} {Xc : Option β'} {Xk : β' → Option β} {d' idx n : Nat} {y : MethodName} {cc' : ByteArray} {nL' : Nat} {ret' : Option FieldType} (As : List Value) (host : String)
    (hC : am_C em' G d' y cc' nL' ret' As M Xc) (hd : decode cc pc = .ok (.invokestatic idx, 3)) (hB : am_mB y cc' nL' ret' n) (hw : (own, idx, y, host) ∈ am_Nest ∧ Cond.static y ∈ am_T) (hdd : d' + 1 ≤ d) (hn : As.length = n) (hst : st = As.reverse ++ st') (hr8 : (st'.map fun v => v.category).sum ≤ 8)
    (k : ∀ r : β', Xc = some r → am_wt M → am_le M (em' r).2 → am_wt (em' r).2 → am_S emb G d own nm cc nL ret (pc + 3) L ((em' r).1.toList ++ st') (em' r).2 (Xk r)) :
    am_S emb G d own nm cc nL ret pc L st M (Xc.bind Xk) := by
  refine am_stepC hC hdd (fun v M1 p e R s m args below meth c0 H locs cells slots ls hwt hZ hls hH hS hfr hlo hM hf => ⟨(As.map (am_c G.2.1)).toArray, ?_⟩) k
  have hts := hZ.2.2.2.2.1
  exact va_runSN (As := As.map (am_c G.2.1)) ⟨hZ.1, hZ.2.1, hZ.2.2.1, hZ.2.2.2.1, hts⟩ hM ⟨va_cnB n hts (am_goodC hB.2.1) rfl rfl rfl (hZ.2.2.2.2.2.2.2.2.1.2.1 _ hw.1) (hts _ hB.1) hB.2.2.1 (am_room hfr hlo hB.2.2.2), hts _ hw.2, trivial⟩
    ⟨am_blind G M _, fun U hU hW => ⟨rfl, by rw [hU]; exact hH, hZ.2.2.2.2.2.2.2.2.1.step hW hZ.2.2.2.2.2.2.2.2.2.1 (fun a ha hn => by rw [hU]; exact hS.2.1 a ha hn)⟩⟩ rfl (by rw [List.length_map]; exact hn) hls (by rw [hst]; show ((As.reverse ++ st').map (am_c G.2.1)) = _; simp) (lv_room (by rw [am_cats]; exact hr8)) hd hf
theorem am_callI {β' : Type} {em' : β' → Option Value × am_M} {Xc : Option β'} {Xk : β' → Option β} {d' idx q n : Nat} {y : MethodName} {cc' : ByteArray} {nL' : Nat} (As : List Value)
    (hC : am_C em' G d' y cc' nL' none (.ref q :: As) M Xc) (hd : decode cc pc = .ok (.invokespecial idx, 3)) (hB : am_mB y cc' nL' none n) (hw : Cond.methodLink own idx y ∈ am_T ∧ Cond.instanceMethod y ∈ am_T) (hy : y.name = "<init>") (hdd : d' + 1 ≤ d) (hn : As.length = n) (hst : st = As.reverse ++ .ref q :: st') (hr8 : (st'.map fun v => v.category).sum ≤ 8)
    (k : ∀ r : β', Xc = some r → am_wt M → am_le M (em' r).2 → am_wt (em' r).2 → am_S emb G d own nm cc nL ret (pc + 3) L ((em' r).1.toList ++ st') (em' r).2 (Xk r)) :
    am_S emb G d own nm cc nL ret pc L st M (Xc.bind Xk) := by
  refine am_stepC hC hdd (fun v M1 p e R s m args below meth c0 H locs cells slots ls hwt hZ hls hH hS hfr hlo hM hf => ⟨(Value.ref (G.2.1 + q) :: As.map (am_c G.2.1)).toArray, ?_⟩) k
  have hts := hZ.2.2.2.2.1
  exact va_runI (As := As.map (am_c G.2.1)) (b := G.2.1 + q) ⟨hZ.1, hZ.2.1, hZ.2.2.1, hZ.2.2.2.1, hts⟩ hM ⟨callB_of n hts (am_goodC hB.2.1) rfl rfl rfl (hts _ hB.1) (hts _ hw.1) hB.2.2.1 (am_room hfr hlo hB.2.2.2), hy, hts _ hw.2⟩
    ⟨am_blind G M _, fun U hU hW => ⟨rfl, by rw [hU]; exact hH, hZ.2.2.2.2.2.2.2.2.1.step hW hZ.2.2.2.2.2.2.2.2.2.1 (fun a ha hn => by rw [hU]; exact hS.2.1 a ha hn)⟩⟩ rfl (by rw [List.length_map]; exact hn) hls (by rw [hst]; show ((As.reverse ++ Value.ref q :: st').map (am_c G.2.1)) = _; simp [am_c]) (lv_room (by rw [am_cats]; exact hr8)) hd hf
theorem am_callIN {β' : Type} {em' : β' → Option Value × am_M} {Xc : Option β'} {Xk : β' → Option β} {d' idx q n : Nat} {y : MethodName} {cc' : ByteArray} {nL' : Nat} (As : List Value) (host : String)
    (hC : am_C em' G d' y cc' nL' none (.ref q :: As) M Xc) (hd : decode cc pc = .ok (.invokespecial idx, 3)) (hB : am_mB y cc' nL' none n) (hw : (own, idx, y, host) ∈ am_Nest ∧ Cond.instanceMethod y ∈ am_T) (hy : y.name = "<init>") (hdd : d' + 1 ≤ d) (hn : As.length = n) (hst : st = As.reverse ++ .ref q :: st') (hr8 : (st'.map fun v => v.category).sum ≤ 8)
    (k : ∀ r : β', Xc = some r → am_wt M → am_le M (em' r).2 → am_wt (em' r).2 → am_S emb G d own nm cc nL ret (pc + 3) L ((em' r).1.toList ++ st') (em' r).2 (Xk r)) :
    am_S emb G d own nm cc nL ret pc L st M (Xc.bind Xk) := by
  refine am_stepC hC hdd (fun v M1 p e R s m args below meth c0 H locs cells slots ls hwt hZ hls hH hS hfr hlo hM hf => ⟨(Value.ref (G.2.1 + q) :: As.map (am_c G.2.1)).toArray, ?_⟩) k
  have hts := hZ.2.2.2.2.1
  exact va_runIN (As := As.map (am_c G.2.1)) (b := G.2.1 + q) ⟨hZ.1, hZ.2.1, hZ.2.2.1, hZ.2.2.2.1, hts⟩ hM ⟨va_cnB n hts (am_goodC hB.2.1) rfl rfl rfl (hZ.2.2.2.2.2.2.2.2.1.2.1 _ hw.1) (hts _ hB.1) hB.2.2.1 (am_room hfr hlo hB.2.2.2), hy, hts _ hw.2⟩
    ⟨am_blind G M _, fun U hU hW => ⟨rfl, by rw [hU]; exact hH, hZ.2.2.2.2.2.2.2.2.1.step hW hZ.2.2.2.2.2.2.2.2.2.1 (fun a ha hn => by rw [hU]; exact hS.2.1 a ha hn)⟩⟩ rfl (by rw [List.length_map]; exact hn) hls (by rw [hst]; show ((As.reverse ++ Value.ref q :: st').map (am_c G.2.1)) = _; simp [am_c]) (lv_room (by rw [am_cats]; exact hr8)) hd hf
/-- Object's constructor -/
theorem am_obj {idx q : Nat} (hd : decode cc pc = .ok (.invokespecial idx, 3)) (hw : Cond.methodLink own idx objectInit ∈ am_T ∧ Cond.instanceMethod objectInit ∈ am_T ∧ Cond.code objectInit ⟨#[0xb1]⟩ 1 none ∈ am_T) (hdd : 1 ≤ d) (hr8 : (st.map fun v => v.category).sum ≤ 8)
    (k : am_S emb G d own nm cc nL ret (pc + 3) L st M X) : am_S emb G d own nm cc nL ret pc L (.ref q :: st) M X := by
  refine am_step (fun p e R s m args below meth c0 H locs cells slots ls Q hZ hl kk => ?_) k
  have hts := hZ.2.2.2.2.1
  have hfr : 1 ≤ R.frames := Nat.le_trans hdd hZ.2.2.2.2.2.2.2.2.2.2.1
  have hlo : 64 * 1 ≤ R.locals := Nat.le_trans (Nat.mul_le_mul_left 64 hdd) hZ.2.2.2.2.2.2.2.2.2.2.2
  have h8 := lv_room (m := m) (pc := pc) (ls := ls) (rest := (st.map (am_c G.2.1))) (st := st.map (am_c G.2.1)) (by rw [am_cats]; exact hr8)
  exact W.objInit hZ.1 hZ.2.1 hZ.2.2.2.1 (hts _ hw.1) (hts _ hw.2.1) (hts _ hw.2.2) rfl (by rw [hZ.2.2.1]; exact hl.1) rfl hd hfr (by
    have h9 : 2 * (F0 m pc ls ((Value.ref q :: st).map (am_c G.2.1))).monitorRoom + ((st.map (am_c G.2.1)).map fun v => v.category).sum ≤ 8 := h8
    omega) kk
end AM3
