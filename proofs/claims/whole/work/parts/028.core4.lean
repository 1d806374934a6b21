/-! ===== what comes new ===== -/
theorem am_pushed_eq {s : State} {cA : Nat → ClassId} {D : va_G} {cl : List vw_C} {t0 : Nat} {ty : FieldType} {c0 c1 : ClassId} (hK : va_K D cl (am_tys cA) s) (ht : (am_tys cA)[t0]? = some (c0, ty)) (hK1 : va_K D cl (am_tys cA ++ [(c1, ty)]) s) : c1 = c0 := by
  have h0 := (hK.2 t0 _ ht).2
  have h1 := (hK1.2 5 (c1, ty) rfl).2
  cases ty with
  | object C =>
    obtain ⟨-, -, -, -, -, e0⟩ := h0
    obtain ⟨-, -, -, -, -, e1⟩ := h1
    exact Option.some.inj (e1.symm.trans e0)
  | _ =>
    have e0 : s.vm.findClass _ = some c0 := h0
    have e1 : s.vm.findClass _ = some c1 := h1
    exact Option.some.inj (e1.symm.trans e0)
def am_okt (t : FieldType) : Bool := match t with
  | .float => false
  | .double => false
  | _ => true
theorem am_fv_def {b : Nat} {t : FieldType} (h : am_okt t = true) : am_fv b t 0 0 none = defaultValue t := by
  cases t <;> first | rfl | cases h
section AM4
variable {G : am_G} {d : Nat} {own nm : String} {cc : ByteArray} {nL : Nat} {ret : Option FieldType} {pc pc' : Nat} {L L' : List (Nat × Value)} {st st' : List Value} {M M1 : am_M} {β : Type} {emb : β → Option Value × am_M} {X Y : Option β}
theorem am_newO {idx : Nat} (c : Nat) (hd : decode cc pc = .ok (.new idx, 3)) (hcf : am_cf c) (hok : ∀ j, j < am_N c → am_okt (am_ty c j) = true) (hw : Cond.classLink own idx (am_CN c) ∈ am_T ∧ Cond.instantiable (am_CN c) (am_N c) ∈ am_T ∧ Cond.initialized (am_CN c) ∈ am_T)
    (k : am_S emb G d own nm cc nL ret (pc + 3) L (.ref (am_n M) :: st) (am_new M (5 + c) (am_N c)) X) : am_S emb G d own nm cc nL ret pc L st M X := by
  refine am_stepN (fun _ => by rw [show 5 + c - 5 = c by omega]) (fun p e R s m args below meth c0 H locs cells slots ls Q hZ hP hS hb h1 h2 kk => ?_) k
  obtain ⟨hc, hin, hty, -⟩ := hcf
  have hts := hZ.2.2.2.2.1
  have hfs : ∀ j, j < am_N c → defaultValue (am_ty c j) = vp_V (am_fs G.2.1 (am_new M (5 + c) (am_N c)) (am_n M) c (am_N c)) j := by
    intro j hj
    unfold vp_V
    rw [List.getD_eq_getElem?_getD, am_fs_get hj]
    show _ = am_fv G.2.1 (am_ty c j) (if am_n M = am_n M then 0 else M.1 (am_n M) j) (if am_n M = am_n M then 0 else M.2.1 (am_n M) j) (if am_n M = am_n M then none else M.2.2.1 (am_n M) j)
    rw [if_pos rfl, if_pos rfl, if_pos rfl, am_fv_def (hok j hj)]
  refine va_new (D := G.2.2.1) (tys := am_tys G.2.2.2.1) hZ.1 hZ.2.1 hts hin (am_ty c) hty hZ.2.2.2.1 (hts _ hw.1) (hts _ hw.2.1) (hts _ hw.2.2) hZ.2.2.2.2.2.2.2.2.1.1 hP (am_ws_D G M) hS (fun q hq => Nat.le_trans hb hq) hc hfs h1 h2 hd (fun q H1 hP1 hD1 hS1 => kk q H1 ?_ ?_ hS1)
  · rw [am_e_ob]; exact hP1
  · rw [am_e_ob]; exact hD1
theorem am_new_I (M : am_M) (kd n : Nat) : (am_new M kd n).1 (am_n M) = fun _ => 0 := by funext i; show (if am_n M = am_n M then 0 else M.1 (am_n M) i) = 0; rw [if_pos rfl]
theorem am_new_J (M : am_M) (kd n : Nat) : (am_new M kd n).2.1 (am_n M) = fun _ => 0 := by funext i; show (if am_n M = am_n M then 0 else M.2.1 (am_n M) i) = 0; rw [if_pos rfl]
theorem am_new_R (M : am_M) (kd n : Nat) : (am_new M kd n).2.2.1 (am_n M) = fun _ => none := by funext i; show (if am_n M = am_n M then none else M.2.2.1 (am_n M) i) = none; rw [if_pos rfl]
theorem am_newaI {x : Int32} (N : Nat) (hd : decode cc pc = .ok (.newarray .int, 2)) (hw : Cond.arrayClass .int ∈ am_T) (hn : ¬ x < 0) (hN : x.toNatClampNeg = N) (hb : N * 4 ≤ 536870912)
    (k : am_S emb G d own nm cc nL ret (pc + 2) L (.ref (am_n M) :: st) (am_new M 0 N) X) : am_S emb G d own nm cc nL ret pc L (.int x :: st) M X := by
  refine am_stepN (fun h => absurd h (by decide)) (fun p e R s m args below meth c0 H locs cells slots ls Q hZ hP hS hb0 h1 h2 kk => ?_) k
  have hK := hZ.2.2.2.2.2.2.2.2.1.1
  have he : am_e G (am_new M 0 N) (am_n M) (0, N) = .inl (G.2.2.2.1 0, N, .inl (fun _ => 0)) := by
    show (Sum.inl (G.2.2.2.1 0, N, .inl ((am_new M 0 N).1 (am_n M))) : va_E) = _
    rw [am_new_I]
  refine va_newa (D := G.2.2.1) (tys := am_tys G.2.2.2.1) (atype := .int) (ty := .int) (a0 := (N, .inl (fun _ => 0))) hZ.1 hZ.2.1 (hZ.2.2.2.2.1 _ hw) rfl hK hP (am_ws_D G M) hS (fun q hq => Nat.le_trans hb0 hq) (fun cA => rfl) hn hN hb h1 h2 hd (fun q cA H1 hK1 hP1 hD1 hS1 => ?_)
  have hq := am_pushed_eq hK (t0 := 0) rfl hK1
  subst hq
  exact kk q H1 (by rw [he]; exact hP1) (by rw [he]; exact hD1) hS1
theorem am_newaJ {x : Int32} (N : Nat) (hd : decode cc pc = .ok (.newarray .long, 2)) (hw : Cond.arrayClass .long ∈ am_T) (hn : ¬ x < 0) (hN : x.toNatClampNeg = N) (hb : N * 8 ≤ 536870912)
    (k : am_S emb G d own nm cc nL ret (pc + 2) L (.ref (am_n M) :: st) (am_new M 1 N) X) : am_S emb G d own nm cc nL ret pc L (.int x :: st) M X := by
  refine am_stepN (fun h => absurd h (by decide)) (fun p e R s m args below meth c0 H locs cells slots ls Q hZ hP hS hb0 h1 h2 kk => ?_) k
  have hK := hZ.2.2.2.2.2.2.2.2.1.1
  have he : am_e G (am_new M 1 N) (am_n M) (1, N) = .inl (G.2.2.2.1 1, N, .inr (.inl (fun _ => 0))) := by
    show (Sum.inl (G.2.2.2.1 1, N, .inr (.inl ((am_new M 1 N).2.1 (am_n M)))) : va_E) = _
    rw [am_new_J]
  refine va_newa (D := G.2.2.1) (tys := am_tys G.2.2.2.1) (atype := .long) (ty := .long) (a0 := (N, .inr (.inl (fun _ => 0)))) hZ.1 hZ.2.1 (hZ.2.2.2.2.1 _ hw) rfl hK hP (am_ws_D G M) hS (fun q hq => Nat.le_trans hb0 hq) (fun cA => rfl) hn hN hb h1 h2 hd (fun q cA H1 hK1 hP1 hD1 hS1 => ?_)
  have hq := am_pushed_eq hK (t0 := 1) rfl hK1
  subst hq
  exact kk q H1 (by rw [he]; exact hP1) (by rw [he]; exact hD1) hS1
theorem am_newaC {x : Int32} (N : Nat) (hd : decode cc pc = .ok (.newarray .char, 2)) (hw : Cond.arrayClass .char ∈ am_T) (hn : ¬ x < 0) (hN : x.toNatClampNeg = N) (hb : N * 2 ≤ 536870912)
    (k : am_S emb G d own nm cc nL ret (pc + 2) L (.ref (am_n M) :: st) (am_new M 2 N) X) : am_S emb G d own nm cc nL ret pc L (.int x :: st) M X := by
  refine am_stepN (fun h => absurd h (by decide)) (fun p e R s m args below meth c0 H locs cells slots ls Q hZ hP hS hb0 h1 h2 kk => ?_) k
  have hK := hZ.2.2.2.2.2.2.2.2.1.1
  have he : am_e G (am_new M 2 N) (am_n M) (2, N) = .inl (G.2.2.2.1 2, N, .inl (fun _ => 0)) := by
    show (Sum.inl (G.2.2.2.1 2, N, .inl ((am_new M 2 N).1 (am_n M))) : va_E) = _
    rw [am_new_I]
  refine va_newa (D := G.2.2.1) (tys := am_tys G.2.2.2.1) (atype := .char) (ty := .char) (a0 := (N, .inl (fun _ => 0))) hZ.1 hZ.2.1 (hZ.2.2.2.2.1 _ hw) rfl hK hP (am_ws_D G M) hS (fun q hq => Nat.le_trans hb0 hq) (fun cA => rfl) hn hN hb h1 h2 hd (fun q cA H1 hK1 hP1 hD1 hS1 => ?_)
  have hq := am_pushed_eq hK (t0 := 2) rfl hK1
  subst hq
  exact kk q H1 (by rw [he]; exact hP1) (by rw [he]; exact hD1) hS1
/-- an array of parts -/
theorem am_newaP {x : Int32} {idx : Nat} (N : Nat) (hd : decode cc pc = .ok (.anewarray idx, 3)) (hw : Cond.classLink own idx RX4 ∈ am_T) (hn : ¬ x < 0) (hN : x.toNatClampNeg = N) (hb : N * 4 ≤ 536870912)
    (k : am_S emb G d own nm cc nL ret (pc + 3) L (.ref (am_n M) :: st) (am_new M 3 N) X) : am_S emb G d own nm cc nL ret pc L (.int x :: st) M X := by
  refine am_stepN (fun h => absurd h (by decide)) (fun p e R s m args below meth c0 H locs cells slots ls Q hZ hP hS hb0 h1 h2 kk => ?_) k
  have hK := hZ.2.2.2.2.2.2.2.2.1.1
  have he : am_e G (am_new M 3 N) (am_n M) (3, N) = .inl (G.2.2.2.1 3, N, .inr (.inr (.inr (.inr (fun _ => none))))) := by
    show (Sum.inl (G.2.2.2.1 3, N, .inr (.inr (.inr (.inr (fun j => ((am_new M 3 N).2.2.1 (am_n M) j).map (G.2.1 + ·)))))) : va_E) = _
    rw [am_new_R]; rfl
  refine va_newq (D := G.2.2.1) (tys := am_tys G.2.2.2.1) (C := RX4) hZ.1 hZ.2.1 hZ.2.2.2.1 (hZ.2.2.2.2.1 _ hw) hZ.2.2.2.2.2.2.2.2.1.2.2.1 hK hP (am_ws_D G M) hS (fun q hq => Nat.le_trans hb0 hq) hn hN hb h1 h2 hd (fun q cA H1 hK1 hP1 hD1 hS1 => ?_)
  have hq := am_pushed_eq hK (t0 := 3) rfl hK1
  subst hq
  exact kk q H1 (by rw [he]; exact hP1) (by rw [he]; exact hD1) hS1
/-- a case apart, at the same place -/
theorem am_case {P : Prop} [Decidable P] (kt : P → am_S emb G d own nm cc nL ret pc L st M X) (kf : ¬ P → am_S emb G d own nm cc nL ret pc L st M Y) : am_S emb G d own nm cc nL ret pc L st M (if P then X else Y) := by
  by_cases h : P
  · rw [if_pos h]; exact kt h
  · rw [if_neg h]; exact kf h
theorem am_swIn {x : Int32} {dflt lo hi off : Int} {offs : Array Int} {len tgt : Nat} (hd : decode cc pc = .ok (.tableswitch dflt lo hi offs, len)) (h1 : ¬ x.toInt < lo) (h2 : ¬ hi < x.toInt) (ho : offs[(x.toInt - lo).toNat]? = some off) (ht : (pc : Int) + off = (tgt : Int))
    (k : am_S emb G d own nm cc nL ret tgt L st M X) : am_S emb G d own nm cc nL ret pc L (.int x :: st) M X :=
  am_step (fun p e R s m args below meth c H locs cells slots ls Q hZ hl kk => lv_tableIn hZ.1 hZ.2.1 hd h1 h2 ho ht kk) k
theorem am_swOut {x : Int32} {dflt lo hi : Int} {offs : Array Int} {len tgt : Nat} (hd : decode cc pc = .ok (.tableswitch dflt lo hi offs, len)) (h : x.toInt < lo ∨ hi < x.toInt) (ht : (pc : Int) + dflt = (tgt : Int))
    (k : am_S emb G d own nm cc nL ret tgt L st M X) : am_S emb G d own nm cc nL ret pc L (.int x :: st) M X :=
  am_step (fun p e R s m args below meth c H locs cells slots ls Q hZ hl kk => lv_tableOut hZ.1 hZ.2.1 hd h ht kk) k
theorem am_ine {x n : Int32} (h : ¬ x = n) : x.toInt ≠ n.toInt := fun e => h (Int32.toInt_inj.mp e)
end AM4
