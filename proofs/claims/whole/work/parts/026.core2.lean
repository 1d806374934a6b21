/-! ===== the memory's rows ===== -/
/-- what is known of a class of the memory -/
def am_cf (c : Nat) : Prop := vwCl[c]? = some (am_CN c, am_TT c, am_N c) ∧ (∀ w ∈ u_ws (am_CN c) (am_TT c) (am_N c), w ∈ am_T) ∧ (∀ k, k < am_N c → parseFieldDescriptor (am_TT c k).2.2.1 = some (am_ty c k)) ∧ (∀ a, a < am_N c → ∀ b, b < am_N c → a ≠ b → (am_TT c a).2.1 ≠ (am_TT c b).2.1)
/-- a field link of a class's pool: class c's field j -/
def am_fl (own : String) (idx c j : Nat) : Prop := am_cf c ∧ j < am_N c ∧ Cond.fieldLink own idx (am_TT c j).1 (am_TT c j).2.1 (am_TT c j).2.2.1 ∈ am_T
def am_it (t : FieldType) : Bool := match t with
  | .object _ => false
  | .array _ => false
  | .long => false
  | _ => true
def am_rt (t : FieldType) : Bool := match t with
  | .object _ => true
  | .array _ => true
  | _ => false
theorem am_fv_i {b : Nat} {t : FieldType} {i : Int32} {j : Int64} {r : Option Nat} (h : am_it t = true) : am_fv b t i j r = .int i := by
  cases t <;> first | rfl | cases h
theorem am_fv_r {b : Nat} {t : FieldType} {i : Int32} {j : Int64} {r : Option Nat} (h : am_rt t = true) : am_fv b t i j r = va_rf (r.map (b + ·)) := by
  cases t <;> first | rfl | cases h
theorem am_ek_ob (c j : Nat) : am_ek (5 + c) j = am_fk c j := by
  unfold am_ek
  rw [if_neg (by omega), if_neg (by omega), show 5 + c - 5 = c by omega]
theorem am_sh_new (M : am_M) (kd n : Nat) : am_sh (am_new M kd n) (am_n M) kd := ⟨n, by
  show (M.2.2.2 ++ [(kd, n)])[M.2.2.2.length]? = _
  simp⟩
theorem am_le_new (M : am_M) (kd n : Nat) : am_le M (am_new M kd n) := ⟨[(kd, n)], rfl⟩
theorem am_S_tr {A : Nat → Prop} {H0 H H1 : Heap} {locs locs1 : List Loc} (h : va_S A H0 H locs) (h1 : va_S A H H1 locs1) : va_S A H0 H1 locs1 :=
  ⟨Nat.le_trans h.1 h1.1, fun q hq hn => (h1.2.1 q (Nat.lt_of_lt_of_le hq h.1) hn).trans (h.2.1 q hq hn), h1.2.2⟩
theorem am_S_re {A : Nat → Prop} {H0 H : Heap} {locs : List Loc} (h : va_S A H0 H locs) : va_S A H H locs := ⟨Nat.le_refl _, fun _ _ _ => rfl, h.2.2⟩
/-- how large the heap can be -/
theorem am_W_sz {p : Program} {l : Launch} {e : Env} {R : Room} {s : State} {m : MethodId} {args : Array Value} {below : List Frame} {meth : Method} {c : Code} {H : Heap} {locs : List Loc} {cells slots : Nat} {Q : State → Prop} {g : JFrame}
    (h : H.size ≤ s.heap.size + cells → W p l e R s m args below meth c H locs cells slots Q g) : W p l e R s m args below meth c H locs cells slots Q g := by
  intro T hT X
  exact h (by rw [← hT]; exact X.heapSize) T hT X
section AM2
variable {G : am_G} {d : Nat} {own nm : String} {cc : ByteArray} {nL : Nat} {ret : Option FieldType} {pc pc' : Nat} {L L' : List (Nat × Value)} {st st' : List Value} {M M1 : am_M} {β : Type} {emb : β → Option Value × am_M} {X Y : Option β}
/-- the memory is read -/
theorem am_stepH (h : ∀ (p : Program) (e : Env) (R : Room) (s : State) (m : MethodId) (args : Array Value) (below : List Frame) (meth : Method) (c : Code) (H : Heap) (locs : List Loc) (cells slots : Nat) (ls : Array Slot) (Q : State → Prop),
      am_wt M → am_Z G d own nm cc nL ret p R s m args meth c → va_P G.2.2.1 vwCl (am_ws G M) H → W p G.1 e R s m args below meth c H locs cells slots Q (F0 m pc' ls (st'.map (am_c G.2.1))) → W p G.1 e R s m args below meth c H locs cells slots Q (F0 m pc ls (st.map (am_c G.2.1))))
    (k : am_wt M → am_S emb G d own nm cc nL ret pc' L st' M X) : am_S emb G d own nm cc nL ret pc L st M X := by
  intro hwt r0 hX
  obtain ⟨hle, hw', hk⟩ := k hwt hwt r0 hX
  refine ⟨hle, hw', ?_⟩
  intro p e R s m args below meth c H locs cells slots ls hZ hl hH hS hc h1 h2
  exact h p e R s m args below meth c H locs cells slots ls _ hwt hZ hH.2 (hk p e R s m args below meth c H locs cells slots ls hZ hl hH hS hc h1 h2)
/-- the memory is written, no cell comes -/
theorem am_stepW (hs : M1.2.2.2 = M.2.2.2) (hw1 : am_wt M → am_wt M1)
    (h : ∀ (p : Program) (e : Env) (R : Room) (s : State) (m : MethodId) (args : Array Value) (below : List Frame) (meth : Method) (c : Code) (H : Heap) (locs : List Loc) (cells slots : Nat) (ls : Array Slot) (Q : State → Prop),
      am_wt M → am_Z G d own nm cc nL ret p R s m args meth c → va_P G.2.2.1 vwCl (am_ws G M) H → va_S (am_A G.2.1) H H locs → (∀ (H1 : Heap) (locs1 : List Loc), va_P G.2.2.1 vwCl (am_ws G M1) H1 → va_S (am_A G.2.1) H H1 locs1 → W p G.1 e R s m args below meth c H1 locs1 cells slots Q (F0 m pc' ls (st'.map (am_c G.2.1)))) → W p G.1 e R s m args below meth c H locs cells slots Q (F0 m pc ls (st.map (am_c G.2.1))))
    (k : am_S emb G d own nm cc nL ret pc' L st' M1 X) : am_S emb G d own nm cc nL ret pc L st M X := by
  intro hwt r0 hX
  obtain ⟨hle, hw', hk⟩ := k (hw1 hwt) r0 hX
  have hn : am_n M1 = am_n M := by show M1.2.2.2.length = _; rw [hs]
  have hsl : am_sl M1 = am_sl M := by unfold am_sl; rw [hs]
  refine ⟨?_, hw', ?_⟩
  · obtain ⟨t, ht⟩ := hle
    exact ⟨t, by rw [ht, hs]⟩
  intro p e R s m args below meth c H locs cells slots ls hZ hl hH hS hc h1 h2
  refine h p e R s m args below meth c H locs cells slots ls _ hwt hZ hH.2 (am_S_re hS) (fun H1 locs1 hP1 hS1 => am_W_sz fun hz => ?_)
  refine hk p e R s m args below meth c H1 locs1 cells slots ls hZ hl ⟨?_, hP1⟩ (am_S_tr hS hS1) (by rw [hn]; exact hc) (by rw [hn]; exact h1) (by rw [hsl]; exact h2)
  have h3 := hS1.1
  have h4 := hH.1
  rw [hn]
  omega
/-- a cell comes -/
theorem am_stepN {kd n : Nat} (hw1 : 5 ≤ kd → n = am_N (kd - 5))
    (h : ∀ (p : Program) (e : Env) (R : Room) (s : State) (m : MethodId) (args : Array Value) (below : List Frame) (meth : Method) (c : Code) (H : Heap) (locs : List Loc) (cells slots : Nat) (ls : Array Slot) (Q : State → Prop),
      am_Z G d own nm cc nL ret p R s m args meth c → va_P G.2.2.1 vwCl (am_ws G M) H → va_S (am_A G.2.1) H H locs → G.2.1 ≤ H.size → cells + 1 ≤ R.cells → slots + n ≤ R.slots → (∀ (q : Nat) (H1 : Heap), va_P G.2.2.1 vwCl (am_ws G M ++ [(q, am_e G (am_new M kd n) (am_n M) (kd, n))]) H1 → va_D (am_A G.2.1) (am_ws G M ++ [(q, am_e G (am_new M kd n) (am_n M) (kd, n))]) → va_S (am_A G.2.1) H H1 locs → W p G.1 e R s m args below meth c H1 locs (cells + 1) (slots + n) Q (F0 m pc' ls (.ref q :: st'.map (am_c G.2.1)))) → W p G.1 e R s m args below meth c H locs cells slots Q (F0 m pc ls (st.map (am_c G.2.1))))
    (k : am_S emb G d own nm cc nL ret pc' L (.ref (am_n M) :: st') (am_new M kd n) X) : am_S emb G d own nm cc nL ret pc L st M X := by
  intro hwt r0 hX
  obtain ⟨hle, hw', hk⟩ := k (hwt.new hw1) r0 hX
  have hn : am_n (am_new M kd n) = am_n M + 1 := by show (M.2.2.2 ++ [(kd, n)]).length = _; simp
  have hsl : am_sl (am_new M kd n) = am_sl M + n := by
    show ((M.2.2.2 ++ [(kd, n)]).map (fun q => q.2)).sum = _
    simp [am_sl]
  refine ⟨(am_le_new M kd n).tr hle, hw', ?_⟩
  have hn' := hle.n
  have hsl' := hle.sl
  intro p e R s m args below meth c H locs cells slots ls hZ hl hH hS hc h1 h2
  have hws : am_ws G (am_new M kd n) = am_ws G M ++ [(G.2.1 + am_n M, am_e G (am_new M kd n) (am_n M) (kd, n))] := by
    have ho : ∀ (a : Nat) (s2 : Nat × Nat), a < am_n M → am_e G (am_new M kd n) a s2 = am_e G M a s2 := by
      intro a s2 ha
      have hne : ¬ a = am_n M := by omega
      have e1 : (am_new M kd n).1 a = M.1 a := by funext i; show (if a = am_n M then 0 else M.1 a i) = _; rw [if_neg hne]
      have e2 : (am_new M kd n).2.1 a = M.2.1 a := by funext i; show (if a = am_n M then 0 else M.2.1 a i) = _; rw [if_neg hne]
      have e3 : (am_new M kd n).2.2.1 a = M.2.2.1 a := by funext i; show (if a = am_n M then none else M.2.2.1 a i) = _; rw [if_neg hne]
      unfold am_e am_fs
      rw [e1, e2, e3]
    apply List.ext_getElem?
    intro i
    rw [am_ws_get]
    show Option.map _ ((M.2.2.2 ++ [(kd, n)])[i]?) = _
    by_cases hi : i < M.2.2.2.length
    · rw [List.getElem?_append_left hi, List.getElem?_append_left (by simpa [am_ws] using hi), am_ws_get, List.getElem?_eq_getElem hi]
      simp [ho i _ hi]
    · rw [List.getElem?_append_right (by omega), List.getElem?_append_right (by simp [am_ws]; omega)]
      have hlen : (am_ws G M).length = M.2.2.2.length := by simp [am_ws]
      rw [hlen]
      by_cases he : i = M.2.2.2.length
      · subst he
        simp
      · rw [List.getElem?_eq_none (by simp; omega), List.getElem?_eq_none (by simp; omega)]
        rfl
  refine h p e R s m args below meth c H locs cells slots ls _ hZ hH.2 (am_S_re hS) (Nat.le_trans hZ.2.2.2.2.2.2.2.2.2.1 hS.1) (by omega) (by omega) (fun q H1 hP1 hD1 hS1 => am_W_sz fun hz => ?_)
  have hlen : (am_ws G M).length = am_n M := by simp [am_ws, am_n]
  have hq0 : (am_ws G M ++ [(q, am_e G (am_new M kd n) (am_n M) (kd, n))])[am_n M]? = some (q, am_e G (am_new M kd n) (am_n M) (kd, n)) := by
    rw [List.getElem?_append_right (by omega), hlen, Nat.sub_self]
    rfl
  have hq1 : q < H1.size := (hP1 _ _ hq0).lt
  have hq2 : G.2.1 ≤ q := hD1.2 _ _ hq0
  have h4 := hH.1
  have hq3 : ¬ q < G.2.1 + am_n M := by
    intro hlt
    have hk2 : q - G.2.1 < am_n M := by omega
    have hs2 : M.2.2.2[q - G.2.1]? = some M.2.2.2[q - G.2.1] := List.getElem?_eq_getElem hk2
    have h5 : (am_ws G M ++ [(q, am_e G (am_new M kd n) (am_n M) (kd, n))])[q - G.2.1]? = some (G.2.1 + (q - G.2.1), am_e G M (q - G.2.1) M.2.2.2[q - G.2.1]) := by
      rw [List.getElem?_append_left (by omega)]
      exact am_ws_at hs2
    have h6 := hD1.1 _ _ _ _ h5 hq0 (by show G.2.1 + (q - G.2.1) = q; omega)
    omega
  have hq : q = G.2.1 + am_n M := by omega
  subst hq
  refine hk p e R s m args below meth c H1 locs (cells + 1) (slots + n) ls hZ hl ⟨?_, ?_⟩ (am_S_tr hS hS1) (by rw [hn]; omega) (by rw [hn]; omega) (by rw [hsl]; omega)
  · rw [hn]
    omega
  · rw [hws]
    exact hP1
theorem am_getI {q j idx : Nat} (c : Nat) (hd : decode cc pc = .ok (.getfield idx, 3)) (hf : am_fl own idx c j) (hs : am_sh M q (5 + c)) (ht : am_it (am_ty c j) = true)
    (k : am_S emb G d own nm cc nL ret (pc + 3) L (.int (M.1 q j) :: st) M X) : am_S emb G d own nm cc nL ret pc L (.ref q :: st) M X := by
  refine am_stepH (fun p e R s m args below meth c0 H locs cells slots ls Q hwt hZ hP kk => ?_) (fun _ => k)
  obtain ⟨⟨hc, hin, -, -⟩, hj, hw⟩ := hf
  have he : (am_ws G M)[q]? = some (G.2.1 + q, .inr (c, am_fs G.2.1 M q c (am_N c))) := by rw [am_ws_at (hwt.ob hs), am_e_ob]
  refine va_get (D := G.2.2.1) (tys := am_tys G.2.2.2.1) hZ.1 hZ.2.1 hZ.2.2.2.2.1 hin hZ.2.2.2.1 hZ.2.2.2.2.2.2.2.2.1.1 hP q he hc j hj (hZ.2.2.2.2.1 _ hw) (fun _ h9 => h9) (am_fs_get hj) hd ?_
  rw [am_fv_i ht]
  exact kk
theorem am_getR {q j idx : Nat} (c : Nat) {Xk : Nat → Option β} (hd : decode cc pc = .ok (.getfield idx, 3)) (hf : am_fl own idx c j) (hs : am_sh M q (5 + c)) (ht : am_rt (am_ty c j) = true)
    (k : ∀ r : Nat, M.2.2.1 q j = some r → am_sh M r (am_fk c j) → am_S emb G d own nm cc nL ret (pc + 3) L (.ref r :: st) M (Xk r)) : am_S emb G d own nm cc nL ret pc L (.ref q :: st) M ((M.2.2.1 q j).bind Xk) := by
  cases hr : M.2.2.1 q j with
  | none => exact am_none
  | some r =>
    refine am_stepH (pc' := pc + 3) (st' := .ref r :: st) (fun p e R s m args below meth c0 H locs cells slots ls Q hwt hZ hP kk => ?_) (fun hwt => k r hr (by rw [← am_ek_ob]; exact hwt.rf hs hr))
    obtain ⟨⟨hc, hin, -, -⟩, hj, hw⟩ := hf
    have he : (am_ws G M)[q]? = some (G.2.1 + q, .inr (c, am_fs G.2.1 M q c (am_N c))) := by rw [am_ws_at (hwt.ob hs), am_e_ob]
    refine va_get (D := G.2.2.1) (tys := am_tys G.2.2.2.1) hZ.1 hZ.2.1 hZ.2.2.2.2.1 hin hZ.2.2.2.1 hZ.2.2.2.2.2.2.2.2.1.1 hP q he hc j hj (hZ.2.2.2.2.1 _ hw) (fun _ h9 => h9) (am_fs_get hj) hd ?_
    rw [am_fv_r ht, hr]
    exact kk
/-- an int field (not narrowed: .int; boolean, char ..: hn, hfit say that it fits) -/
theorem am_putI {q j idx : Nat} {x : Int32} (c : Nat) (hd : decode cc pc = .ok (.putfield idx, 3)) (hf : am_fl own idx c j) (hs : am_sh M q (5 + c)) (ht : am_it (am_ty c j) = true) (hn : narrow (am_ty c j) (.int x) = .int x) (hfit : fits (am_ty c j) (.int x) = true) (hfin : (am_TT c j).2.2.2 = false)
    (k : am_S emb G d own nm cc nL ret (pc + 3) L st (am_pI M q j x) X) : am_S emb G d own nm cc nL ret pc L (.int x :: .ref q :: st) M X := by
  refine am_stepW (M1 := am_pI M q j x) rfl (fun h => h.pI q j x) (fun p e R s m args below meth c0 H locs cells slots ls Q hwt hZ hP hS kk => ?_) k
  obtain ⟨⟨hc, hin, hty, hnm⟩, hj, hw⟩ := hf
  have hsh := hwt.ob hs
  have he : (am_ws G M)[q]? = some (G.2.1 + q, .inr (c, am_fs G.2.1 M q c (am_N c))) := by rw [am_ws_at hsh, am_e_ob]
  refine va_put (D := G.2.2.1) (tys := am_tys G.2.2.2.1) (v := .int x) hZ.1 hZ.2.1 hZ.2.2.2.2.1 hin (am_ty c) hty hnm hZ.2.2.2.1 hZ.2.2.2.2.2.2.2.2.1.1 hP (am_ws_D G M) hS q he hc j hj (hZ.2.2.2.2.1 _ hw) (fun _ h9 => h9) hfin (hty j hj) hn hfit (by rw [am_fs_len]; exact hj) hd (fun H1 locs1 hP1 _ hS1 => kk H1 locs1 ?_ hS1)
  rw [am_ws_ext (M := M) (M' := am_pI M q j x) rfl hsh (fun a s2 h => am_e_pI a s2 h), am_e_ob, am_fs_set (M := M) (v := .int x) hj (by rw [am_fv_i ht]; simp [am_pI, am_up]) (fun i hi => by
    have e1 : (am_pI M q j x).1 q i = M.1 q i := by simp [am_pI, am_up, hi]
    rw [e1]; rfl)]
  exact hP1
/-- a final int field in its own constructor -/
theorem am_putFI {q j idx : Nat} {x : Int32} (c : Nat) (hd : decode cc pc = .ok (.putfield idx, 3)) (hf : am_fl own idx c j) (hs : am_sh M q (5 + c)) (ht : am_it (am_ty c j) = true) (hn : narrow (am_ty c j) (.int x) = .int x) (hfit : fits (am_ty c j) (.int x) = true) (hfin : (am_TT c j).2.2.2 = true) (hin2 : nm = "<init>") (hdecl : (am_TT c j).1 = own)
    (k : am_S emb G d own nm cc nL ret (pc + 3) L st (am_pI M q j x) X) : am_S emb G d own nm cc nL ret pc L (.int x :: .ref q :: st) M X := by
  refine am_stepW (M1 := am_pI M q j x) rfl (fun h => h.pI q j x) (fun p e R s m args below meth c0 H locs cells slots ls Q hwt hZ hP hS kk => ?_) k
  obtain ⟨⟨hc, hin, hty, hnm⟩, hj, hw⟩ := hf
  have hsh := hwt.ob hs
  have he : (am_ws G M)[q]? = some (G.2.1 + q, .inr (c, am_fs G.2.1 M q c (am_N c))) := by rw [am_ws_at hsh, am_e_ob]
  refine va_putF (D := G.2.2.1) (tys := am_tys G.2.2.2.1) (v := .int x) hZ.1 hZ.2.1 hZ.2.2.2.2.1 hin (am_ty c) hty hnm hZ.2.2.2.1 hZ.2.2.2.2.2.2.2.2.1.1 hP (am_ws_D G M) hS q he hc j hj (hZ.2.2.2.2.1 _ hw) (fun _ h9 => h9) hfin (by rw [hZ.2.2.2.2.2.2.2.1]; exact hin2) hdecl (hty j hj) hn hfit (by rw [am_fs_len]; exact hj) hd (fun H1 locs1 hP1 _ hS1 => kk H1 locs1 ?_ hS1)
  rw [am_ws_ext (M := M) (M' := am_pI M q j x) rfl hsh (fun a s2 h => am_e_pI a s2 h), am_e_ob, am_fs_set (M := M) (v := .int x) hj (by rw [am_fv_i ht]; simp [am_pI, am_up]) (fun i hi => by
    have e1 : (am_pI M q j x).1 q i = M.1 q i := by simp [am_pI, am_up, hi]
    rw [e1]; rfl)]
  exact hP1
theorem am_fit_r {t : FieldType} (h : am_rt t = true) (a : Nat) : narrow t (.ref a) = .ref a ∧ fits t (.ref a) = true := by
  cases t <;> first | exact ⟨rfl, rfl⟩ | cases h
theorem am_putR {q j idx r : Nat} (c : Nat) (hd : decode cc pc = .ok (.putfield idx, 3)) (hf : am_fl own idx c j) (hs : am_sh M q (5 + c)) (ht : am_rt (am_ty c j) = true) (hr : am_sh M r (am_fk c j)) (hfin : (am_TT c j).2.2.2 = false)
    (k : am_S emb G d own nm cc nL ret (pc + 3) L st (am_pR M q j (some r)) X) : am_S emb G d own nm cc nL ret pc L (.ref r :: .ref q :: st) M X := by
  refine am_stepW (M1 := am_pR M q j (some r)) rfl (fun h => h.pR hs (by rw [am_ek_ob]; exact hr)) (fun p e R s m args below meth c0 H locs cells slots ls Q hwt hZ hP hS kk => ?_) k
  obtain ⟨⟨hc, hin, hty, hnm⟩, hj, hw⟩ := hf
  have hsh := hwt.ob hs
  have he : (am_ws G M)[q]? = some (G.2.1 + q, .inr (c, am_fs G.2.1 M q c (am_N c))) := by rw [am_ws_at hsh, am_e_ob]
  refine va_put (D := G.2.2.1) (tys := am_tys G.2.2.2.1) (v := .ref (G.2.1 + r)) hZ.1 hZ.2.1 hZ.2.2.2.2.1 hin (am_ty c) hty hnm hZ.2.2.2.1 hZ.2.2.2.2.2.2.2.2.1.1 hP (am_ws_D G M) hS q he hc j hj (hZ.2.2.2.2.1 _ hw) (fun _ h9 => h9) hfin (hty j hj) (am_fit_r ht _).1 (am_fit_r ht _).2 (by rw [am_fs_len]; exact hj) hd (fun H1 locs1 hP1 _ hS1 => kk H1 locs1 ?_ hS1)
  rw [am_ws_ext (M := M) (M' := am_pR M q j (some r)) rfl hsh (fun a s2 h => am_e_pR a s2 h), am_e_ob, am_fs_set (M := M) (v := .ref (G.2.1 + r)) hj (by rw [am_fv_r ht]; simp [am_pR, am_up, va_rf]) (fun i hi => by
    have e1 : (am_pR M q j (some r)).2.2.1 q i = M.2.2.1 q i := by simp [am_pR, am_up, hi]
    rw [e1]; rfl)]
  exact hP1
theorem am_putFR {q j idx r : Nat} (c : Nat) (hd : decode cc pc = .ok (.putfield idx, 3)) (hf : am_fl own idx c j) (hs : am_sh M q (5 + c)) (ht : am_rt (am_ty c j) = true) (hr : am_sh M r (am_fk c j)) (hfin : (am_TT c j).2.2.2 = true) (hin2 : nm = "<init>") (hdecl : (am_TT c j).1 = own)
    (k : am_S emb G d own nm cc nL ret (pc + 3) L st (am_pR M q j (some r)) X) : am_S emb G d own nm cc nL ret pc L (.ref r :: .ref q :: st) M X := by
  refine am_stepW (M1 := am_pR M q j (some r)) rfl (fun h => h.pR hs (by rw [am_ek_ob]; exact hr)) (fun p e R s m args below meth c0 H locs cells slots ls Q hwt hZ hP hS kk => ?_) k
  obtain ⟨⟨hc, hin, hty, hnm⟩, hj, hw⟩ := hf
  have hsh := hwt.ob hs
  have he : (am_ws G M)[q]? = some (G.2.1 + q, .inr (c, am_fs G.2.1 M q c (am_N c))) := by rw [am_ws_at hsh, am_e_ob]
  refine va_putF (D := G.2.2.1) (tys := am_tys G.2.2.2.1) (v := .ref (G.2.1 + r)) hZ.1 hZ.2.1 hZ.2.2.2.2.1 hin (am_ty c) hty hnm hZ.2.2.2.1 hZ.2.2.2.2.2.2.2.2.1.1 hP (am_ws_D G M) hS q he hc j hj (hZ.2.2.2.2.1 _ hw) (fun _ h9 => h9) hfin (by rw [hZ.2.2.2.2.2.2.2.1]; exact hin2) hdecl (hty j hj) (am_fit_r ht _).1 (am_fit_r ht _).2 (by rw [am_fs_len]; exact hj) hd (fun H1 locs1 hP1 _ hS1 => kk H1 locs1 ?_ hS1)
  rw [am_ws_ext (M := M) (M' := am_pR M q j (some r)) rfl hsh (fun a s2 h => am_e_pR a s2 h), am_e_ob, am_fs_set (M := M) (v := .ref (G.2.1 + r)) hj (by rw [am_fv_r ht]; simp [am_pR, am_up, va_rf]) (fun i hi => by
    have e1 : (am_pR M q j (some r)).2.2.1 q i = M.2.2.1 q i := by simp [am_pR, am_up, hi]
    rw [e1]; rfl)]
  exact hP1
/-! arrays -/
theorem am_iald {q : Nat} {i : Int32} (hd : decode cc pc = .ok (.iaload, 1)) (hs : am_sh M q 0)
    (k : ¬ (i < 0 ∨ am_len M q ≤ i.toNatClampNeg) → am_S emb G d own nm cc nL ret (pc + 1) L (.int (M.1 q i.toNatClampNeg) :: st) M X) : am_S emb G d own nm cc nL ret pc L (.int i :: .ref q :: st) M (if i < 0 ∨ am_len M q ≤ i.toNatClampNeg then none else X) := by
  by_cases h : i < 0 ∨ am_len M q ≤ i.toNatClampNeg
  · rw [if_pos h]; exact am_none
  · rw [if_neg h]
    refine am_stepH (fun p e R s m args below meth c0 H locs cells slots ls Q hwt hZ hP kk => ?_) (fun _ => k h)
    have he : (am_ws G M)[q]? = some (G.2.1 + q, .inl (G.2.2.2.1 0, am_len M q, .inl (M.1 q))) := am_ws_at hs.at
    exact va_iald (D := G.2.2.1) (tys := am_tys G.2.2.2.1) hZ.1 hZ.2.1 hZ.2.2.2.2.2.2.2.2.1.1 hP q 0 he rfl h hd kk
theorem am_cald {q : Nat} {i : Int32} (hd : decode cc pc = .ok (.caload, 1)) (hs : am_sh M q 2)
    (k : ¬ (i < 0 ∨ am_len M q ≤ i.toNatClampNeg) → am_S emb G d own nm cc nL ret (pc + 1) L (.int (M.1 q i.toNatClampNeg) :: st) M X) : am_S emb G d own nm cc nL ret pc L (.int i :: .ref q :: st) M (if i < 0 ∨ am_len M q ≤ i.toNatClampNeg then none else X) := by
  by_cases h : i < 0 ∨ am_len M q ≤ i.toNatClampNeg
  · rw [if_pos h]; exact am_none
  · rw [if_neg h]
    refine am_stepH (fun p e R s m args below meth c0 H locs cells slots ls Q hwt hZ hP kk => ?_) (fun _ => k h)
    have he : (am_ws G M)[q]? = some (G.2.1 + q, .inl (G.2.2.2.1 2, am_len M q, .inl (M.1 q))) := am_ws_at hs.at
    exact va_cald (D := G.2.2.1) (tys := am_tys G.2.2.2.1) hZ.1 hZ.2.1 hZ.2.2.2.2.2.2.2.2.1.1 hP q 2 he rfl h hd kk
theorem am_lald {q : Nat} {i : Int32} (hd : decode cc pc = .ok (.laload, 1)) (hs : am_sh M q 1)
    (k : ¬ (i < 0 ∨ am_len M q ≤ i.toNatClampNeg) → am_S emb G d own nm cc nL ret (pc + 1) L (.long (M.2.1 q i.toNatClampNeg) :: st) M X) : am_S emb G d own nm cc nL ret pc L (.int i :: .ref q :: st) M (if i < 0 ∨ am_len M q ≤ i.toNatClampNeg then none else X) := by
  by_cases h : i < 0 ∨ am_len M q ≤ i.toNatClampNeg
  · rw [if_pos h]; exact am_none
  · rw [if_neg h]
    refine am_stepH (fun p e R s m args below meth c0 H locs cells slots ls Q hwt hZ hP kk => ?_) (fun _ => k h)
    have he : (am_ws G M)[q]? = some (G.2.1 + q, .inl (G.2.2.2.1 1, am_len M q, .inr (.inl (M.2.1 q)))) := am_ws_at hs.at
    exact va_lald (D := G.2.2.1) (tys := am_tys G.2.2.2.1) hZ.1 hZ.2.1 hZ.2.2.2.2.2.2.2.2.1.1 hP q 1 he rfl h hd kk
theorem am_iast {q : Nat} {i x : Int32} (hd : decode cc pc = .ok (.iastore, 1)) (hs : am_sh M q 0)
    (k : ¬ (i < 0 ∨ am_len M q ≤ i.toNatClampNeg) → am_S emb G d own nm cc nL ret (pc + 1) L st (am_pI M q i.toNatClampNeg x) X) : am_S emb G d own nm cc nL ret pc L (.int x :: .int i :: .ref q :: st) M (if i < 0 ∨ am_len M q ≤ i.toNatClampNeg then none else X) := by
  by_cases h : i < 0 ∨ am_len M q ≤ i.toNatClampNeg
  · rw [if_pos h]; exact am_none
  · rw [if_neg h]
    refine am_stepW (M1 := am_pI M q i.toNatClampNeg x) rfl (fun h => h.pI q _ x) (fun p e R s m args below meth c0 H locs cells slots ls Q hwt hZ hP hS kk => ?_) (k h)
    have he : (am_ws G M)[q]? = some (G.2.1 + q, .inl (G.2.2.2.1 0, am_len M q, .inl (M.1 q))) := am_ws_at hs.at
    refine va_iast (D := G.2.2.1) (tys := am_tys G.2.2.2.1) hZ.1 hZ.2.1 hZ.2.2.2.2.2.2.2.2.1.1 hP (am_ws_D G M) hS q 0 he rfl h hd (fun H1 locs1 hP1 _ hS1 => kk H1 locs1 ?_ hS1)
    rw [am_ws_ext (M := M) (M' := am_pI M q i.toNatClampNeg x) rfl hs.at (fun a s2 h => am_e_pI a s2 h)]
    have e1 : am_e G (am_pI M q i.toNatClampNeg x) q (0, am_len M q) = .inl (G.2.2.2.1 0, am_len M q, .inl (upd (M.1 q) i.toNatClampNeg x)) := by
      show (Sum.inl (G.2.2.2.1 0, am_len M q, .inl (am_up M.1 q i.toNatClampNeg x q)) : va_E) = _
      rw [am_up_row]; rfl
    rw [e1]
    exact hP1
theorem am_cast {q : Nat} {i x : Int32} (hd : decode cc pc = .ok (.castore, 1)) (hs : am_sh M q 2)
    (k : ¬ (i < 0 ∨ am_len M q ≤ i.toNatClampNeg) → am_S emb G d own nm cc nL ret (pc + 1) L st (am_pI M q i.toNatClampNeg (vp_nar .char x)) X) : am_S emb G d own nm cc nL ret pc L (.int x :: .int i :: .ref q :: st) M (if i < 0 ∨ am_len M q ≤ i.toNatClampNeg then none else X) := by
  by_cases h : i < 0 ∨ am_len M q ≤ i.toNatClampNeg
  · rw [if_pos h]; exact am_none
  · rw [if_neg h]
    refine am_stepW (M1 := am_pI M q i.toNatClampNeg (vp_nar .char x)) rfl (fun h => h.pI q _ _) (fun p e R s m args below meth c0 H locs cells slots ls Q hwt hZ hP hS kk => ?_) (k h)
    have he : (am_ws G M)[q]? = some (G.2.1 + q, .inl (G.2.2.2.1 2, am_len M q, .inl (M.1 q))) := am_ws_at hs.at
    refine va_cast (D := G.2.2.1) (tys := am_tys G.2.2.2.1) hZ.1 hZ.2.1 hZ.2.2.2.2.2.2.2.2.1.1 hP (am_ws_D G M) hS q 2 he rfl h hd (fun H1 locs1 hP1 _ hS1 => kk H1 locs1 ?_ hS1)
    rw [am_ws_ext (M := M) (M' := am_pI M q i.toNatClampNeg (vp_nar .char x)) rfl hs.at (fun a s2 h => am_e_pI a s2 h)]
    have e1 : am_e G (am_pI M q i.toNatClampNeg (vp_nar .char x)) q (2, am_len M q) = .inl (G.2.2.2.1 2, am_len M q, .inl (upd (M.1 q) i.toNatClampNeg (vp_nar .char x))) := by
      show (Sum.inl (G.2.2.2.1 2, am_len M q, .inl (am_up M.1 q i.toNatClampNeg (vp_nar .char x) q)) : va_E) = _
      rw [am_up_row]; rfl
    rw [e1]
    exact hP1
theorem am_last {q : Nat} {i : Int32} {x : Int64} (hd : decode cc pc = .ok (.lastore, 1)) (hs : am_sh M q 1)
    (k : ¬ (i < 0 ∨ am_len M q ≤ i.toNatClampNeg) → am_S emb G d own nm cc nL ret (pc + 1) L st (am_pJ M q i.toNatClampNeg x) X) : am_S emb G d own nm cc nL ret pc L (.long x :: .int i :: .ref q :: st) M (if i < 0 ∨ am_len M q ≤ i.toNatClampNeg then none else X) := by
  by_cases h : i < 0 ∨ am_len M q ≤ i.toNatClampNeg
  · rw [if_pos h]; exact am_none
  · rw [if_neg h]
    refine am_stepW (M1 := am_pJ M q i.toNatClampNeg x) rfl (fun h => h.pJ q _ x) (fun p e R s m args below meth c0 H locs cells slots ls Q hwt hZ hP hS kk => ?_) (k h)
    have he : (am_ws G M)[q]? = some (G.2.1 + q, .inl (G.2.2.2.1 1, am_len M q, .inr (.inl (M.2.1 q)))) := am_ws_at hs.at
    refine va_last (D := G.2.2.1) (tys := am_tys G.2.2.2.1) hZ.1 hZ.2.1 hZ.2.2.2.2.2.2.2.2.1.1 hP (am_ws_D G M) hS q 1 he rfl h hd (fun H1 locs1 hP1 _ hS1 => kk H1 locs1 ?_ hS1)
    rw [am_ws_ext (M := M) (M' := am_pJ M q i.toNatClampNeg x) rfl hs.at (fun a s2 h => am_e_pJ a s2 h)]
    have e1 : am_e G (am_pJ M q i.toNatClampNeg x) q (1, am_len M q) = .inl (G.2.2.2.1 1, am_len M q, .inr (.inl (vp_updL (M.2.1 q) i.toNatClampNeg x))) := by
      show (Sum.inl (G.2.2.2.1 1, am_len M q, .inr (.inl (am_up M.2.1 q i.toNatClampNeg x q))) : va_E) = _
      rw [am_up_row]; rfl
    rw [e1]
    exact hP1
theorem am_alen {q kd : Nat} (hd : decode cc pc = .ok (.arraylength, 1)) (hs : am_sh M q kd) (hk : kd < 5)
    (k : am_S emb G d own nm cc nL ret (pc + 1) L (.int (Int32.ofNat (am_len M q)) :: st) M X) : am_S emb G d own nm cc nL ret pc L (.ref q :: st) M X := by
  refine am_stepH (fun p e R s m args below meth c0 H locs cells slots ls Q hwt hZ hP kk => ?_) (fun _ => k)
  have h0 := am_ws_at (G := G) hs.at
  rcases (show kd = 0 ∨ kd = 1 ∨ kd = 2 ∨ kd = 3 ∨ kd = 4 by omega) with rfl | rfl | rfl | rfl | rfl
  · exact va_alen (D := G.2.2.1) (tys := am_tys G.2.2.2.1) hZ.1 hZ.2.1 hZ.2.2.2.2.2.2.2.2.1.1 hP q 0 (cA := G.2.2.2.1 0) (x := (am_len M q, .inl (M.1 q))) h0 (ty := .int) rfl rfl hd kk
  · exact va_alen (D := G.2.2.1) (tys := am_tys G.2.2.2.1) hZ.1 hZ.2.1 hZ.2.2.2.2.2.2.2.2.1.1 hP q 1 (cA := G.2.2.2.1 1) (x := (am_len M q, .inr (.inl (M.2.1 q)))) h0 (ty := .long) rfl rfl hd kk
  · exact va_alen (D := G.2.2.1) (tys := am_tys G.2.2.2.1) hZ.1 hZ.2.1 hZ.2.2.2.2.2.2.2.2.1.1 hP q 2 (cA := G.2.2.2.1 2) (x := (am_len M q, .inl (M.1 q))) h0 (ty := .char) rfl rfl hd kk
  · exact va_alen (D := G.2.2.1) (tys := am_tys G.2.2.2.1) hZ.1 hZ.2.1 hZ.2.2.2.2.2.2.2.2.1.1 hP q 3 (cA := G.2.2.2.1 3) (x := (am_len M q, .inr (.inr (.inr (.inr (fun j => (M.2.2.1 q j).map (G.2.1 + ·))))))) h0 (ty := .object RX4) rfl rfl hd kk
  · exact va_alen (D := G.2.2.1) (tys := am_tys G.2.2.2.1) hZ.1 hZ.2.1 hZ.2.2.2.2.2.2.2.2.1.1 hP q 4 (cA := G.2.2.2.1 4) (x := (am_len M q, .inr (.inr (.inr (.inr (fun j => (M.2.2.1 q j).map (G.2.1 + ·))))))) h0 (ty := .array .int) rfl rfl hd kk
theorem am_aald {q kd : Nat} {i : Int32} {Xk : Nat → Option β} (hd : decode cc pc = .ok (.aaload, 1)) (hs : am_sh M q kd) (hkd : kd = 3 ∨ kd = 4)
    (k : ∀ r : Nat, ¬ (i < 0 ∨ am_len M q ≤ i.toNatClampNeg) → M.2.2.1 q i.toNatClampNeg = some r → am_sh M r (am_ek kd i.toNatClampNeg) → am_S emb G d own nm cc nL ret (pc + 1) L (.ref r :: st) M (Xk r)) : am_S emb G d own nm cc nL ret pc L (.int i :: .ref q :: st) M (if i < 0 ∨ am_len M q ≤ i.toNatClampNeg then none else (M.2.2.1 q i.toNatClampNeg).bind Xk) := by
  by_cases h : i < 0 ∨ am_len M q ≤ i.toNatClampNeg
  · rw [if_pos h]; exact am_none
  · rw [if_neg h]
    cases hr : M.2.2.1 q i.toNatClampNeg with
    | none => exact am_none
    | some r =>
      refine am_stepH (pc' := pc + 1) (st' := .ref r :: st) (fun p e R s m args below meth c0 H locs cells slots ls Q hwt hZ hP kk => ?_) (fun hwt => k r h hr (hwt.rf hs hr))
      have h0 := am_ws_at (G := G) hs.at
      have hlt : i.toNatClampNeg < am_len M q := Nat.not_le.mp fun z => h (Or.inr z)
      have hsz : ∀ (cA : ClassId) (f : Nat → Option Nat), ¬ (i < 0 ∨ (vp_cell cA (am_len M q, .inr (.inr (.inr (.inr f))))).slots.size ≤ i.toNatClampNeg) := by
        intro cA f
        show ¬ (i < 0 ∨ (arrV _ _ _).slots.size ≤ _)
        rw [arrV_size]
        exact h
      have hval : ∀ (cA : ClassId), (vp_cell cA (am_len M q, .inr (.inr (.inr (.inr (fun j => (M.2.2.1 q j).map (G.2.1 + ·))))))).slots[i.toNatClampNeg]? = some (.ref (G.2.1 + r)) := by
        intro cA
        show (arrV _ _ _).slots[i.toNatClampNeg]? = _
        simp [arrV, hlt, hr, va_rf]
      rcases hkd with rfl | rfl
      · exact W.aald hZ.1 hZ.2.1 (hP q _ h0) ((hZ.2.2.2.2.2.2.2.2.1.1.2 3 _ rfl).1 _ _) rfl (fun z => by cases z) (hsz _ _) (hval _) rfl rfl hd kk
      · exact W.aald hZ.1 hZ.2.1 (hP q _ h0) ((hZ.2.2.2.2.2.2.2.2.1.1.2 4 _ rfl).1 _ _) rfl (fun z => by cases z) (hsz _ _) (hval _) rfl rfl hd kk
theorem am_aast {q r : Nat} {i : Int32} (hd : decode cc pc = .ok (.aastore, 1)) (hs : am_sh M q 3) (hr : am_sh M r (5 + 3))
    (k : ¬ (i < 0 ∨ am_len M q ≤ i.toNatClampNeg) → am_S emb G d own nm cc nL ret (pc + 1) L st (am_pR M q i.toNatClampNeg (some r)) X) : am_S emb G d own nm cc nL ret pc L (.ref r :: .int i :: .ref q :: st) M (if i < 0 ∨ am_len M q ≤ i.toNatClampNeg then none else X) := by
  by_cases h : i < 0 ∨ am_len M q ≤ i.toNatClampNeg
  · rw [if_pos h]; exact am_none
  · rw [if_neg h]
    refine am_stepW (M1 := am_pR M q i.toNatClampNeg (some r)) rfl (fun h => h.pR hs hr) (fun p e R s m args below meth c0 H locs cells slots ls Q hwt hZ hP hS kk => ?_) (k h)
    have he : (am_ws G M)[q]? = some (G.2.1 + q, .inl (G.2.2.2.1 3, am_len M q, .inr (.inr (.inr (.inr (fun j => (M.2.2.1 q j).map (G.2.1 + ·))))))) := am_ws_at hs.at
    have hv : (am_ws G M)[r]? = some (G.2.1 + r, .inr (3, am_fs G.2.1 M r 3 (am_N 3))) := by rw [am_ws_at (hwt.ob hr), am_e_ob]
    refine va_astq (D := G.2.2.1) (tys := am_tys G.2.2.2.1) (r := (RX4, TX4, 6)) hZ.1 hZ.2.1 hZ.2.2.2.2.2.2.2.2.1.1 hP (am_ws_D G M) hS q 3 r 3 he rfl hv rfl h hd (fun H1 locs1 hP1 _ hS1 => kk H1 locs1 ?_ hS1)
    rw [am_ws_ext (M := M) (M' := am_pR M q i.toNatClampNeg (some r)) rfl hs.at (fun a s2 h => am_e_pR a s2 h)]
    have e1 : am_e G (am_pR M q i.toNatClampNeg (some r)) q (3, am_len M q) = .inl (G.2.2.2.1 3, am_len M q, .inr (.inr (.inr (.inr (va_up (fun j => (M.2.2.1 q j).map (G.2.1 + ·)) i.toNatClampNeg (some (G.2.1 + r))))))) := by
      show (Sum.inl (G.2.2.2.1 3, am_len M q, .inr (.inr (.inr (.inr (fun j => (am_up M.2.2.1 q i.toNatClampNeg (some r) q j).map (G.2.1 + ·)))))) : va_E) = _
      rw [am_up_row]
      congr 7
      funext j
      by_cases hj : j = i.toNatClampNeg
      · simp [va_up, hj]
      · simp [va_up, hj]
    rw [e1]
    exact hP1
end AM2
