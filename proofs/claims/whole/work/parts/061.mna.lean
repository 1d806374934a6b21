/-! ===== new int[n][k]: the outer array at the next place, its rows behind it ===== -/
def am_mna (M : am_M) (a b : Nat) : am_M := (fun p i => if am_n M ≤ p then 0 else M.1 p i, fun p i => if am_n M ≤ p then 0 else M.2.1 p i, fun p i => if p = am_n M then (if i < a then some (am_n M + 1 + i) else none) else if am_n M ≤ p then none else M.2.2.1 p i, M.2.2.2 ++ ((4, a) :: List.replicate a (0, b)))
theorem am_mna_at {M : am_M} {a b : Nat} {p : Nat} : (am_mna M a b).2.2.2[p]? = if p < am_n M then M.2.2.2[p]? else if p = am_n M then some (4, a) else if p < am_n M + 1 + a then some (0, b) else none := by
  show (M.2.2.2 ++ ((4, a) :: List.replicate a (0, b)))[p]? = _
  by_cases h1 : p < am_n M
  · rw [if_pos h1, List.getElem?_append_left h1]
  · have h1' : ¬ p < M.2.2.2.length := h1
    rw [if_neg h1, List.getElem?_append_right (by omega)]
    by_cases h2 : p = am_n M
    · rw [if_pos h2, h2, Nat.sub_self]
      rfl
    · rw [if_neg h2]
      have e : p - M.2.2.2.length = (p - am_n M - 1) + 1 := by show p - am_n M = _; omega
      rw [e, List.getElem?_cons_succ, List.getElem?_replicate]
      by_cases h3 : p < am_n M + 1 + a
      · rw [if_pos h3, if_pos (by omega)]
      · rw [if_neg h3, if_neg (by omega)]
theorem am_le_mna (M : am_M) (a b : Nat) : am_le M (am_mna M a b) := ⟨_, rfl⟩
theorem am_wt.mna {M : am_M} (h : am_wt M) (a b : Nat) : am_wt (am_mna M a b) := by
  intro k kd n hk
  rw [am_mna_at] at hk
  by_cases h1 : k < am_n M
  · rw [if_pos h1] at hk
    refine ⟨(h k kd n hk).1, fun j q hq => ?_⟩
    have hq : (if k = am_n M then (if j < a then some (am_n M + 1 + j) else none) else if am_n M ≤ k then none else M.2.2.1 k j) = some q := hq
    rw [if_neg (by omega), if_neg (by omega)] at hq
    exact ((h k kd n hk).2 j q hq).mono (am_le_mna M a b)
  · rw [if_neg h1] at hk
    by_cases h2 : k = am_n M
    · rw [if_pos h2] at hk
      cases hk
      refine ⟨fun h => absurd h (by decide), fun j q hq => ?_⟩
      have hq : (if k = am_n M then (if j < a then some (am_n M + 1 + j) else none) else if am_n M ≤ k then none else M.2.2.1 k j) = some q := hq
      rw [if_pos h2] at hq
      by_cases hj : j < a
      · rw [if_pos hj] at hq
        cases hq
        exact ⟨b, by rw [am_mna_at, if_neg (by omega), if_neg (by omega), if_pos (by omega)]; rfl⟩
      · rw [if_neg hj] at hq
        cases hq
    · rw [if_neg h2] at hk
      by_cases h3 : k < am_n M + 1 + a
      · rw [if_pos h3] at hk
        cases hk
        refine ⟨fun h => absurd h (by decide), fun j q hq => ?_⟩
        have hq : (if k = am_n M then (if j < a then some (am_n M + 1 + j) else none) else if am_n M ≤ k then none else M.2.2.1 k j) = some q := hq
        rw [if_neg h2, if_pos (by omega)] at hq
        cases hq
      · rw [if_neg h3] at hk
        cases hk
theorem am_outer (c : ClassId) (N h0 : Nat) : ∀ i : Nat, Jvm.Free.Multi.outerC c N h0 i = arrV c N (fun j => va_rf (if j < i then some (h0 + 1 + j) else none))
  | 0 => by
    show ({ cls := c, slots := Array.replicate N .null, vm := .none } : Cell) = _
    rw [arrV_new]
    refine congrArg (arrV c N) (funext fun j => ?_)
    simp [va_rf]
  | i + 1 => by
    show (Jvm.Free.Multi.outerC c N h0 i).setSlot i (.ref (h0 + 1 + i)) = _
    rw [am_outer c N h0 i, arrV_store]
    refine congrArg (arrV c N) (funext fun j => ?_)
    by_cases e : j = i
    · subst e
      simp [updV, va_rf]
    · by_cases h : j < i
      · simp [updV, e, h, Nat.lt_succ_of_lt h]
      · simp [updV, e, h, show ¬ j < i + 1 by omega]
theorem am_mnaI {G : am_G} {d : Nat} {own nm : String} {cc : ByteArray} {nL : Nat} {ret : Option FieldType} {pc : Nat} {L : List (Nat × Value)} {st : List Value} {M : am_M} {β : Type} {emb : β → Option Value × am_M} {X : Option β} {n k : Int32} {idx : Nat} (N K : Nat)
    (hd : decode cc pc = .ok (.multianewarray idx 2, 4)) (hw : Cond.classLink own idx ("[" ++ (FieldType.array .int).toString) ∈ am_T) (hwa : Cond.arrayClass .int ∈ am_T) (hn : ¬ n < 0) (hk0 : ¬ k < 0) (hN : n.toNatClampNeg = N) (hK : k.toNatClampNeg = K) (hb1 : N * 4 ≤ 536870912) (hb2 : K * 4 ≤ 536870912)
    (kk : am_S emb G d own nm cc nL ret (pc + 4) L (.ref (am_n M) :: st) (am_mna M N K) X) : am_S emb G d own nm cc nL ret pc L (.int k :: .int n :: st) M X := by
  subst hN
  subst hK
  intro hwt r0 hX
  obtain ⟨hle, hw', hk⟩ := kk (hwt.mna _ _) r0 hX
  have hnn : am_n (am_mna M n.toNatClampNeg k.toNatClampNeg) = am_n M + (1 + n.toNatClampNeg) := by
    show (M.2.2.2 ++ ((4, n.toNatClampNeg) :: List.replicate n.toNatClampNeg (0, k.toNatClampNeg))).length = _
    simp [am_n]; omega
  have hss : am_sl (am_mna M n.toNatClampNeg k.toNatClampNeg) = am_sl M + (n.toNatClampNeg + n.toNatClampNeg * k.toNatClampNeg) := by
    show ((M.2.2.2 ++ ((4, n.toNatClampNeg) :: List.replicate n.toNatClampNeg (0, k.toNatClampNeg))).map (fun q : Nat × Nat => q.2)).sum = _
    simp [am_sl, List.map_replicate]
  refine ⟨(am_le_mna M _ _).tr hle, hw', ?_⟩
  have hn' := hle.n
  have hs' := hle.sl
  intro p e R s m args below meth c H locs cells slots ls hZ hl hH hS hc h1 h2
  have hts := hZ.2.2.2.2.1
  have hKK := hZ.2.2.2.2.2.2.2.2.1.1
  have hov := hZ.2.2.2.2.2.2.2.2.1.2.2.2.1
  intro T hT Xs
  obtain ⟨vm₁, cA, comp, -, fA, fC, hO, -, X', step⟩ := Xs.multianewarray2F hZ.1 hZ.2.2.2.1 (hts _ hw) hov (hts _ hwa) (g := F0 m pc ls (.int k :: .int n :: st.map (am_c G.2.1))) rfl (by rw [hZ.2.1]; exact hd) rfl hn hk0 hb1 hb2 (by omega) rfl rfl (by omega) (by omega)
  have eA : cA = G.2.2.2.1 4 := Option.some.inj (fA.symm.trans (hKK.2 4 _ rfl).2)
  have eC : comp = G.2.2.2.1 0 := Option.some.inj (fC.symm.trans (hKK.2 0 _ rfl).2)
  subst eA
  subst eC
  generalize hF : Jvm.Free.Multi.fill (T.setVm vm₁) (G.2.2.2.1 4) (G.2.2.2.1 0) n.toNatClampNeg k.toNatClampNeg (defaultValue .int) n.toNatClampNeg = F at X' step
  have hTh : (T.setVm vm₁).heap = H := hT
  obtain ⟨f1, f2, -, -⟩ := Jvm.Free.Multi.fill_facts (T.setVm vm₁) (G.2.2.2.1 4) (G.2.2.2.1 0) n.toNatClampNeg k.toNatClampNeg (defaultValue .int) n.toNatClampNeg
  rw [hF, hTh] at f1 f2
  have hold : ∀ x : Nat, x < H.size → F.heap[x]? = H[x]? := fun x hx => by
    have := Jvm.Free.Multi.fill_old (T.setVm vm₁) (G.2.2.2.1 4) (G.2.2.2.1 0) n.toNatClampNeg k.toNatClampNeg (defaultValue .int) (a := x) (by rw [hTh]; exact hx) n.toNatClampNeg
    rw [hF, hTh] at this
    exact this
  have hrow : ∀ j : Nat, j < n.toNatClampNeg → F.heap[H.size + 1 + j]? = some (vp_cell (G.2.2.2.1 0) (k.toNatClampNeg, .inl (fun _ => 0))) := fun j hj => by
    have := Jvm.Free.Multi.fill_inner (T.setVm vm₁) (G.2.2.2.1 4) (G.2.2.2.1 0) n.toNatClampNeg k.toNatClampNeg (defaultValue .int) n.toNatClampNeg j hj
    rw [hF, hTh] at this
    rw [this, vp_cell_i]
    show some ({ cls := _, slots := Array.replicate _ (Value.int 0), vm := _ } : Cell) = _
    rw [arrV_new]
  rw [am_outer] at f2
  have h4 := hH.1
  have hP1 : va_P G.2.2.1 vwCl (am_ws G (am_mna M n.toNatClampNeg k.toNatClampNeg)) F.heap := by
    intro k9 q hq
    rw [am_ws_get, am_mna_at] at hq
    by_cases c1 : k9 < am_n M
    · rw [if_pos c1] at hq
      cases hs9 : M.2.2.2[k9]? with
      | none => rw [hs9] at hq; cases hq
      | some sh =>
        rw [hs9] at hq
        cases hq
        have e1 : am_e G (am_mna M n.toNatClampNeg k.toNatClampNeg) k9 sh = am_e G M k9 sh := by
          have a1 : (am_mna M n.toNatClampNeg k.toNatClampNeg).1 k9 = M.1 k9 := by funext i; show (if am_n M ≤ k9 then 0 else M.1 k9 i) = _; rw [if_neg (by omega)]
          have a2 : (am_mna M n.toNatClampNeg k.toNatClampNeg).2.1 k9 = M.2.1 k9 := by funext i; show (if am_n M ≤ k9 then 0 else M.2.1 k9 i) = _; rw [if_neg (by omega)]
          have a3 : (am_mna M n.toNatClampNeg k.toNatClampNeg).2.2.1 k9 = M.2.2.1 k9 := by funext i; show (if k9 = am_n M then _ else if am_n M ≤ k9 then none else M.2.2.1 k9 i) = _; rw [if_neg (by omega), if_neg (by omega)]
          unfold am_e am_fs
          rw [a1, a2, a3]
        show va_at G.2.2.1 vwCl (G.2.1 + k9, am_e G (am_mna M n.toNatClampNeg k.toNatClampNeg) k9 sh) F.heap
        rw [e1]
        have hq0 := hH.2 k9 _ (am_ws_at hs9)
        exact hq0.kept (hold _ hq0.lt)
    · rw [if_neg c1] at hq
      by_cases c2 : k9 = am_n M
      · rw [if_pos c2] at hq
        cases hq
        subst c2
        show F.heap[G.2.1 + am_n M]? = some (vp_cell (G.2.2.2.1 4) _)
        rw [← h4, f2, vp_cell_q]
        refine congrArg some (congrArg (arrV _ _) (funext fun j => congrArg va_rf ?_))
        show _ = Option.map _ (if am_n M = am_n M then (if j < n.toNatClampNeg then some (am_n M + 1 + j) else none) else _)
        rw [if_pos rfl]
        by_cases hj : j < n.toNatClampNeg
        · rw [if_pos hj, if_pos hj]
          show some (H.size + 1 + j) = some (G.2.1 + (am_n M + 1 + j))
          congr 1
          omega
        · rw [if_neg hj, if_neg hj]
          rfl
      · rw [if_neg c2] at hq
        by_cases c3 : k9 < am_n M + 1 + n.toNatClampNeg
        · rw [if_pos c3] at hq
          cases hq
          show F.heap[G.2.1 + k9]? = some (vp_cell (G.2.2.2.1 0) (k.toNatClampNeg, .inl ((am_mna M n.toNatClampNeg k.toNatClampNeg).1 k9)))
          have a1 : (am_mna M n.toNatClampNeg k.toNatClampNeg).1 k9 = fun _ => 0 := by funext i; show (if am_n M ≤ k9 then 0 else M.1 k9 i) = _; rw [if_pos (by omega)]
          rw [a1, ← hrow (k9 - am_n M - 1) (by omega)]
          congr 1
          omega
        · rw [if_neg c3] at hq
          cases hq
  have hz1 : F.heap.size = G.2.1 + am_n (am_mna M n.toNatClampNeg k.toNatClampNeg) := by rw [hnn]; omega
  obtain ⟨t, a1, b1⟩ := hk p e R s m args below meth c F.heap locs (cells + 1 + n.toNatClampNeg) (slots + n.toNatClampNeg + n.toNatClampNeg * k.toNatClampNeg) ls hZ hl ⟨hz1, hP1⟩ ⟨by have := hS.1; omega, fun x g1 g2 => (hold x (Nat.lt_of_lt_of_le g1 hS.1)).trans (hS.2.1 x g1 g2), hS.2.2⟩ (by rw [hnn]; omega) (by rw [hnn]; omega) (by rw [hss]; omega) F rfl X'
  refine ⟨t, step t ?_, b1⟩
  have e0 : T.heap.size = G.2.1 + am_n M := by rw [hT]; exact h4
  rw [e0]
  exact a1
theorem am_sh_mna (M : am_M) (a b : Nat) : am_sh (am_mna M a b) (am_n M) 4 := ⟨a, by rw [am_mna_at, if_neg (by omega), if_pos rfl]⟩
