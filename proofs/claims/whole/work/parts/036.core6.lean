section AM6
variable {G : am_G} {d : Nat} {own nm : String} {cc : ByteArray} {nL : Nat} {ret : Option FieldType} {pc pc' : Nat} {L L' : List (Nat × Value)} {st st' : List Value} {M M1 : am_M} {β : Type} {emb : β → Option Value × am_M} {X Y : Option β}
theorem am_mmin {idx : Nat} {x y : Int32} (hd : decode cc pc = .ok (.invokestatic idx, 3)) (hw : Cond.methodLink own idx Lib.Math.min.name ∈ am_T ∧ Cond.static Lib.Math.min.name ∈ am_T ∧ Cond.initialized "java/lang/Math" ∈ am_T ∧ Cond.code Lib.Math.min.name Lib.Math.min.code 2 (some .int) ∈ am_T) (hdd : 1 ≤ d) (hr8 : (st.map fun v => v.category).sum ≤ 8)
    (k : am_S emb G d own nm cc nL ret (pc + 3) L (.int (if y < x then y else x) :: st) M X) : am_S emb G d own nm cc nL ret pc L (.int y :: .int x :: st) M X := by
  intro hwt r0 hX
  obtain ⟨hle, hw', hk⟩ := k hwt r0 hX
  refine ⟨hle, hw', ?_⟩
  intro p e R s m args below meth c H locs cells slots ls hZ hl hH hS hc h1 h2
  have hts := hZ.2.2.2.2.1
  have hfr : 1 ≤ R.frames := Nat.le_trans hdd hZ.2.2.2.2.2.2.2.2.2.2.1
  have hlo : 64 * 1 ≤ R.locals := Nat.le_trans (Nat.mul_le_mul_left 64 hdd) hZ.2.2.2.2.2.2.2.2.2.2.2
  have n1 := hle.n
  have n2 := hle.sl
  have h8 : (((st.map (am_c G.2.1)).map fun v => v.category)).sum ≤ 8 := by rw [am_cats]; exact hr8
  exact va_mmin hZ.1 hZ.2.1 (by rw [hZ.2.2.1]; exact hl.1.symm) hZ.2.2.2.1 (hts _ hw.1) (hts _ hw.2.1) (hts _ hw.2.2.1) (hts _ hw.2.2.2) hfr (by omega) (by omega) (by omega) hd (hk p e R s m args below meth c H locs cells slots ls hZ hl hH hS hc h1 h2)
theorem am_mabs {idx : Nat} {x : Int32} (hd : decode cc pc = .ok (.invokestatic idx, 3)) (hw : Cond.methodLink own idx Lib.Math.abs.name ∈ am_T ∧ Cond.static Lib.Math.abs.name ∈ am_T ∧ Cond.initialized "java/lang/Math" ∈ am_T ∧ Cond.code Lib.Math.abs.name Lib.Math.abs.code 1 (some .int) ∈ am_T) (hdd : 1 ≤ d) (hr8 : (st.map fun v => v.category).sum ≤ 8)
    (k : am_S emb G d own nm cc nL ret (pc + 3) L (.int (if 0 ≤ x then x else 0 - x) :: st) M X) : am_S emb G d own nm cc nL ret pc L (.int x :: st) M X := by
  intro hwt r0 hX
  obtain ⟨hle, hw', hk⟩ := k hwt r0 hX
  refine ⟨hle, hw', ?_⟩
  intro p e R s m args below meth c H locs cells slots ls hZ hl hH hS hc h1 h2
  have hts := hZ.2.2.2.2.1
  have hfr : 1 ≤ R.frames := Nat.le_trans hdd hZ.2.2.2.2.2.2.2.2.2.2.1
  have hlo : 64 * 1 ≤ R.locals := Nat.le_trans (Nat.mul_le_mul_left 64 hdd) hZ.2.2.2.2.2.2.2.2.2.2.2
  have n1 := hle.n
  have n2 := hle.sl
  have h8 : (((st.map (am_c G.2.1)).map fun v => v.category)).sum ≤ 8 := by rw [am_cats]; exact hr8
  exact va_mabs hZ.1 hZ.2.1 (by rw [hZ.2.2.1]; exact hl.1.symm) hZ.2.2.2.1 (hts _ hw.1) (hts _ hw.2.1) (hts _ hw.2.2.1) (hts _ hw.2.2.2) hfr (by omega) (by omega) (by omega) hd (hk p e R s m args below meth c H locs cells slots ls hZ hl hH hS hc h1 h2)
end AM6
theorem am_w_min : Cond.static Lib.Math.min.name ∈ am_T ∧ Cond.initialized "java/lang/Math" ∈ am_T ∧ Cond.code Lib.Math.min.name Lib.Math.min.code 2 (some .int) ∈ am_T := ⟨sm_yJ9_min_7cf53, mb_yJ9_min_7cf53.1, mb_yJ9_min_7cf53.2.1⟩
theorem am_w_abs : Cond.static Lib.Math.abs.name ∈ am_T ∧ Cond.initialized "java/lang/Math" ∈ am_T ∧ Cond.code Lib.Math.abs.name Lib.Math.abs.code 1 (some .int) ∈ am_T := ⟨sm_yJ9_abs_0f7a4, mb_yJ9_abs_0f7a4.1, mb_yJ9_abs_0f7a4.2.1⟩
