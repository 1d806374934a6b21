/-! drop -/
def am_rrow (M : am_M) (q : Nat) (f : Nat → Option Nat) : am_M := (M.1, M.2.1, fun k => if k = q then f else M.2.2.1 k, M.2.2.2)
theorem am_rrow_r (M : am_M) (q : Nat) (f : Nat → Option Nat) (k : Nat) : (am_rrow M q f).2.2.1 k = if k = q then f else M.2.2.1 k := rfl
theorem am_rrow_s {M : am_M} {q : Nat} {f f' : Nat → Option Nat} {t : Nat} {x : Option Nat} (hf : ∀ i, (if i = t then x else f i) = f' i) : am_pR (am_rrow M q f) q t x = am_rrow M q f' := by
  have e : am_up (fun k => if k = q then f else M.2.2.1 k) q t x = fun k => if k = q then f' else M.2.2.1 k := by
    funext k i
    show (if k = q ∧ i = t then x else (if k = q then f else M.2.2.1 k) i) = (if k = q then f' else M.2.2.1 k) i
    by_cases h : k = q
    · subst h
      rw [if_pos rfl, if_pos rfl, ← hf i]
      by_cases c : i = t
      · rw [if_pos ⟨rfl, c⟩, if_pos c]
      · rw [if_neg (fun z => c z.2), if_neg c]
    · rw [if_neg (fun z => h z.1), if_neg h, if_neg h]
  show (M.1, M.2.1, am_up (fun k => if k = q then f else M.2.2.1 k) q t x, M.2.2.2) = _
  rw [e]
  rfl
theorem am_rrow_0 {M : am_M} {q : Nat} : am_rrow M q (M.2.2.1 q) = M := by
  have e : (fun k => if k = q then M.2.2.1 q else M.2.2.1 k) = M.2.2.1 := by
    funext k
    by_cases h : k = q
    · rw [if_pos h, h]
    · rw [if_neg h]
  show (M.1, M.2.1, (fun k => if k = q then M.2.2.1 q else M.2.2.1 k), M.2.2.2) = M
  rw [e]
def am_cyc {α : Type} (f : Nat → α) (a n : Nat) : Nat → α := fun i => if i = n then f a else am_dn f 1 a n i
theorem px_removePart {s : ps_S} {pl : Nat} {M : am_M} (ho : ps_ok s) (hX : ps_X s pl M) {a : Nat} (ha : a < s.1 4) : fX5_removePart pl (nI a) M = some (1, am_rrow (am_pI M pl 2 (nI (s.1 4 - 1))) (pl + 6) (am_cyc (M.2.2.1 (pl + 6)) a (s.1 4 - 1))) := by
  obtain ⟨p1, p2, p3, p4, p5, p6, p7, p8, p9, p10, p11, p12, p13, p14, p15, p16, p17, p18, p19⟩ := hX.pl
  have h8 := ho.2.2.2.2.2.1
  obtain ⟨pi, hpi, hinj⟩ := hX.2.2.2.2.2.1 pl p1
  have c1 : ¬ nI a < 0 := nI_pos (by omega)
  have c2 : nI a < nI (s.1 4) := by rw [nm_lt (by omega) (by omega)]; exact ha
  have e1 : nI (s.1 4) - 1 = nI (s.1 4 - 1) := nm_sub (b := 1) (by omega)
  unfold fX5_removePart
  simp only [p3, c1, c2, if_false, if_true, p10, Option.bind_some, p19, nm_cl (show a < 2147483648 by omega), false_or, show ¬ 8 ≤ a by omega, (hpi a (by omega)).2, e1]
  generalize hM0 : am_pI M pl 2 (nI (s.1 4 - 1)) = M0
  have q1 : M0.1 pl 2 = nI (s.1 4 - 1) := by rw [← hM0, am_pI_1, if_pos ⟨rfl, rfl⟩]
  have q4 : M0.2 = M.2 := by rw [← hM0]; rfl
  have q5 : M.2.2.1 (pl + 6) = M0.2.2.1 (pl + 6) := by rw [q4]
  have st : (pl, pl + 7 + pi a, nI a, M0) = ((pl, pl + 7 + pi a, nI (a + 0), am_rrow M0 (pl + 6) (am_dn (M0.2.2.1 (pl + 6)) 1 a (a + 0))) : Nat × Nat × Int32 × am_M) := by
    simp only [Nat.add_zero, am_dn_0, am_rrow_0]
  rw [st, q5]
  have en := am_loop_run (f := fX5_removePart_33) (fun t => ((pl, pl + 7 + pi a, nI (a + t), am_rrow M0 (pl + 6) (am_dn (M0.2.2.1 (pl + 6)) 1 a (a + t))) : Nat × Nat × Int32 × am_M)) (some ((1 : Int32), am_rrow M0 (pl + 6) (am_cyc (M0.2.2.1 (pl + 6)) a (s.1 4 - 1)))) (s.1 4 - 1 - a) (fun t k ht => ?_) (fun k => ?_) 100000 0 (Nat.zero_le _) (by omega)
  · exact en
  · generalize hT : am_rrow M0 (pl + 6) (am_dn (M0.2.2.1 (pl + 6)) 1 a (a + t)) = T
    have z1 : T.1 pl 2 = nI (s.1 4 - 1) := by rw [← hT]; exact q1
    have r1 : T.2.2.1 pl 1 = some (pl + 6) := by rw [← hT, am_rrow_r, if_neg (by omega), q4]; exact p10
    have l1 : am_len T (pl + 6) = 8 := by rw [← hT]; show am_len M0 _ = _; unfold am_len; rw [q4]; exact p19
    have v1 : T.2.2.1 (pl + 6) (a + t + 1) = some (pl + 7 + pi (a + t + 1)) := by rw [← hT, am_rrow_r, if_pos rfl, am_dn_hi _ (by omega), ← q5]; exact (hpi _ (by omega)).2
    have d1 : ¬ nI (s.1 4 - 1) ≤ nI (a + t) := by rw [nm_le (by omega) (by omega)]; omega
    dsimp only [fX5_removePart_33]
    simp only [hT, z1, d1, if_false, r1, Option.bind_some, l1, nI_1, nm_cl (show a + t < 2147483648 by omega), nm_cl (show a + t + 1 < 2147483648 by omega), am_ixc (show a + t < 8 by omega) (show 8 < 2147483648 by decide), am_ixc (show a + t + 1 < 8 by omega) (show 8 < 2147483648 by decide), v1]
    have v2 : some (pl + 7 + pi (a + t + 1)) = M0.2.2.1 (pl + 6) (a + t + 1) := by rw [← q5]; exact (hpi _ (by omega)).2.symm
    rw [← hT, v2, am_rrow_s (am_dn_s (M0.2.2.1 (pl + 6)) (d := 1) (show a ≤ a + t by omega))]
    rfl
  · have e0 : a + (s.1 4 - 1 - a) = s.1 4 - 1 := by omega
    generalize hT : am_rrow M0 (pl + 6) (am_dn (M0.2.2.1 (pl + 6)) 1 a (a + (s.1 4 - 1 - a))) = T
    have z1 : T.1 pl 2 = nI (s.1 4 - 1) := by rw [← hT]; exact q1
    have r1 : T.2.2.1 pl 1 = some (pl + 6) := by rw [← hT, am_rrow_r, if_neg (by omega), q4]; exact p10
    have l1 : am_len T (pl + 6) = 8 := by rw [← hT]; show am_len M0 _ = _; unfold am_len; rw [q4]; exact p19
    have d1 : nI (s.1 4 - 1) ≤ nI (a + (s.1 4 - 1 - a)) := by rw [nm_le (by omega) (by omega)]; omega
    have v2 : some (pl + 7 + pi a) = M0.2.2.1 (pl + 6) a := by rw [← q5]; exact (hpi _ (by omega)).2.symm
    dsimp only [fX5_removePart_33]
    simp only [hT, z1, d1, if_true, r1, Option.bind_some, l1, nm_cl (show s.1 4 - 1 < 2147483648 by omega), am_ixc (show s.1 4 - 1 < 8 by omega) (show 8 < 2147483648 by decide), if_false]
    rw [← hT, v2, e0, am_rrow_s (f' := am_cyc (M0.2.2.1 (pl + 6)) a (s.1 4 - 1)) (fun i => rfl)]
theorem pm_drop_loop {s : ps_S} {M : am_M} (ho : ps_ok s) (hM : ps_M s M) {a : Nat} (ha : a < s.1 4) : am_loop fX10_drop_31 100000 (53, 6 * nI a, am_pI M 53 4 (nI (s.1 4 - 1))) = some (nI (s.1 4 - 1), am_row (am_pI M 53 4 (nI (s.1 4 - 1))) 54 (am_dn (M.1 54) 6 (6 * a) (6 * (s.1 4 - 1)))) := by
  have h8 := ho.2.2.2.2.2.1
  have e1 := hM.2.1 53 5 54 (by decide) rfl
  have e3 : am_len M 54 = 48 := am_len_SH hM.1 54
  have e6 : (6 : Int32) * nI a = nI (6 * a) := by rw [nm_6, pk_mul]
  have e7 : (6 : Int32) * nI (s.1 4 - 1) = nI (6 * (s.1 4 - 1)) := by rw [nm_6, pk_mul]
  rw [e6]
  generalize hM0 : am_pI M 53 4 (nI (s.1 4 - 1)) = M0
  have q1 : M0.1 53 4 = nI (s.1 4 - 1) := by rw [← hM0, am_pI_1, if_pos ⟨rfl, rfl⟩]
  have q2 : M0.1 54 = M.1 54 := by rw [← hM0]; exact am_pI_r _ _ _ _ (by omega)
  have q4 : M0.2 = M.2 := by rw [← hM0]; rfl
  rw [← q2]
  have row0 : am_row M0 54 (M0.1 54) = M0 := am_row_ext rfl (fun k i => by
    rw [am_row_1]
    by_cases h : k = 54
    · rw [if_pos h, h]
    · rw [if_neg h])
  have st : (53, nI (6 * a), M0) = ((53, nI (6 * a + 0), am_row M0 54 (am_dn (M0.1 54) 6 (6 * a) (6 * a + 0))) : Nat × Int32 × am_M) := by
    simp only [Nat.add_zero, am_dn_0, row0]
  rw [st]
  have en := am_loop_run (f := fX10_drop_31) (fun t => ((53, nI (6 * a + t), am_row M0 54 (am_dn (M0.1 54) 6 (6 * a) (6 * a + t))) : Nat × Int32 × am_M)) (some (nI (s.1 4 - 1), am_row M0 54 (am_dn (M0.1 54) 6 (6 * a) (6 * (s.1 4 - 1))))) (6 * (s.1 4 - 1) - 6 * a) (fun t k ht => ?_) (fun k => ?_) 100000 0 (Nat.zero_le _) (by omega)
  · exact en
  · generalize hT : am_row M0 54 (am_dn (M0.1 54) 6 (6 * a) (6 * a + t)) = T
    have z : T.2 = M.2 := by rw [← hT]; exact q4
    have z1 : T.1 53 4 = nI (s.1 4 - 1) := by rw [← hT, am_row_1, if_neg (by omega)]; exact q1
    have r11 : T.2.2.1 53 5 = some 54 := by rw [z]; exact e1
    have l1 : am_len T 54 = 48 := by unfold am_len; rw [z]; exact e3
    have d1 : ¬ nI (6 * (s.1 4 - 1)) ≤ nI (6 * a + t) := by rw [nm_le (by omega) (by omega)]; omega
    have v1 : T.1 54 (6 * a + t + 6) = M0.1 54 (6 * a + t + 6) := by rw [← hT, am_row_1, if_pos rfl, am_dn_hi _ (by omega)]
    have e8 : nI (6 * a + t) + 6 = nI (6 * a + t + 6) := by rw [nm_6, nI_add]
    dsimp only [fX10_drop_31]
    simp only [hT, z1, e7, d1, if_false, r11, Option.bind_some, l1, e8, nI_1, nm_cl (show 6 * a + t < 2147483648 by omega), nm_cl (show 6 * a + t + 6 < 2147483648 by omega), am_ixc (show 6 * a + t < 48 by omega) (show 48 < 2147483648 by decide), am_ixc (show 6 * a + t + 6 < 48 by omega) (show 48 < 2147483648 by decide), v1]
    have hst : am_pI T 54 (6 * a + t) (M0.1 54 (6 * a + t + 6)) = am_row M0 54 (am_dn (M0.1 54) 6 (6 * a) (6 * a + t + 1)) := by
      rw [← hT]
      refine am_row_ext rfl (fun k i => ?_)
      rw [am_pI_1, am_row_1, am_row_1]
      by_cases h : k = 54
      · rw [if_pos h, if_pos h, ← am_dn_s (M0.1 54) (d := 6) (show 6 * a ≤ 6 * a + t by omega)]
        by_cases c : i = 6 * a + t
        · rw [if_pos ⟨h, c⟩, if_pos c]
        · rw [if_neg (fun z => c z.2), if_neg c]
      · rw [if_neg (fun z => h z.1), if_neg h, if_neg h]
    rw [hst]
    rfl
  · have e0 : 6 * a + (6 * (s.1 4 - 1) - 6 * a) = 6 * (s.1 4 - 1) := by omega
    rw [e0]
    have z1 : (am_row M0 54 (am_dn (M0.1 54) 6 (6 * a) (6 * (s.1 4 - 1)))).1 53 4 = nI (s.1 4 - 1) := by rw [am_row_1, if_neg (by omega)]; exact q1
    dsimp only [fX10_drop_31]
    rw [z1, e7, if_pos (by rw [nm_le (by omega) (by omega)]; omega)]
