/-! rows of the memory; lift -/
def am_row (M : am_M) (q : Nat) (f : Nat → Int32) : am_M := (fun k => if k = q then f else M.1 k, M.2)
theorem am_row_1 (M : am_M) (q : Nat) (f : Nat → Int32) (k : Nat) : (am_row M q f).1 k = if k = q then f else M.1 k := rfl
theorem am_row_ext {M M1 : am_M} (h2 : M1.2 = M.2) (h1 : ∀ k i, M1.1 k i = M.1 k i) : M1 = M := by
  apply Prod.ext
  · funext k i; exact h1 k i
  · exact h2
theorem am_fx.row {M M1 : am_M} (h : am_fx M M1) {k : Nat} (hk : k < 53) (f : Nat → Int32) : am_fx M (am_row M1 k f) := ⟨h.1, fun a ha => ⟨by rw [am_row_1, if_neg (by omega)]; exact (h.2 a ha).1, (h.2 a ha).2⟩⟩
theorem am_fm.row {M M1 : am_M} (h : am_fm M M1) {k : Nat} (hk : 53 ≤ k) (f : Nat → Int32) : am_fm M (am_row M1 k f) := ⟨h.1, fun a ha => ⟨by rw [am_row_1, if_neg (by omega)]; exact (h.2 a ha).1, (h.2 a ha).2⟩⟩
/-- shifted down from a on, up to t -/
def am_dn {α : Type} (f : Nat → α) (d a t : Nat) : Nat → α := fun i => if a ≤ i ∧ i < t then f (i + d) else f i
theorem am_dn_0 {α : Type} (f : Nat → α) (d a : Nat) : am_dn f d a a = f := by
  funext i
  unfold am_dn
  rw [if_neg (by omega)]
theorem am_dn_s {α : Type} (f : Nat → α) {d a t : Nat} (h : a ≤ t) (i : Nat) : (if i = t then f (t + d) else am_dn f d a t i) = am_dn f d a (t + 1) i := by
  unfold am_dn
  by_cases e : i = t
  · subst e; rw [if_pos rfl, if_pos (by omega)]
  · rw [if_neg e]
    by_cases q : a ≤ i ∧ i < t
    · rw [if_pos q, if_pos (by omega)]
    · rw [if_neg q, if_neg (by omega)]
theorem am_dn_hi {α : Type} (f : Nat → α) {d a t i : Nat} (h : t ≤ i) : am_dn f d a t i = f i := by
  unfold am_dn
  rw [if_neg (by omega)]
/-- two rows at once -/
def am_two (M : am_M) (q1 q2 : Nat) (f g : Nat → Int32) : am_M := am_row (am_row M q1 f) q2 g
theorem am_two_s {M : am_M} {q1 q2 : Nat} (hq : q1 ≠ q2) {f g f' g' : Nat → Int32} {t : Nat} {x y : Int32} (hf : ∀ i, (if i = t then x else f i) = f' i) (hg : ∀ i, (if i = t then y else g i) = g' i) : am_pI (am_pI (am_two M q1 q2 f g) q1 t x) q2 t y = am_two M q1 q2 f' g' := by
  refine am_row_ext rfl (fun k i => ?_)
  show (if k = q2 ∧ i = t then y else if k = q1 ∧ i = t then x else (if k = q2 then g else if k = q1 then f else M.1 k) i) = (if k = q2 then g' else if k = q1 then f' else M.1 k) i
  by_cases k2 : k = q2
  · subst k2
    rw [if_pos rfl, if_pos rfl, ← hg i]
    by_cases e : i = t
    · rw [if_pos ⟨rfl, e⟩, if_pos e]
    · rw [if_neg (fun z => e z.2), if_neg (fun z => hq z.1.symm), if_neg e]
  · rw [if_neg (fun z => k2 z.1), if_neg k2, if_neg k2]
    by_cases k1 : k = q1
    · subst k1
      rw [if_pos rfl, if_pos rfl, ← hf i]
      by_cases e : i = t
      · rw [if_pos ⟨rfl, e⟩, if_pos e]
      · rw [if_neg (fun z => e z.2), if_neg e]
    · rw [if_neg (fun z => k1 z.1), if_neg k1, if_neg k1]
theorem am_two_1 (M : am_M) {q1 q2 : Nat} (hq : q1 ≠ q2) (f g : Nat → Int32) : (am_two M q1 q2 f g).1 q1 = f ∧ (am_two M q1 q2 f g).1 q2 = g ∧ ∀ k, k ≠ q1 → k ≠ q2 → (am_two M q1 q2 f g).1 k = M.1 k := by
  refine ⟨?_, ?_, fun k h1 h2 => ?_⟩
  · show (if q1 = q2 then g else if q1 = q1 then f else _) = f
    rw [if_neg hq, if_pos rfl]
  · show (if q2 = q2 then g else _) = g
    rw [if_pos rfl]
  · show (if k = q2 then g else if k = q1 then f else M.1 k) = _
    rw [if_neg h2, if_neg h1]
theorem am_two_0 {M : am_M} {q1 q2 : Nat} : am_two M q1 q2 (M.1 q1) (M.1 q2) = M := by
  refine am_row_ext rfl (fun k i => ?_)
  show (if k = q2 then M.1 q2 else if k = q1 then M.1 q1 else M.1 k) i = _
  by_cases k2 : k = q2
  · rw [if_pos k2, k2]
  · rw [if_neg k2]
    by_cases k1 : k = q1
    · rw [if_pos k1, k1]
    · rw [if_neg k1]
theorem px_remove {s : ps_S} {pl : Nat} {M : am_M} (ho : ps_ok s) (hX : ps_X s pl M) {a : Nat} (ha : a < s.1 5) : fX6_remove (pl + 1) (nI a) M = some (1, am_two (am_pI M (pl + 1) 4 (nI (s.1 5 - 1))) (pl + 2) (pl + 3) (am_dn (M.1 (pl + 2)) 1 a (s.1 5 - 1)) (am_dn (M.1 (pl + 3)) 1 a (s.1 5 - 1))) := by
  obtain ⟨p1, p2, p3, p4, p5, p6, p7, p8, p9, p10, p11, p12, p13, p14, p15, p16, -⟩ := hX.pl
  have h5 := ho.2.2.2.2.2.2.1
  have g6 := hX.2.2.2.2.2.2.2.2.2.2.2.1
  have c1 : ¬ nI a < 0 := nI_pos (by omega)
  have c2 : ¬ nI (s.1 5) ≤ nI a := by rw [nm_le (by omega) (by omega)]; omega
  have e1 : nI (s.1 5) - 1 = nI (s.1 5 - 1) := nm_sub (b := 1) (by omega)
  unfold fX6_remove fX6_has
  simp only [g6, c1, c2, if_false, Option.bind_some, nm_1f, e1]
  generalize hM0 : am_pI M (pl + 1) 4 (nI (s.1 5 - 1)) = M0
  have q1 : M0.1 (pl + 1) 4 = nI (s.1 5 - 1) := by rw [← hM0, am_pI_1, if_pos ⟨rfl, rfl⟩]
  have q2 : M0.1 (pl + 2) = M.1 (pl + 2) := by rw [← hM0]; exact am_pI_r _ _ _ _ (by omega)
  have q3 : M0.1 (pl + 3) = M.1 (pl + 3) := by rw [← hM0]; exact am_pI_r _ _ _ _ (by omega)
  have q4 : M0.2 = M.2 := by rw [← hM0]; rfl
  rw [← q2, ← q3]
  have hne : pl + 2 ≠ pl + 3 := by omega
  have st : (pl + 1, nI a, M0) = ((pl + 1, nI (a + 0), am_two M0 (pl + 2) (pl + 3) (am_dn (M0.1 (pl + 2)) 1 a (a + 0)) (am_dn (M0.1 (pl + 3)) 1 a (a + 0))) : Nat × Int32 × am_M) := by
    simp only [Nat.add_zero, am_dn_0, am_two_0]
  rw [st]
  have en := am_loop_run (f := fX6_remove_22) (fun t => ((pl + 1, nI (a + t), am_two M0 (pl + 2) (pl + 3) (am_dn (M0.1 (pl + 2)) 1 a (a + t)) (am_dn (M0.1 (pl + 3)) 1 a (a + t))) : Nat × Int32 × am_M)) (some ((1 : Int32), am_two M0 (pl + 2) (pl + 3) (am_dn (M0.1 (pl + 2)) 1 a (s.1 5 - 1)) (am_dn (M0.1 (pl + 3)) 1 a (s.1 5 - 1)))) (s.1 5 - 1 - a) (fun t k ht => ?_) (fun k => ?_) 100000 0 (Nat.zero_le _) (by omega)
  · exact en
  · obtain ⟨w1, w2, w3⟩ := am_two_1 M0 hne (am_dn (M0.1 (pl + 2)) 1 a (a + t)) (am_dn (M0.1 (pl + 3)) 1 a (a + t))
    generalize hT : am_two M0 (pl + 2) (pl + 3) (am_dn (M0.1 (pl + 2)) 1 a (a + t)) (am_dn (M0.1 (pl + 3)) 1 a (a + t)) = T at w1 w2 w3
    have z : T.2 = M.2 := by rw [← hT]; exact q4
    have z1 : T.1 (pl + 1) 4 = nI (s.1 5 - 1) := by rw [w3 _ (by omega) (by omega)]; exact q1
    have r11 : T.2.2.1 (pl + 1) 0 = some (pl + 2) := by rw [z]; exact p11
    have r12 : ∀ x y, (am_pI T (pl + 2) x y).2.2.1 (pl + 1) 1 = some (pl + 3) := fun x y => by show T.2.2.1 _ _ = _; rw [z]; exact p12
    have l1 : am_len T (pl + 2) = 40 := by unfold am_len; rw [z]; exact p15
    have l2 : ∀ x y, am_len (am_pI T (pl + 2) x y) (pl + 3) = 40 := fun x y => by show am_len T _ = _; unfold am_len; rw [z]; exact p16
    have d1 : ¬ nI (s.1 5 - 1) ≤ nI (a + t) := by rw [nm_le (by omega) (by omega)]; omega
    have v1 : T.1 (pl + 2) (a + t + 1) = M0.1 (pl + 2) (a + t + 1) := by rw [w1, am_dn_hi _ (by omega)]
    have v2 : ∀ x y, (am_pI T (pl + 2) x y).1 (pl + 3) (a + t + 1) = M0.1 (pl + 3) (a + t + 1) := fun x y => by rw [am_pI_1, if_neg (by omega), w2, am_dn_hi _ (by omega)]
    dsimp only [fX6_remove_22]
    simp only [hT, z1, d1, if_false, r11, Option.bind_some, l1, nI_1, nm_cl (show a + t < 2147483648 by omega), nm_cl (show a + t + 1 < 2147483648 by omega), am_ixc (show a + t < 40 by omega) (show 40 < 2147483648 by decide), am_ixc (show a + t + 1 < 40 by omega) (show 40 < 2147483648 by decide), r12, l2, v1, v2]
    rw [← hT, am_two_s hne (am_dn_s (M0.1 (pl + 2)) (d := 1) (show a ≤ a + t by omega)) (am_dn_s (M0.1 (pl + 3)) (d := 1) (show a ≤ a + t by omega))]
    rfl
  · obtain ⟨w1, w2, w3⟩ := am_two_1 M0 hne (am_dn (M0.1 (pl + 2)) 1 a (a + (s.1 5 - 1 - a))) (am_dn (M0.1 (pl + 3)) 1 a (a + (s.1 5 - 1 - a)))
    dsimp only [fX6_remove_22]
    rw [w3 _ (by omega) (by omega), q1, if_pos (by rw [nm_le (by omega) (by omega)]; omega), show a + (s.1 5 - 1 - a) = s.1 5 - 1 by omega]
theorem pm_lift_loop {s : ps_S} {M : am_M} (ho : ps_ok s) (hM : ps_M s M) {a : Nat} (ha : a < s.1 5) : am_loop fX10_lift_28 100000 (53, nI a, am_pI M 53 6 (nI (s.1 5 - 1))) = some (nI (s.1 5 - 1), am_two (am_pI M 53 6 (nI (s.1 5 - 1))) 55 56 (am_dn (M.1 55) 1 a (s.1 5 - 1)) (am_dn (M.1 56) 1 a (s.1 5 - 1))) := by
  have h5 := ho.2.2.2.2.2.2.1
  have e1 := hM.2.1 53 7 55 (by decide) rfl
  have e2 := hM.2.1 53 8 56 (by decide) rfl
  have e3 : am_len M 55 = 40 := am_len_SH hM.1 55
  have e4 : am_len M 56 = 40 := am_len_SH hM.1 56
  generalize hM0 : am_pI M 53 6 (nI (s.1 5 - 1)) = M0
  have q1 : M0.1 53 6 = nI (s.1 5 - 1) := by rw [← hM0, am_pI_1, if_pos ⟨rfl, rfl⟩]
  have q2 : M0.1 55 = M.1 55 := by rw [← hM0]; exact am_pI_r _ _ _ _ (by omega)
  have q3 : M0.1 56 = M.1 56 := by rw [← hM0]; exact am_pI_r _ _ _ _ (by omega)
  have q4 : M0.2 = M.2 := by rw [← hM0]; rfl
  rw [← q2, ← q3]
  have hne : (55 : Nat) ≠ 56 := by decide
  have st : (53, nI a, M0) = ((53, nI (a + 0), am_two M0 55 56 (am_dn (M0.1 55) 1 a (a + 0)) (am_dn (M0.1 56) 1 a (a + 0))) : Nat × Int32 × am_M) := by
    simp only [Nat.add_zero, am_dn_0, am_two_0]
  rw [st]
  have en := am_loop_run (f := fX10_lift_28) (fun t => ((53, nI (a + t), am_two M0 55 56 (am_dn (M0.1 55) 1 a (a + t)) (am_dn (M0.1 56) 1 a (a + t))) : Nat × Int32 × am_M)) (some (nI (s.1 5 - 1), am_two M0 55 56 (am_dn (M0.1 55) 1 a (s.1 5 - 1)) (am_dn (M0.1 56) 1 a (s.1 5 - 1)))) (s.1 5 - 1 - a) (fun t k ht => ?_) (fun k => ?_) 100000 0 (Nat.zero_le _) (by omega)
  · exact en
  · obtain ⟨w1, w2, w3⟩ := am_two_1 M0 hne (am_dn (M0.1 55) 1 a (a + t)) (am_dn (M0.1 56) 1 a (a + t))
    generalize hT : am_two M0 55 56 (am_dn (M0.1 55) 1 a (a + t)) (am_dn (M0.1 56) 1 a (a + t)) = T at w1 w2 w3
    have z : T.2 = M.2 := by rw [← hT]; exact q4
    have z1 : T.1 53 6 = nI (s.1 5 - 1) := by rw [w3 _ (by omega) (by omega)]; exact q1
    have r11 : T.2.2.1 53 7 = some 55 := by rw [z]; exact e1
    have r12 : ∀ x y, (am_pI T 55 x y).2.2.1 53 8 = some 56 := fun x y => by show T.2.2.1 _ _ = _; rw [z]; exact e2
    have l1 : am_len T 55 = 40 := by unfold am_len; rw [z]; exact e3
    have l2 : ∀ x y, am_len (am_pI T 55 x y) 56 = 40 := fun x y => by show am_len T _ = _; unfold am_len; rw [z]; exact e4
    have d1 : ¬ nI (s.1 5 - 1) ≤ nI (a + t) := by rw [nm_le (by omega) (by omega)]; omega
    have v1 : T.1 55 (a + t + 1) = M0.1 55 (a + t + 1) := by rw [w1, am_dn_hi _ (by omega)]
    have v2 : ∀ x y, (am_pI T 55 x y).1 56 (a + t + 1) = M0.1 56 (a + t + 1) := fun x y => by rw [am_pI_1, if_neg (by omega), w2, am_dn_hi _ (by omega)]
    dsimp only [fX10_lift_28]
    simp only [hT, z1, d1, if_false, r11, Option.bind_some, l1, nI_1, nm_cl (show a + t < 2147483648 by omega), nm_cl (show a + t + 1 < 2147483648 by omega), am_ixc (show a + t < 40 by omega) (show 40 < 2147483648 by decide), am_ixc (show a + t + 1 < 40 by omega) (show 40 < 2147483648 by decide), r12, l2, v1, v2]
    rw [← hT, am_two_s hne (am_dn_s (M0.1 55) (d := 1) (show a ≤ a + t by omega)) (am_dn_s (M0.1 56) (d := 1) (show a ≤ a + t by omega))]
    rfl
  · obtain ⟨w1, w2, w3⟩ := am_two_1 M0 hne (am_dn (M0.1 55) 1 a (a + (s.1 5 - 1 - a))) (am_dn (M0.1 56) 1 a (a + (s.1 5 - 1 - a)))
    dsimp only [fX10_lift_28]
    rw [w3 _ (by omega) (by omega), q1, if_pos (by rw [nm_le (by omega) (by omega)]; omega), show a + (s.1 5 - 1 - a) = s.1 5 - 1 by omega]
