/-! at, ordered, search, found -/
theorem ps_rk_sur (s : ps_S) : ∀ n, ∃ o : Nat → Nat, ∀ u, u < n → o u < n ∧ ps_rk s n (o u) = u
  | 0 => ⟨fun _ => 0, fun u hu => absurd hu (Nat.not_lt_zero u)⟩
  | i + 1 => by
    obtain ⟨o, ho⟩ := ps_rk_sur s i
    have key : ∀ m, m ≤ i → (∃ t, t ≤ i ∧ (t = 0 ∨ ps_pk s (o (t - 1)) ≤ ps_pk s i) ∧ ∀ u, t ≤ u → u < i → ps_pk s i < ps_pk s (o u)) ∨ ∀ u, i - m ≤ u → u < i → ps_pk s i < ps_pk s (o u) := by
      intro m
      induction m with
      | zero => exact fun _ => Or.inr (fun u h1 h2 => by omega)
      | succ m ih =>
        intro hm
        rcases ih (by omega) with h | h
        · exact Or.inl h
        · by_cases c : ps_pk s (o (i - m - 1)) ≤ ps_pk s i
          · exact Or.inl ⟨i - m, by omega, Or.inr c, h⟩
          · refine Or.inr (fun u h1 h2 => ?_)
            by_cases c2 : u = i - m - 1
            · rw [c2]; omega
            · exact h u (by omega) h2
    have fin : ∃ t, t ≤ i ∧ (t = 0 ∨ ps_pk s (o (t - 1)) ≤ ps_pk s i) ∧ ∀ u, t ≤ u → u < i → ps_pk s i < ps_pk s (o u) := by
      rcases key i (Nat.le_refl i) with h | h
      · exact h
      · exact ⟨0, Nat.zero_le i, Or.inl rfl, fun u _ h2 => h u (by omega) h2⟩
    obtain ⟨t, t1, t2, t3⟩ := fin
    exact ⟨_, ps_ins ho t1 t2 t3⟩
theorem nz_ifa (P : Prop) [Decidable P] : (if P then (1 : Int32) else 0) &&& 1 = if P then 1 else 0 := by
  by_cases h : P
  · rw [if_pos h]; rfl
  · rw [if_neg h]; rfl
theorem pm_ispt {s : ps_S} {M : am_M} (ho : ps_ok s) (h : M.1 53 6 = nI (s.1 5)) (a : Int32) : fX10_isPoint 53 a M = some (if 0 ≤ a ∧ a < nI (s.1 5) then 1 else 0, M) := by
  have h5 := ho.2.2.2.2.2.2.1
  have e1 : fX10_isIn a 0 (M.1 53 6 - 1) M = some (if 0 ≤ a ∧ a < nI (s.1 5) then 1 else 0, M) := by
    rw [h]
    by_cases h0 : s.1 5 = 0
    · rw [h0]
      unfold fX10_isIn
      by_cases c : a < 0
      · rw [if_pos c, if_neg (fun z => absurd c (Int32.not_lt.mpr z.1))]
      · have c2 : nI 0 - 1 < a := Int32.lt_of_lt_of_le (show nI 0 - 1 < 0 by decide) (Int32.not_lt.mp c)
        rw [if_neg c, if_pos c2, if_neg (fun z => absurd z.2 (Int32.not_lt.mpr (Int32.not_lt.mp c)))]
    · exact nz_inp (by omega) (by omega) a M
  unfold fX10_isPoint
  simp only [e1, am_bs, nz_ifa]
theorem px_hasp {s : ps_S} {pl : Nat} {M : am_M} (h : M.1 (pl + 1) 4 = nI (s.1 5)) (a : Int32) : fX6_has (pl + 1) a M = some (if 0 ≤ a ∧ a < nI (s.1 5) then 1 else 0, M) := by
  unfold fX6_has
  rw [h]
  by_cases c : a < 0
  · rw [if_pos c, if_neg (fun z => absurd c (Int32.not_lt.mpr z.1))]
  · rw [if_neg c]
    by_cases c2 : nI (s.1 5) ≤ a
    · rw [if_pos c2, if_neg (fun z => absurd z.2 (Int32.not_lt.mpr c2))]
    · rw [if_neg c2, if_pos ⟨Int32.not_lt.mp c, Int32.not_le.mp c2⟩]
theorem pm_pkey {s : ps_S} {M : am_M} (ho : ps_ok s) (hM : ps_M s M) {i : Nat} (hi : i < s.1 5) : fX10_keyOf 53 (nI (s.2 6 i)) (nI (s.2 7 i)) M = some (nI (ps_pk s i), M) := pm_keyOf ho.2.2.1 ho.2.1 hM.2.2.1 hM.2.2.2.1 (ho.2.2.2.2.2.2.2.2.2.2.1 i hi).1 (ho.2.2.2.2.2.2.2.2.2.2.1 i hi).2
theorem pm_placeOf {s : ps_S} {M : am_M} (ho : ps_ok s) (hM : ps_M s M) {i : Nat} (hi : i < s.1 5) : fX10_placeOf 53 (nI i) M = some (nI (ps_rk s (s.1 5) i), M) := by
  have h5 := ho.2.2.2.2.2.2.1
  obtain ⟨r7, r8, -, -, -, -, -, -, l55, l56, -⟩ := hM.r
  obtain ⟨m1, m2, m3, m4, m5, m6, m7, m8, m9, m10, m11, m12, m13, m14⟩ := id hM
  have hb := ps_pk_lt ho
  have L := am_loop_inv (f := fX10_placeOf_22) (fun k st => st = (53, nI i, nI (ps_pk s i), nI (ps_rk s k i), nI k, M)) (fun r => r = some (nI (ps_rk s (s.1 5) i), M)) (s.1 5)
    (fun k st k2 hk e => by
      subst e
      refine Or.inl ⟨_, rfl, ?_⟩
      have b1 := hb k
      have b2 := hb i
      unfold fX10_placeOf_22 fX10_placeOf_70 fX10_placeOf_74 fX10_placeOf_75
      simp only [m8, nm_le (show s.1 5 < 2147483648 by omega) (show k < 2147483648 by omega), show (s.1 5 ≤ k) = False from eq_false (by omega), if_false, r7, r8, am_bs, l55, l56, nm_cl (show k < 2147483648 by omega), am_ixc (show k < 40 by omega) (show 40 < 2147483648 by decide), (m12 k hk).1, (m12 k hk).2, pm_pkey ho hM hk, nm_lt (show ps_pk s k < 2147483648 by omega) (show ps_pk s i < 2147483648 by omega), nm_eq (show ps_pk s k < 2147483648 by omega) (show ps_pk s i < 2147483648 by omega), nm_le (show i < 2147483648 by omega) (show k < 2147483648 by omega), nI_1, nz_p0]
      rw [ps_rk_s]
      by_cases c1 : ps_pk s k < ps_pk s i
      · rw [if_pos c1, if_pos (show ps_bf s k i = true by rw [ps_bf_t]; omega)]
      · rw [if_neg c1]
        by_cases c2 : ps_pk s k = ps_pk s i
        · rw [if_pos c2]
          by_cases c3 : i ≤ k
          · rw [if_pos c3, ps_bf_f (by omega)]; rfl
          · rw [if_neg c3, if_pos (show ps_bf s k i = true by rw [ps_bf_t]; omega)]
        · rw [if_neg c2, ps_bf_f (by omega)]; rfl)
    (fun st k e => by
      subst e
      unfold fX10_placeOf_22
      simp only [m8, Int32.le_refl, if_true])
    100000 0 (53, nI i, nI (ps_pk s i), nI 0, nI 0, M) (Nat.zero_le _) (by omega) rfl
  unfold fX10_placeOf
  simp only [r7, r8, am_bs, l55, l56, nm_cl (show i < 2147483648 by omega), am_ixc (show i < 40 by omega) (show 40 < 2147483648 by decide), if_false, (m12 i hi).1, (m12 i hi).2, pm_pkey ho hM hi]
  exact L
theorem pm_ordAt {s : ps_S} {M : am_M} (ho : ps_ok s) (hM : ps_M s M) {j : Nat} (hj : j < s.1 5) : fX10_orderedAt 53 (nI (ps_rk s (s.1 5) j)) M = some (nI j, M) := by
  have h5 := ho.2.2.2.2.2.2.1
  have m8 := hM.2.2.2.2.2.2.2.1
  have bj := ps_rk_bd (s := s) hj
  exact am_loop_inv (f := fX10_orderedAt_2) (fun k st => st = (53, nI (ps_rk s (s.1 5) j), nI k, M)) (fun r => r = some (nI j, M)) j
    (fun k st k2 hk e => by
      subst e
      refine Or.inl ⟨_, rfl, ?_⟩
      have bk := ps_rk_bd (s := s) (n := s.1 5) (j := k) (by omega)
      have hne : ¬ ps_rk s (s.1 5) k = ps_rk s (s.1 5) j := fun q => by
        have := ps_rk_inj (by omega) hj q
        omega
      unfold fX10_orderedAt_2
      simp only [m8, nm_le (show s.1 5 < 2147483648 by omega) (show k < 2147483648 by omega), show (s.1 5 ≤ k) = False from eq_false (by omega), if_false, pm_placeOf ho hM (show k < s.1 5 by omega), am_bs, nm_eq (show ps_rk s (s.1 5) k < 2147483648 by omega) (show ps_rk s (s.1 5) j < 2147483648 by omega), hne, nI_1])
    (fun st k e => by
      subst e
      unfold fX10_orderedAt_2
      simp only [m8, nm_le (show s.1 5 < 2147483648 by omega) (show j < 2147483648 by omega), show (s.1 5 ≤ j) = False from eq_false (by omega), if_false, pm_placeOf ho hM hj, am_bs, if_true])
    100000 0 (53, nI (ps_rk s (s.1 5) j), nI 0, M) (Nat.zero_le _) (by omega) rfl
theorem pm_ordNo {s : ps_S} {M : am_M} (ho : ps_ok s) (hM : ps_M s M) {a : Int32} (ha : nI (s.1 5) ≤ a) : fX10_orderedAt 53 a M = some (-4, M) := by
  have h5 := ho.2.2.2.2.2.2.1
  have m8 := hM.2.2.2.2.2.2.2.1
  exact am_loop_inv (f := fX10_orderedAt_2) (fun k st => st = (53, a, nI k, M)) (fun r => r = some (-4, M)) (s.1 5)
    (fun k st k2 hk e => by
      subst e
      refine Or.inl ⟨_, rfl, ?_⟩
      have bk := ps_rk_bd (s := s) hk
      have hne : (nI (ps_rk s (s.1 5) k) = a) = False := eq_false (fun q => (nm_big (show s.1 5 < 2147483648 by omega) ha bk).2.2.2.2.1 q.symm)
      unfold fX10_orderedAt_2
      simp only [m8, nm_le (show s.1 5 < 2147483648 by omega) (show k < 2147483648 by omega), show (s.1 5 ≤ k) = False from eq_false (by omega), if_false, pm_placeOf ho hM hk, am_bs, hne, nI_1])
    (fun st k e => by
      subst e
      unfold fX10_orderedAt_2
      simp only [m8, Int32.le_refl, if_true])
    100000 0 (53, a, nI 0, M) (Nat.zero_le _) (by omega) rfl
theorem px_rankOf {s : ps_S} {pl : Nat} {T : am_M} (ho : ps_ok s) (hX : ps_X s pl T) (hO : ps_ord s pl (s.1 5) T) {j : Nat} (hj : j < s.1 5) : fX6_rankOf (pl + 1) (nI j) T = some (nI (ps_rk s (s.1 5) j), T) := by
  have h5 := ho.2.2.2.2.2.2.1
  obtain ⟨p1, p2, p3, p4, p5, p6, p7, p8, p9, p10, p11, p12, p13, p14, p15, p16, p17, p18, p19⟩ := hX.pl
  have g6 := hX.2.2.2.2.2.2.2.2.2.2.2.1
  have bj := ps_rk_bd (s := s) hj
  exact am_loop_inv (f := fX6_rankOf_2) (fun k st => st = (pl + 1, nI j, nI k, T)) (fun r => r = some (nI (ps_rk s (s.1 5) j), T)) (ps_rk s (s.1 5) j)
    (fun k st k2 hk e => by
      subst e
      refine Or.inl ⟨_, rfl, ?_⟩
      obtain ⟨i, i1, i2, i3⟩ := hO.get (u := k) (by omega)
      have hne : ¬ i = j := fun q => by rw [q] at i2; omega
      unfold fX6_rankOf_2
      simp only [g6, nm_le (show s.1 5 < 2147483648 by omega) (show k < 2147483648 by omega), show (s.1 5 ≤ k) = False from eq_false (by omega), if_false, p13, am_bs, p17, nm_cl (show k < 2147483648 by omega), am_ixc (show k < 40 by omega) (show 40 < 2147483648 by decide), i3, nm_eq (show i < 2147483648 by omega) (show j < 2147483648 by omega), hne, nI_1])
    (fun st k e => by
      subst e
      unfold fX6_rankOf_2
      simp only [g6, nm_le (show s.1 5 < 2147483648 by omega) (show ps_rk s (s.1 5) j < 2147483648 by omega), show (s.1 5 ≤ ps_rk s (s.1 5) j) = False from eq_false (by omega), if_false, p13, am_bs, p17, nm_cl (show ps_rk s (s.1 5) j < 2147483648 by omega), am_ixc (show ps_rk s (s.1 5) j < 40 by omega) (show 40 < 2147483648 by decide), hO.at hj, if_true])
    100000 0 (pl + 1, nI j, nI 0, T) (Nat.zero_le _) (by omega) rfl
theorem op_at (a w : Int32) : ps_op (fX9_at 0 a w) (fX10_at 53 a w) := by
  intro s ho
  have h5 := ho.2.2.2.2.2.2.1
  have in2 : ∀ M : am_M, fX10_isIn w 0 2 M = some (if 0 ≤ w ∧ w < nI 3 then 1 else 0, M) := fun M => pm_in (n := 2) (by decide) w M
  by_cases hQ : 0 ≤ a ∧ a < nI (s.1 5)
  · have hW : (0 ≤ w ∧ w < nI 3) ∨ (¬ (0 ≤ w ∧ w < nI 3) ∧ (w < 0 ∨ ¬ w ≤ 2)) := by
      rcases nm_cut w 3 (by decide) with h | h | ⟨j, hj, rfl⟩
      · exact Or.inr ⟨fun q => absurd h (Int32.not_lt.mpr q.1), Or.inl h⟩
      · exact Or.inr ⟨fun q => absurd q.2 (Int32.not_lt.mpr h), Or.inr (nm_big (by decide) h (n := 2) (by decide)).2.2.2.1⟩
      · exact Or.inl ⟨nI_pos' (by omega), by rw [nm_lt (by omega) (by decide)]; exact hj⟩
    rcases hW with hW | ⟨hW, hW2⟩
    · obtain ⟨j, hj, rfl⟩ := nm_of (by omega) hQ
      obtain ⟨v, hv, rfl⟩ := nm_of (by decide) hW
      refine ⟨if v = 0 then nI (s.2 6 j) else if v = 1 then nI (s.2 7 j) else nI (ps_rk s (s.1 5) j), s, ho, fun pl M hX => ?_, ps_om.same (fun M hM => ?_)⟩
      · obtain ⟨p1, p2, p3, p4, p5, p6, p7, p8, p9, p10, p11, p12, p13, p14, p15, p16, p17, p18, p19⟩ := hX.pl
        obtain ⟨-, -, -, -, -, -, -, -, -, -, -, g6, g7, -⟩ := id hX
        have c1 : (nI v < (0 : Int32)) = False := nz_lt0 (by omega)
        have c2 : (nI v ≤ (2 : Int32)) = True := by rw [nm_2, nm_le (by omega) (by decide)]; exact eq_true (by omega)
        have c3 : (nI v = (2 : Int32)) = (v = 2) := nm_eq (by omega) (by decide)
        have c4 : (nI v = (0 : Int32)) = (v = 0) := nm_eq (by omega) (by decide)
        rcases (show v = 0 ∨ v = 1 ∨ v = 2 by omega) with rfl | rfl | rfl
        · refine ⟨pl, M, ?_, hX, am_fx.rf M⟩
          unfold fX9_at
          simp only [p2, am_bs, p9, px_hasp g6, hQ, and_self, if_true, nm_1f, if_false, c1, c2, c3, c4, show ((0 : Nat) = 2) = False from eq_false (by decide), p11, p15, nm_cl (show j < 2147483648 by omega), am_ixc (show j < 40 by omega) (show 40 < 2147483648 by decide), (g7 j hj).1]
        · refine ⟨pl, M, ?_, hX, am_fx.rf M⟩
          unfold fX9_at
          simp only [p2, am_bs, p9, px_hasp g6, hQ, and_self, if_true, nm_1f, if_false, c1, c2, c3, c4, show ((1 : Nat) = 2) = False from eq_false (by decide), show ((1 : Nat) = 0) = False from eq_false (by decide), p12, p16, nm_cl (show j < 2147483648 by omega), am_ixc (show j < 40 by omega) (show 40 < 2147483648 by decide), (g7 j hj).2]
        · obtain ⟨T, t1, t2, t3⟩ := px_arrange ho hX
          obtain ⟨t4, t5⟩ := t2.X hX
          refine ⟨pl, T, ?_, t4, t5⟩
          unfold fX9_at
          simp only [p2, am_bs, p9, px_hasp g6, hQ, and_self, if_true, nm_1f, if_false, c1, c2, c3, p4, p5, t1, px_rankOf ho t4 t3 hj, show ((2 : Nat) = 0) = False from eq_false (by decide), show ((2 : Nat) = 1) = False from eq_false (by decide)]
      · obtain ⟨r7, r8, -, -, -, -, -, -, l55, l56, -⟩ := hM.r
        obtain ⟨m1, m2, m3, m4, m5, m6, m7, m8, m9, m10, m11, m12, m13, m14⟩ := id hM
        have c4 : (nI v = (0 : Int32)) = (v = 0) := nm_eq (by omega) (by decide)
        have c5 : (nI v = (1 : Int32)) = (v = 1) := nm_eq (by omega) (by decide)
        unfold fX10_at
        simp only [pm_ispt ho m8, am_bs, in2, hQ, hW, and_self, if_true, nm_1f, if_false, c4, c5, r7, r8, l55, l56, nm_cl (show j < 2147483648 by omega), am_ixc (show j < 40 by omega) (show 40 < 2147483648 by decide), (m12 j hj).1, (m12 j hj).2, pm_placeOf ho hM hj]
        repeat' split
        all_goals rfl
    · refine ⟨-1, s, ho, ps_ox.same (fun pl M hX => ?_), ps_om.same (fun M hM => ?_)⟩
      · obtain ⟨p1, p2, p3, p4, p5, p6, p7, p8, p9, p10, p11, p12, p13, p14, p15, p16, p17, p18, p19⟩ := hX.pl
        have g6 := hX.2.2.2.2.2.2.2.2.2.2.2.1
        unfold fX9_at
        simp only [p2, am_bs, p9, px_hasp g6, hQ, and_self, if_true, nm_1f, if_false]
        rcases hW2 with c | c
        · rw [if_pos c]
        · by_cases c0 : w < 0
          · rw [if_pos c0]
          · rw [if_neg c0, if_neg c]
      · unfold fX10_at
        simp only [pm_ispt ho hM.2.2.2.2.2.2.2.1, am_bs, in2, hQ, hW, and_self, if_true, nm_1f, if_false]
  · refine ⟨-1, s, ho, ps_ox.same (fun pl M hX => ?_), ps_om.same (fun M hM => ?_)⟩
    · obtain ⟨p1, p2, p3, p4, p5, p6, p7, p8, p9, p10, p11, p12, p13, p14, p15, p16, p17, p18, p19⟩ := hX.pl
      have g6 := hX.2.2.2.2.2.2.2.2.2.2.2.1
      unfold fX9_at
      simp only [p2, am_bs, p9, px_hasp g6, hQ, if_true, if_false]
    · unfold fX10_at
      simp only [pm_ispt ho hM.2.2.2.2.2.2.2.1, am_bs, hQ, if_true, if_false]
theorem op_ordered (a : Int32) : ps_op (fX9_ordered 0 a) (fX10_ordered 53 a) := by
  intro s ho
  have h5 := ho.2.2.2.2.2.2.1
  by_cases h0 : 0 ≤ a
  · by_cases hQ : a < nI (s.1 5)
    · obtain ⟨u, hu, rfl⟩ := nm_of (by omega) ⟨h0, hQ⟩
      obtain ⟨o, hoo⟩ := ps_rk_sur s (s.1 5)
      obtain ⟨w1, w2⟩ := hoo u hu
      refine ⟨nI (o u), s, ho, fun pl M hX => ?_, ps_om.same (fun M hM => ?_)⟩
      · obtain ⟨p1, p2, p3, p4, p5, p6, p7, p8, p9, p10, p11, p12, p13, p14, p15, p16, p17, p18, p19⟩ := hX.pl
        have g6 := hX.2.2.2.2.2.2.2.2.2.2.2.1
        obtain ⟨T, t1, t2, t3⟩ := px_arrange ho hX
        obtain ⟨t4, t5⟩ := t2.X hX
        refine ⟨pl, T, ?_, t4, t5⟩
        have e2 : T.2.2.1 = M.2.2.1 := by rw [t2.1]
        have e3 : am_len T (pl + 4) = 40 := by
          have : am_len T (pl + 4) = am_len M (pl + 4) := by unfold am_len; rw [t2.1]
          rw [this, p17]
        have e4 := t3.at w1
        rw [w2] at e4
        unfold fX9_ordered
        simp only [h0, hQ, and_self, if_true, p2, am_bs, p9, px_hasp g6, nm_1f, if_false, p4, p5, t1, e2, p13, e3, nm_cl (show u < 2147483648 by omega), am_ixc (show u < 40 by omega) (show 40 < 2147483648 by decide), e4]
      · have e := pm_ordAt ho hM w1
        rw [w2] at e
        unfold fX10_ordered
        simp only [h0, if_true, e, am_bs]
    · refine ⟨-4, s, ho, ps_ox.same (fun pl M hX => ?_), ps_om.same (fun M hM => ?_)⟩
      · obtain ⟨p1, p2, p3, p4, p5, p6, p7, p8, p9, p10, p11, p12, p13, p14, p15, p16, p17, p18, p19⟩ := hX.pl
        have g6 := hX.2.2.2.2.2.2.2.2.2.2.2.1
        unfold fX9_ordered
        simp only [h0, hQ, and_false, if_true, p2, am_bs, p9, px_hasp g6, if_false]
      · unfold fX10_ordered
        simp only [h0, if_true, pm_ordNo ho hM (Int32.not_lt.mp hQ), am_bs]
  · refine ⟨-1, s, ho, ps_ox.same (fun pl M hX => ?_), ps_om.same (fun M hM => ?_)⟩
    · unfold fX9_ordered
      simp only [h0, if_false]
    · unfold fX10_ordered
      simp only [h0, if_false]
