/-! levels, box, disc -/
/-- is a cell: both sides -/
theorem px_hasCell {s : ps_S} {pl : Nat} {M : am_M} (ho : ps_ok s) (h : M.1 pl 3 = nI (s.1 0)) (x y : Int32) : fX5_hasCell pl x y M = some (if (0 ≤ x ∧ x < nI (2 ^ s.1 0)) ∧ (0 ≤ y ∧ y < nI (2 ^ s.1 0)) then 1 else 0, M) := by
  obtain ⟨o1, o2, -⟩ := ho
  have hs : fX5_side pl M = some (nI (2 ^ s.1 0), M) := by
    unfold fX5_side
    rw [h, nm_1, nm_31, nm_shl1 (by omega)]
  unfold fX5_hasCell
  simp only [hs, Option.bind_some]
  by_cases a1 : x < 0
  · rw [if_pos a1, if_neg (fun q => absurd a1 (Int32.not_lt.mpr q.1.1))]
  · rw [if_neg a1]
    by_cases a2 : nI (2 ^ s.1 0) ≤ x
    · rw [if_pos a2, if_neg (fun q => absurd q.1.2 (Int32.not_lt.mpr a2))]
    · rw [if_neg a2]
      by_cases a3 : y < 0
      · rw [if_pos a3, if_neg (fun q => absurd a3 (Int32.not_lt.mpr q.2.1))]
      · rw [if_neg a3]
        by_cases a4 : nI (2 ^ s.1 0) ≤ y
        · rw [if_pos a4, if_neg (fun q => absurd q.2.2 (Int32.not_lt.mpr a4))]
        · rw [if_neg a4, if_pos ⟨⟨Int32.not_lt.mp a1, Int32.not_le.mp a2⟩, Int32.not_lt.mp a3, Int32.not_le.mp a4⟩]
theorem nm_pred_lt {n : Nat} (h0 : 0 < n) (h : n < 2147483648) (x : Int32) : (nI n - 1 < x) = (nI n ≤ x) := by
  have e : nI n - 1 = nI (n - 1) := by rw [nm_1, nm_sub (by omega)]
  rw [e]
  have h2 := nI_toInt (n := n - 1) (by omega)
  have h3 := nI_toInt (n := n) (by omega)
  rw [Int32.lt_iff_toInt_lt, Int32.le_iff_toInt_le, h2, h3]
  apply propext
  omega
theorem pm_isCell {s : ps_S} {M : am_M} (ho : ps_ok s) (h : M.1 53 0 = nI (s.1 0)) (x y : Int32) : fX10_isCell 53 x y M = some (if (0 ≤ x ∧ x < nI (2 ^ s.1 0)) ∧ (0 ≤ y ∧ y < nI (2 ^ s.1 0)) then 1 else 0, M) := by
  obtain ⟨o1, o2, -⟩ := ho
  have hp : 2 ^ s.1 0 ≤ 2 ^ 6 := Nat.pow_le_pow_right (by decide) o2
  have hp0 : 0 < 2 ^ s.1 0 := Nat.pow_pos (by decide)
  unfold fX10_isCell fX10_isIn
  have hs := pm_side o2 h
  have hl := nm_pred_lt hp0 (show 2 ^ s.1 0 < 2147483648 by omega)
  have z1 : ((0 : Int32) = 0) = True := eq_self _
  by_cases a1 : x < 0
  · have hf : ¬ ((0 ≤ x ∧ x < nI (2 ^ s.1 0)) ∧ (0 ≤ y ∧ y < nI (2 ^ s.1 0))) := fun q => absurd a1 (Int32.not_lt.mpr q.1.1)
    simp only [hs, hl, a1, hf, if_true, if_false, Option.bind_some, nm_1f, z1]
  · by_cases a2 : nI (2 ^ s.1 0) ≤ x
    · have hf : ¬ ((0 ≤ x ∧ x < nI (2 ^ s.1 0)) ∧ (0 ≤ y ∧ y < nI (2 ^ s.1 0))) := fun q => absurd q.1.2 (Int32.not_lt.mpr a2)
      simp only [hs, hl, a1, a2, hf, if_true, if_false, Option.bind_some, nm_1f, z1]
    · by_cases a3 : y < 0
      · have hf : ¬ ((0 ≤ x ∧ x < nI (2 ^ s.1 0)) ∧ (0 ≤ y ∧ y < nI (2 ^ s.1 0))) := fun q => absurd a3 (Int32.not_lt.mpr q.2.1)
        simp only [hs, hl, a1, a2, a3, hf, if_true, if_false, Option.bind_some, nm_1f, z1]
      · by_cases a4 : nI (2 ^ s.1 0) ≤ y
        · have hf : ¬ ((0 ≤ x ∧ x < nI (2 ^ s.1 0)) ∧ (0 ≤ y ∧ y < nI (2 ^ s.1 0))) := fun q => absurd q.2.2 (Int32.not_lt.mpr a4)
          simp only [hs, hl, a1, a2, a3, a4, hf, if_true, if_false, Option.bind_some, nm_1f, z1]
        · rw [if_pos (c := (0 ≤ x ∧ x < nI (2 ^ s.1 0)) ∧ (0 ≤ y ∧ y < nI (2 ^ s.1 0))) ⟨⟨Int32.not_lt.mp a1, Int32.not_le.mp a2⟩, Int32.not_lt.mp a3, Int32.not_le.mp a4⟩]
          simp only [hs, hl, a1, a2, a3, a4, if_true, if_false, Option.bind_some, nm_1f, z1]
/-- a cell's numbers -/
theorem nm_of {x : Int32} {n : Nat} (hn : n < 2147483648) (h : 0 ≤ x ∧ x < nI n) : ∃ j, j < n ∧ x = nI j := by
  rcases nm_cut x n hn with q | q | q
  · exact absurd q (Int32.not_lt.mpr h.1)
  · exact absurd h.2 (Int32.not_lt.mpr q)
  · exact q
theorem op_levels (a b : Int32) : ps_op (fX9_levels 0 a b) (fX10_levels 53 a b) := by
  intro s ho
  obtain ⟨o1, o2, o3, o4, o5, o6, o7, o8, o9, o10, o11, o12, o13⟩ := id ho
  by_cases hok : 0 ≤ a ∧ a ≤ b ∧ b ≤ nI (s.1 0)
  · obtain ⟨h1, h2, h3⟩ := hok
    obtain ⟨j, hj, rfl⟩ := nm_of (n := s.1 0 + 1) (by omega) ⟨Int32.le_trans h1 h2, by
      rw [Int32.lt_iff_toInt_lt, nI_toInt (by omega)]
      rw [Int32.le_iff_toInt_le, nI_toInt (by omega)] at h3
      omega⟩
    obtain ⟨i, hi, rfl⟩ := nm_of (n := j + 1) (by omega) ⟨h1, by
      rw [Int32.lt_iff_toInt_lt, nI_toInt (by omega)]
      rw [Int32.le_iff_toInt_le, nI_toInt (by omega)] at h2
      omega⟩
    have c1 : ¬ nI i < 0 := nI_pos (by omega)
    have c1' : ¬ nI j < 0 := nI_pos (by omega)
    have c2 : ¬ nI j < nI i := by rw [nm_lt (by omega) (by omega)]; omega
    have c3 : ¬ nI (s.1 0) < nI j := by rw [nm_lt (by omega) (by omega)]; omega
    by_cases hsame : i = s.1 2 ∧ j = s.1 3
    · obtain ⟨rfl, rfl⟩ := hsame
      refine ⟨-2, s, ho, ps_ox.same (fun pl M hX => ?_), ps_om.same (fun M hM => ?_)⟩
      · obtain ⟨p1, p2, p3, p4, p5, p6, p7, p8, -⟩ := hX.pl
        unfold fX9_levels
        simp only [c1, c2, if_false, p2, Option.bind_some, p4, h3, if_true, p6, p7]
      · obtain ⟨m1, m2, m3, m4, m5, m6, -⟩ := hM
        unfold fX10_levels fX10_isIn
        simp only [m3, c1, c1', c2, c3, if_false, Option.bind_some, nm_1f, m5, m6, if_true]
    · have hne : nI i = nI (s.1 2) → ¬ nI j = nI (s.1 3) := by
        rw [nm_eq (by omega) (by omega), nm_eq (by omega) (by omega)]
        intro e1 e2
        exact hsame ⟨e1, e2⟩
      refine ⟨nI (s.1 2 + 10 * s.1 3), ps_n (ps_n s 2 i) 3 j, ⟨o1, o2, o3, by show i ≤ j; omega, by show j ≤ s.1 0; omega, o6, o7, o8, o9, o10, o11, o12, o13⟩, fun pl M hX => ?_, fun M hM => ?_⟩
      · obtain ⟨p1, p2, p3, p4, p5, p6, p7, p8, -⟩ := hX.pl
        have h6 := hX.2.2.2.2.2.1 pl p1
        obtain ⟨-, -, -, -, -, -, g1, g2, g3, g4, g5, g6, g7, g8, -⟩ := id hX
        refine ⟨pl, am_pI (am_pI (am_pI (am_pI M pl 5 (nI i)) pl 6 (nI j)) 5 5 (nI 0)) 5 6 (nI 0), ?_, ?_, ((((am_fx.rf M).pI (by omega) _ _).pI (by omega) _ _).pI (by decide) _ _).pI (by decide) _ _⟩
        · have e47 : fX9_levels_47 0 (nI i) (nI j) M = some (nI (s.1 2 + 10 * s.1 3), am_pI (am_pI (am_pI (am_pI M pl 5 (nI i)) pl 6 (nI j)) 5 5 (nI 0)) 5 6 (nI 0)) := by
            have r1 : (am_pI M pl 5 (nI i)).2.2.1 0 2 = some pl := p2
            have r2 : (am_pI (am_pI M pl 5 (nI i)) pl 6 (nI j)).2.2.1 0 1 = some 5 := p8
            unfold fX9_levels_47 fX0_forget
            simp only [p2, Option.bind_some, r1, r2, p6, p7, nm_10, pk_mul, nI_add]
            rfl
          unfold fX9_levels
          simp only [c1, c2, if_false, p2, Option.bind_some, p4, h3, if_true, p6, p7, e47]
          by_cases q1 : nI i = nI (s.1 2)
          · simp only [q1, if_true]
            have q2 := hne q1
            simp only [q2, if_false]
          · simp only [q1, if_false]
        · have hk : ∀ k l, k ≠ 5 → ¬ (k = pl ∧ l = 5) → ¬ (k = pl ∧ l = 6) → (am_pI (am_pI (am_pI (am_pI M pl 5 (nI i)) pl 6 (nI j)) 5 5 (nI 0)) 5 6 (nI 0)).1 k l = M.1 k l := by
            intro k l h5 h4 h3
            rw [am_pI_1, if_neg (by omega), am_pI_1, if_neg (by omega), am_pI_1, if_neg h3, am_pI_1, if_neg h4]
          refine hX.plan (fun k hk' => ?_) (fun r _ => rfl) rfl (fun k _ => rfl) (fun k q1 q2 q3 => ?_) h6 ?_ ?_ ?_ ?_ ?_ (fun i hi => ?_) rfl rfl
          · show (if k = 3 then _ else if k = 2 then _ else s.1 k) = _
            rw [if_neg (by omega), if_neg (by omega)]
          · funext l
            exact hk k l q1 (by omega) (by omega)
          · exact (hk pl 2 (by omega) (by omega) (by omega)).trans g1
          · exact (hk pl 3 (by omega) (by omega) (by omega)).trans g2
          · exact (hk pl 4 (by omega) (by omega) (by omega)).trans g3
          · rw [am_pI_1, if_neg (by omega), am_pI_1, if_neg (by omega), am_pI_1, if_neg (by omega), am_pI_1, if_pos ⟨rfl, rfl⟩]
            rfl
          · rw [am_pI_1, if_neg (by omega), am_pI_1, if_neg (by omega), am_pI_1, if_pos ⟨rfl, rfl⟩]
            rfl
          · obtain ⟨q, q1, q2, q3, q4⟩ := g8 i hi
            exact ⟨q, q1, q2, q3, fun l hl => (hk q l (by omega) (by omega) (by omega)).trans (q4 l hl)⟩
      · obtain ⟨m1, m2, m3, m4, m5, m6, m7, m8, m9, m10, m11, m12, m13, m14⟩ := id hM
        refine ⟨am_pI (am_pI M 53 2 (nI i)) 53 3 (nI j), ?_, ?_, ((am_fm.rf M).pI (by decide) _ _).pI (by decide) _ _⟩
        · have e42 : fX10_levels_42 53 (nI i) (nI j) M = some (nI (s.1 2 + 10 * s.1 3), am_pI (am_pI M 53 2 (nI i)) 53 3 (nI j)) := by
            unfold fX10_levels_42
            simp only [m5, m6, nm_10, pk_mul, nI_add]
          unfold fX10_levels fX10_isIn
          simp only [m3, c1, c1', c2, c3, if_false, Option.bind_some, nm_1f, m5, m6, if_true, e42]
          by_cases q1 : nI i = nI (s.1 2)
          · simp only [q1, if_true]
            have q2 := hne q1
            simp only [q2, if_false]
          · simp only [q1, if_false]
        · exact ⟨m1, m2, m3, m4, rfl, rfl, m7, m8, m9, m10, fun i j hi hj => by rw [am_pI_1, if_neg (by omega), am_pI_1, if_neg (by omega)]; exact m11 i j hi hj, fun i hi => by rw [am_pI_1, am_pI_1, if_neg (by omega), if_neg (by omega), am_pI_1, am_pI_1, if_neg (by omega), if_neg (by omega)]; exact m12 i hi, fun i hi => by rw [am_pI_1, if_neg (by omega), am_pI_1, if_neg (by omega)]; exact m13 i hi, fun i hi => by rw [am_pI_1, if_neg (by omega), am_pI_1, if_neg (by omega)]; exact m14 i hi⟩
  · refine ⟨-1, s, ho, ps_ox.same (fun pl M hX => ?_), ps_om.same (fun M hM => ?_)⟩
    · obtain ⟨p1, p2, p3, p4, p5, p6, p7, p8, -⟩ := hX.pl
      unfold fX9_levels
      by_cases a1 : a < 0
      · rw [if_pos a1]
      · rw [if_neg a1]
        by_cases a2 : b < a
        · rw [if_pos a2]
        · rw [if_neg a2]
          simp only [p2, Option.bind_some, p4]
          rw [if_neg (fun q => hok ⟨Int32.not_lt.mp a1, Int32.not_lt.mp a2, q⟩)]
    · obtain ⟨m1, m2, m3, m4, m5, m6, -⟩ := hM
      unfold fX10_levels fX10_isIn
      simp only [m3]
      by_cases a1 : b < 0
      · simp only [a1, if_true, Option.bind_some]
      · simp only [a1, if_false]
        by_cases a2 : nI (s.1 0) < b
        · simp only [a2, if_true, Option.bind_some]
        · simp only [a2, if_false, Option.bind_some, nm_1f]
          by_cases a3 : a < 0
          · simp only [a3, if_true, Option.bind_some]
          · simp only [a3, if_false]
            by_cases a4 : b < a
            · simp only [a4, if_true, Option.bind_some]
            · exact absurd ⟨Int32.not_lt.mp a3, Int32.not_lt.mp a4, Int32.not_lt.mp a2⟩ hok
