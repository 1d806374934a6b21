theorem nm_1f : ((1 : Int32) = 0) = False := by decide
/-! wipe, cause, curve, levels -/
theorem ps_ok.n6 {s : ps_S} (h : ps_ok s) : ps_ok (ps_n s 6 0) := by
  obtain ⟨o1, o2, o3, o4, o5, o6, o7, o8, o9, o10, o11, o12, o13⟩ := h
  exact ⟨o1, o2, o3, o4, o5, o6, o7, by show (0 : Nat) ≤ 200; omega, o9, o10, o11, fun i hi => absurd (show i < 0 from hi) (Nat.not_lt_zero i), o13⟩
theorem op_wipe : ps_op (fX9_wipe 0) (fX10_wipe 53) := by
  intro s ho
  refine ⟨nI (s.1 6), ps_n s 6 0, ho.n6, fun pl M hX => ?_, fun M hM => ?_⟩
  · have e1 := hX.2.2.2.2.1 0 0 1 (by decide) rfl
    obtain ⟨-, -, -, -, -, -, -, -, -, -, -, -, -, -, g9, g10, g11, g12, -⟩ := id hX
    refine ⟨pl, am_pI M 1 3 (nI 0), ?_, ?_, (am_fx.rf M).pI (by decide) _ _⟩
    · unfold fX9_wipe fX7_clear
      rw [e1, Option.bind_some, Option.bind_some, Option.bind_some, g9]
      rfl
    · refine hX.text (fun k hk => ?_) (fun r hr => rfl) rfl rfl rfl (fun k hk => am_pI_r _ _ _ _ (by omega)) rfl ?_ (fun i hi => absurd (show i < 0 from hi) (Nat.not_lt_zero i)) (fun i hi => ?_)
      · show (if k = 6 then _ else s.1 k) = _
        rw [if_neg (by omega)]
      · show (am_pI M 1 3 (nI 0)).1 1 4 = nI (s.1 7)
        rw [am_pI_1, if_neg (by omega)]
        exact g10
      · rw [am_pI_1, if_neg (by omega)]
        exact g12 i hi
  · obtain ⟨m1, m2, m3, m4, m5, m6, m7, m8, m9, m10, m11, m12, m13, m14⟩ := id hM
    refine ⟨am_pI M 53 10 (nI 0), ?_, ?_, (am_fm.rf M).pI (by decide) _ _⟩
    · unfold fX10_wipe
      rw [m9]; rfl
    · exact ⟨m1, m2, m3, m4, m5, m6, m7, m8, rfl, m10, fun i j hi hj => by rw [am_pI_1, if_neg (by omega)]; exact m11 i j hi hj, fun i hi => by rw [am_pI_1, am_pI_1, if_neg (by omega), if_neg (by omega)]; exact m12 i hi, fun i hi => absurd (show i < 0 from hi) (Nat.not_lt_zero i), fun i hi => by rw [am_pI_1, if_neg (by omega)]; exact m14 i hi⟩
theorem op_cause (a : Int32) : ps_op (fX9_cause 0 a) (fX10_cause 53 a) := by
  intro s ho
  obtain ⟨o1, o2, o3, o4, o5, o6, o7, o8, o9, o10, o11, o12, o13⟩ := id ho
  rcases nm_cut a (s.1 7) (by omega) with h | h | ⟨n, hn, rfl⟩
  · have h0 : ¬ (0 : Int32) ≤ a := (nm_neg h (n := 0) (by decide)).2.2.2.1
    refine ⟨-1, s, ho, ps_ox.same (fun pl M hX => ?_), ps_om.same (fun M hM => ?_)⟩
    · unfold fX9_cause; rw [if_neg h0]
    · unfold fX10_cause; rw [if_neg h0]
  · have h0 : (0 : Int32) ≤ a := Int32.le_trans (show (0 : Int32) ≤ nI (s.1 7) from nI_pos' (by omega)) h
    refine ⟨-4, s, ho, ps_ox.same (fun pl M hX => ?_), ps_om.same (fun M hM => ?_)⟩
    · have e1 := hX.2.2.2.2.1 0 0 1 (by decide) rfl
      obtain ⟨-, -, -, -, -, -, -, -, -, -, -, -, -, -, g9, g10, -⟩ := hX
      unfold fX9_cause
      rw [if_pos h0, e1, Option.bind_some, g10, if_pos h]
    · obtain ⟨-, -, -, -, -, -, -, -, -, m10, -⟩ := hM
      unfold fX10_cause
      rw [if_pos h0, m10, if_pos h]
  · have h0 : (0 : Int32) ≤ nI n := nI_pos' (by omega)
    have h1 : ¬ nI (s.1 7) ≤ nI n := by rw [nm_le (by omega) (by omega)]; omega
    refine ⟨nI (s.2 9 n), s, ho, ps_ox.same (fun pl M hX => ?_), ps_om.same (fun M hM => ?_)⟩
    · have e1 := hX.2.2.2.2.1 0 0 1 (by decide) rfl
      have e2 := hX.2.2.2.2.1 1 2 4 (by decide) rfl
      have e3 : am_len M 4 = 3 := am_len_SH hX.1 4
      obtain ⟨-, -, -, -, -, -, -, -, -, -, -, -, -, -, g9, g10, g11, g12, -⟩ := hX
      unfold fX9_cause
      rw [if_pos h0, e1, Option.bind_some, g10, if_neg h1, Option.bind_some, e2, Option.bind_some, e3, am_ix (by omega) (by decide), nm_cl (by omega), g12 n hn]
    · have e2 := hM.2.1 53 12 58 (by decide) rfl
      have e3 : am_len M 58 = 3 := am_len_SH hM.1 58
      obtain ⟨m1, m2, m3, m4, m5, m6, m7, m8, m9, m10, m11, m12, m13, m14⟩ := hM
      unfold fX10_cause
      rw [if_pos h0, m10, if_neg h1, e2, Option.bind_some, e3, am_ix (by omega) (by decide), nm_cl (by omega), m14 n hn]
/-- what the plan of the class says -/
theorem ps_X.pl {s : ps_S} {pl : Nat} {M : am_M} (h : ps_X s pl M) : (pl = 23 ∨ pl = 38) ∧ M.2.2.1 0 2 = some pl ∧ M.1 pl 2 = nI (s.1 4) ∧ M.1 pl 3 = nI (s.1 0) ∧ M.1 pl 4 = nI (s.1 1) ∧ M.1 pl 5 = nI (s.1 2) ∧ M.1 pl 6 = nI (s.1 3) ∧ M.2.2.1 0 1 = some 5 ∧ M.2.2.1 pl 0 = some (pl + 1) ∧ M.2.2.1 pl 1 = some (pl + 6) ∧ M.2.2.1 (pl + 1) 0 = some (pl + 2) ∧ M.2.2.1 (pl + 1) 1 = some (pl + 3) ∧ M.2.2.1 (pl + 1) 2 = some (pl + 4) ∧ M.2.2.1 (pl + 1) 3 = some (pl + 5) ∧ am_len M (pl + 2) = 40 ∧ am_len M (pl + 3) = 40 ∧ am_len M (pl + 4) = 40 ∧ am_len M (pl + 5) = 40 ∧ am_len M (pl + 6) = 8 := by
  obtain ⟨h1, h2, h3, h4, h5, h6, g1, g2, g3, g4, g5, g6, g7, g8, -⟩ := h
  refine ⟨h2, h3, g1, g2, g3, g4, g5, h5 0 1 5 (by decide) rfl, ?_⟩
  rcases h2 with rfl | rfl
  · exact ⟨h5 23 0 24 (by decide) rfl, h5 23 1 29 (by decide) rfl, h5 24 0 25 (by decide) rfl, h5 24 1 26 (by decide) rfl, h5 24 2 27 (by decide) rfl, h5 24 3 28 (by decide) rfl, am_len_SH h1 25, am_len_SH h1 26, am_len_SH h1 27, am_len_SH h1 28, am_len_SH h1 29⟩
  · exact ⟨h5 38 0 39 (by decide) rfl, h5 38 1 44 (by decide) rfl, h5 39 0 40 (by decide) rfl, h5 39 1 41 (by decide) rfl, h5 39 2 42 (by decide) rfl, h5 39 3 43 (by decide) rfl, am_len_SH h1 40, am_len_SH h1 41, am_len_SH h1 42, am_len_SH h1 43, am_len_SH h1 44⟩
theorem op_curve (a : Int32) : ps_op (fX9_curve 0 a) (fX10_curve 53 a) := by
  intro s ho
  obtain ⟨o1, o2, o3, o4, o5, o6, o7, o8, o9, o10, o11, o12, o13⟩ := id ho
  have bad : ¬ a = 0 → ¬ a = 1 → (a < 0 ∨ 1 < a) → ∃ r s', ps_ok s' ∧ ps_ox (fX9_curve 0 a) s r s' ∧ ps_om (fX10_curve 53 a) s r s' := by
    intro h0 h1 h2
    refine ⟨-1, s, ho, ps_ox.same (fun pl M hX => ?_), ps_om.same (fun M hM => ?_)⟩
    · unfold fX9_curve fX9_isBit; rw [if_neg h0, if_neg h1]; rfl
    · unfold fX10_curve fX10_isIn
      rcases h2 with h | h
      · rw [if_pos h]; rfl
      · by_cases hn : a < 0
        · rw [if_pos hn]; rfl
        · rw [if_neg hn, if_pos h]; rfl
  rcases nm_cut a 2 (by decide) with h | h | ⟨n, hn, rfl⟩
  · exact bad (nm_neg h (n := 0) (by decide)).2.2.2.2.1 (nm_neg h (n := 1) (by decide)).2.2.2.2.1 (Or.inl h)
  · exact bad (nm_big (by decide) h (n := 0) (by decide)).2.2.2.2.1 (nm_big (by decide) h (n := 1) (by decide)).2.2.2.2.1 (Or.inr (nm_big (by decide) h (n := 1) (by decide)).1)
  · have b1 : fX9_isBit (nI n) = fun M => some (1, M) := by
      funext M
      unfold fX9_isBit
      rcases (show n = 0 ∨ n = 1 by omega) with rfl | rfl
      · rfl
      · rfl
    have b2 : fX10_isIn (nI n) 0 1 = fun M => some (1, M) := by
      funext M
      unfold fX10_isIn
      rcases (show n = 0 ∨ n = 1 by omega) with rfl | rfl
      · rfl
      · rfl
    by_cases hc : n = s.1 1
    · subst hc
      refine ⟨-2, s, ho, ps_ox.same (fun pl M hX => ?_), ps_om.same (fun M hM => ?_)⟩
      · obtain ⟨p1, p2, p3, p4, p5, p6, p7, p8, -⟩ := hX.pl
        unfold fX9_curve
        simp only [b1, Option.bind_some, nm_1f, if_false, p2, p5, if_true]
      · obtain ⟨-, -, -, m4, -⟩ := hM
        unfold fX10_curve
        simp only [b2, Option.bind_some, nm_1f, if_false, m4, if_true]
    · have hne : ¬ nI n = nI (s.1 1) := by rw [nm_eq (by omega) (by omega)]; exact hc
      refine ⟨nI (s.1 1), ps_n s 1 n, ⟨o1, o2, by show n ≤ 1; omega, o4, o5, o6, o7, o8, o9, o10, o11, o12, o13⟩, fun pl M hX => ?_, fun M hM => ?_⟩
      · obtain ⟨p1, p2, p3, p4, p5, p6, p7, p8, -⟩ := hX.pl
        have h6 := hX.2.2.2.2.2.1 pl p1
        obtain ⟨-, -, -, -, -, -, g1, g2, g3, g4, g5, g6, g7, g8, -⟩ := id hX
        refine ⟨pl, am_pI (am_pI (am_pI M pl 4 (nI n)) 5 5 (nI 0)) 5 6 (nI 0), ?_, ?_, (((am_fx.rf M).pI (by omega) _ _).pI (by decide) _ _).pI (by decide) _ _⟩
        · have r2 : (am_pI M pl 4 (nI n)).2.2.1 0 1 = some 5 := p8
          unfold fX9_curve fX0_forget
          simp only [b1, Option.bind_some, nm_1f, if_false, p2, p5, hne, r2]
          rfl
        · have hk : ∀ k j, k ≠ 5 → ¬ (k = pl ∧ j = 4) → (am_pI (am_pI (am_pI M pl 4 (nI n)) 5 5 (nI 0)) 5 6 (nI 0)).1 k j = M.1 k j := by
            intro k j h5 h4
            rw [am_pI_1, if_neg (by omega), am_pI_1, if_neg (by omega), am_pI_1, if_neg h4]
          refine hX.plan (fun k hk' => ?_) (fun r _ => rfl) rfl (fun k _ => rfl) (fun k q1 q2 q3 => ?_) h6 ?_ ?_ ?_ ?_ ?_ (fun i hi => ?_) rfl rfl
          · show (if k = 1 then _ else s.1 k) = _
            rw [if_neg (by omega)]
          · funext j
            exact hk k j q1 (by omega)
          · exact (hk pl 2 (by omega) (by omega)).trans g1
          · exact (hk pl 3 (by omega) (by omega)).trans g2
          · rw [am_pI_1, if_neg (by omega), am_pI_1, if_neg (by omega), am_pI_1, if_pos ⟨rfl, rfl⟩]
            rfl
          · exact (hk pl 5 (by omega) (by omega)).trans g4
          · exact (hk pl 6 (by omega) (by omega)).trans g5
          · obtain ⟨q, q1, q2, q3, q4⟩ := g8 i hi
            exact ⟨q, q1, q2, q3, fun j hj => (hk q j (by omega) (by omega)).trans (q4 j hj)⟩
      · obtain ⟨m1, m2, m3, m4, m5, m6, m7, m8, m9, m10, m11, m12, m13, m14⟩ := id hM
        refine ⟨am_pI M 53 1 (nI n), ?_, ?_, (am_fm.rf M).pI (by decide) _ _⟩
        · unfold fX10_curve
          simp only [b2, Option.bind_some, nm_1f, if_false, m4, hne]
          rw [nm_1, nm_sub (by omega), show 1 - n = s.1 1 by omega]
        · exact ⟨m1, m2, m3, rfl, m5, m6, m7, m8, m9, m10, fun i j hi hj => by rw [am_pI_1, if_neg (by omega)]; exact m11 i j hi hj, fun i hi => by rw [am_pI_1, am_pI_1, if_neg (by omega), if_neg (by omega)]; exact m12 i hi, fun i hi => by rw [am_pI_1, if_neg (by omega)]; exact m13 i hi, fun i hi => by rw [am_pI_1, if_neg (by omega)]; exact m14 i hi⟩
