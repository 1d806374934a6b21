/-! ===== the law ===== -/
theorem in_b1 : ∀ i : Fin 3, ∀ j : Fin 6, in_v1.getD (6 * i.val + j.val) 0 = nI (in_0.2 j.val i.val) := by decide +kernel
theorem in_b2 : ∀ i : Fin 6, in_v2.getD i.val 0 = nI (in_0.2 6 i.val) ∧ in_v3.getD i.val 0 = nI (in_0.2 7 i.val) := by decide +kernel
def lw_I (M : am_M) : Prop := ∃ s pl, ps_ok s ∧ ps_X s pl M ∧ ps_M s M
theorem lw_op {f g : am_M → Option (Int32 × am_M)} (h : ps_op f g) {M : am_M} (hI : lw_I M) : ∃ r M1 M2, f M = some (r, M1) ∧ g M1 = some (r, M2) ∧ lw_I M2 := by
  obtain ⟨s, pl, ho, hX, hM⟩ := hI
  obtain ⟨r, s', ho', hx, hm⟩ := h s ho
  obtain ⟨pl', M1, a1, a2, a3⟩ := hx pl M hX
  obtain ⟨M2, b1, b2, b3⟩ := hm M1 (hM.fr a3)
  exact ⟨r, M1, M2, a1, b1, s', pl', ho', a2.fr b3, b2⟩
theorem lw_begin : ∃ M2, fX9_init 0 in_1 = some M2 ∧ am_n M2 = 53 ∧ ∃ T, fX10_init 53 (am_new M2 14 30) = some T ∧ lw_I T := by
  obtain ⟨M2, a1, ⟨f1, f2, f3, f4, f5⟩, p, a3, a4, a5, a6⟩ := in_cls
  have n2 : am_n M2 = 53 := by show M2.2.2.2.length = 53; rw [f5]; rfl
  have nA : am_n (am_new M2 14 30) = 54 := by rw [am_n_new, n2]
  refine ⟨M2, a1, n2, in_q13 (am_new M2 14 30), in_ref nA, in_0, 23, in_0_ok, ?_, ?_⟩
  · have lo : ∀ a, a < 53 → (in_q13 (am_new M2 14 30)).1 a = M2.1 a ∧ (in_q13 (am_new M2 14 30)).2.2.1 a = M2.2.2.1 a := fun a ha => by
      obtain ⟨q1, q2, q3⟩ := in_lo nA ha
      refine ⟨q1.trans (funext fun i => ?_), q3.trans (funext fun i => ?_)⟩
      · rw [am_new_i, if_neg (by omega)]
      · rw [am_new_r, if_neg (by omega)]
    obtain ⟨p1, p2, p3, p4, p5, p6, p7, p8⟩ := p
    refine ⟨?_, Or.inl rfl, ?_, ?_, fun k j q hk hq => ?_, fun p hp => ?_, ?_⟩
    · rw [in_shp nA]
      show M2.2.2.2 ++ [(14, 30)] ++ _ = am_SH
      rw [f5]; rfl
    · rw [(lo 0 (by decide)).2]; exact f1
    · rw [(lo 0 (by decide)).2]; exact f2
    · rw [(lo k hk).2]; exact f3 k j q hk hq
    · obtain ⟨pi, x, y⟩ := f4 p hp
      exact ⟨pi, fun i hi => by rw [(lo (p + 6) (by omega)).2]; exact x i hi, y⟩
    · rw [(lo 23 (by decide)).1, (lo (23 + 1) (by decide)).1, (lo (23 + 2) (by decide)).1, (lo (23 + 3) (by decide)).1, (lo (23 + 6) (by decide)).2, (lo 1 (by decide)).1, (lo 2 (by decide)).1, (lo 4 (by decide)).1, (lo 5 (by decide)).1, (lo 16 (by decide)).1]
      refine ⟨p1, p2, p3, p4, p5, p6, p7, fun i hi => ?_, a3, a4, fun i hi => absurd hi (Nat.not_lt_zero i), fun i hi => absurd hi (Nat.not_lt_zero i), Or.inl a5, Or.inl a6⟩
      obtain ⟨r, r1, r2, r3, r4⟩ := p8 i hi
      exact ⟨r, r1, r2, r3, fun j hj => by rw [(lo r (by omega)).1]; exact r4 j hj⟩
  · have z : ∀ i, (am_new M2 14 30).1 53 i = 0 := fun i => by rw [am_new_i, if_pos n2.symm]
    have r := in_r53 nA
    obtain ⟨g5, g7, g8, g9, g12, g18, g21, g22, g25, g26, g27, g28⟩ := in_rr nA
    refine ⟨?_, fun k j q hk hq => ?_, ?_, ?_, ?_, ?_, ?_, ?_, ?_, ?_, fun i j hi hj => ?_, fun i hi => ?_, fun i hi => absurd hi (Nat.not_lt_zero i), fun i hi => absurd hi (Nat.not_lt_zero i)⟩
    · rw [in_shp nA]
      show M2.2.2.2 ++ [(14, 30)] ++ _ = am_SH
      rw [f5]; rfl
    · have hx := in_Rf_in hq
      have hh : ∀ x ∈ in_Rf, 53 ≤ x.1 → x = (53, 5, 54) ∨ x = (53, 7, 55) ∨ x = (53, 8, 56) ∨ x = (53, 9, 57) ∨ x = (53, 12, 58) ∨ x = (53, 18, 59) ∨ x = (53, 21, 60) ∨ x = (53, 22, 61) ∨ x = (53, 25, 62) ∨ x = (53, 26, 63) ∨ x = (53, 27, 64) ∨ x = (53, 28, 65) := by decide +kernel
      rcases hh _ hx hk with w | w | w | w | w | w | w | w | w | w | w | w <;> cases w
      · exact g5
      · exact g7
      · exact g8
      · exact g9
      · exact g12
      · exact g18
      · exact g21
      · exact g22
      · exact g25
      · exact g26
      · exact g27
      · exact g28
    · rw [r 0]; rfl
    · rw [r 1]; rfl
    · rw [r 2, if_neg (by decide), if_neg (by decide), if_neg (by decide), if_neg (by decide), if_neg (by decide), z]; rfl
    · rw [r 3]; rfl
    · rw [r 4]; rfl
    · rw [r 6]; rfl
    · rw [r 10, if_neg (by decide), if_neg (by decide), if_neg (by decide), if_neg (by decide), if_neg (by decide), z]; rfl
    · rw [r 11, if_neg (by decide), if_neg (by decide), if_neg (by decide), if_neg (by decide), if_neg (by decide), z]; rfl
    · have hi : i < 3 := hi
      rw [in_r54 nA (by omega)]
      exact in_b1 ⟨i, hi⟩ ⟨j, hj⟩
    · have hi : i < 6 := hi
      rw [in_r55 nA (by omega), in_r56 nA (by omega)]
      exact in_b2 ⟨i, hi⟩
theorem lw_turn (G : am_G) {i : Nat} {M : am_M} (hL : G.2.2.2.2.2.1 ≤ 3072) (hi : 6 * i + 6 ≤ G.2.2.2.2.2.1) (hI : lw_I M) (kk : (Nat × Nat × Int32 × am_M) → Option (Int32 × am_M)) : ∃ M2, lw_I M2 ∧ fL_law_18 G kk (0, 53, nI (6 * i), M) = kk (0, 53, nI (6 * (i + 1)), M2) := by
  generalize hLL : G.2.2.2.2.2.1 = L at *
  have c0 : (Int32.ofNat L - 6 < nI (6 * i)) = False := by
    show (nI L - 6 < nI (6 * i)) = False
    rw [show nI L - 6 = nI (L - 6) from nm_sub (b := 6) (by omega), nm_lt (by omega) (by omega)]
    exact eq_false (by omega)
  have x0 : (nI (6 * i) < 0 ∨ L ≤ (nI (6 * i)).toNatClampNeg) = False := by rw [nm_cl (by omega)]; exact am_ixc (by omega) (by omega)
  have a1 : nI (6 * i) + 1 = nI (6 * i + 1) := nI_add (6 * i) 1
  have x1 : (nI (6 * i + 1) < 0 ∨ L ≤ (nI (6 * i + 1)).toNatClampNeg) = False := by rw [nm_cl (by omega)]; exact am_ixc (by omega) (by omega)
  have a2 : nI (6 * i) + 2 = nI (6 * i + 2) := nI_add (6 * i) 2
  have x2 : (nI (6 * i + 2) < 0 ∨ L ≤ (nI (6 * i + 2)).toNatClampNeg) = False := by rw [nm_cl (by omega)]; exact am_ixc (by omega) (by omega)
  have a3 : nI (6 * i) + 3 = nI (6 * i + 3) := nI_add (6 * i) 3
  have x3 : (nI (6 * i + 3) < 0 ∨ L ≤ (nI (6 * i + 3)).toNatClampNeg) = False := by rw [nm_cl (by omega)]; exact am_ixc (by omega) (by omega)
  have a4 : nI (6 * i) + 4 = nI (6 * i + 4) := nI_add (6 * i) 4
  have x4 : (nI (6 * i + 4) < 0 ∨ L ≤ (nI (6 * i + 4)).toNatClampNeg) = False := by rw [nm_cl (by omega)]; exact am_ixc (by omega) (by omega)
  have a5 : nI (6 * i) + 5 = nI (6 * i + 5) := nI_add (6 * i) 5
  have x5 : (nI (6 * i + 5) < 0 ∨ L ≤ (nI (6 * i + 5)).toNatClampNeg) = False := by rw [nm_cl (by omega)]; exact am_ixc (by omega) (by omega)
  have fin : ∀ M2, fL_law_1088 G kk 0 53 (nI (6 * i)) M2 = kk (0, 53, nI (6 * (i + 1)), M2) := fun M2 => by
    unfold fL_law_1088
    rw [show nI (6 * i) + (6 : Int32) = nI (6 * i + 6) from nI_add (6 * i) 6, show 6 * i + 6 = 6 * (i + 1) by omega]
  unfold fL_law_18
  simp only [hLL, c0, if_false, x0, a1, a2, a3, a4, a5, x1, x2, x3, x4, x5]
  generalize G.2.2.2.2.2.2.1 (nI (6 * i)).toNatClampNeg &&& 31 = w
  by_cases h0 : w = 0
  · obtain ⟨r, M1, M2, e1, e2, e3⟩ := lw_op (op_write (G.2.2.2.2.2.2.1 (nI (6 * i + 1)).toNatClampNeg)) hI
    refine ⟨M2, e3, ?_⟩
    rw [if_pos h0, e1, am_bs]
    simp only [e2, am_bs, if_true]
    exact fin M2
  · rw [if_neg h0]
    by_cases h1 : w = 1
    · obtain ⟨r, M1, M2, e1, e2, e3⟩ := lw_op (op_wipe) hI
      refine ⟨M2, e3, ?_⟩
      rw [if_pos h1, e1, am_bs]
      simp only [e2, am_bs, if_true]
      exact fin M2
    · rw [if_neg h1]
      by_cases h2 : w = 2
      · obtain ⟨r, M1, M2, e1, e2, e3⟩ := lw_op (op_fault) hI
        refine ⟨M2, e3, ?_⟩
        rw [if_pos h2, e1, am_bs]
        simp only [e2, am_bs, if_true]
        exact fin M2
      · rw [if_neg h2]
        by_cases h3 : w = 3
        · obtain ⟨r, M1, M2, e1, e2, e3⟩ := lw_op (op_lay) hI
          refine ⟨M2, e3, ?_⟩
          rw [if_pos h3, e1, am_bs]
          simp only [e2, am_bs, if_true]
          exact fin M2
        · rw [if_neg h3]
          by_cases h4 : w = 4
          · obtain ⟨r, M1, M2, e1, e2, e3⟩ := lw_op (op_cause (G.2.2.2.2.2.2.1 (nI (6 * i + 1)).toNatClampNeg)) hI
            refine ⟨M2, e3, ?_⟩
            rw [if_pos h4, e1, am_bs]
            simp only [e2, am_bs, if_true]
            exact fin M2
          · rw [if_neg h4]
            by_cases h5 : w = 5
            · obtain ⟨r, M1, M2, e1, e2, e3⟩ := lw_op (op_curve (G.2.2.2.2.2.2.1 (nI (6 * i + 1)).toNatClampNeg)) hI
              refine ⟨M2, e3, ?_⟩
              rw [if_pos h5, e1, am_bs]
              simp only [e2, am_bs, if_true]
              exact fin M2
            · rw [if_neg h5]
              by_cases h6 : w = 6
              · obtain ⟨r, M1, M2, e1, e2, e3⟩ := lw_op (op_levels (G.2.2.2.2.2.2.1 (nI (6 * i + 1)).toNatClampNeg) (G.2.2.2.2.2.2.1 (nI (6 * i + 2)).toNatClampNeg)) hI
                refine ⟨M2, e3, ?_⟩
                rw [if_pos h6, e1, am_bs]
                simp only [e2, am_bs, if_true]
                exact fin M2
              · rw [if_neg h6]
                by_cases h7 : w = 7
                · obtain ⟨r, M1, M2, e1, e2, e3⟩ := lw_op (op_box (G.2.2.2.2.2.2.1 (nI (6 * i + 1)).toNatClampNeg) (G.2.2.2.2.2.2.1 (nI (6 * i + 2)).toNatClampNeg) (G.2.2.2.2.2.2.1 (nI (6 * i + 3)).toNatClampNeg) (G.2.2.2.2.2.2.1 (nI (6 * i + 4)).toNatClampNeg) (G.2.2.2.2.2.2.1 (nI (6 * i + 5)).toNatClampNeg)) hI
                  refine ⟨M2, e3, ?_⟩
                  rw [if_pos h7, e1, am_bs]
                  simp only [e2, am_bs, if_true]
                  exact fin M2
                · rw [if_neg h7]
                  by_cases h8 : w = 8
                  · obtain ⟨r, M1, M2, e1, e2, e3⟩ := lw_op (op_disc (G.2.2.2.2.2.2.1 (nI (6 * i + 1)).toNatClampNeg) (G.2.2.2.2.2.2.1 (nI (6 * i + 2)).toNatClampNeg) (G.2.2.2.2.2.2.1 (nI (6 * i + 3)).toNatClampNeg) (G.2.2.2.2.2.2.1 (nI (6 * i + 4)).toNatClampNeg)) hI
                    refine ⟨M2, e3, ?_⟩
                    rw [if_pos h8, e1, am_bs]
                    simp only [e2, am_bs, if_true]
                    exact fin M2
                  · rw [if_neg h8]
                    by_cases h9 : w = 9
                    · obtain ⟨r, M1, M2, e1, e2, e3⟩ := lw_op (op_drop (G.2.2.2.2.2.2.1 (nI (6 * i + 1)).toNatClampNeg)) hI
                      refine ⟨M2, e3, ?_⟩
                      rw [if_pos h9, e1, am_bs]
                      simp only [e2, am_bs, if_true]
                      exact fin M2
                    · rw [if_neg h9]
                      by_cases h10 : w = 10
                      · obtain ⟨r, M1, M2, e1, e2, e3⟩ := lw_op (op_point (G.2.2.2.2.2.2.1 (nI (6 * i + 1)).toNatClampNeg) (G.2.2.2.2.2.2.1 (nI (6 * i + 2)).toNatClampNeg)) hI
                        refine ⟨M2, e3, ?_⟩
                        rw [if_pos h10, e1, am_bs]
                        simp only [e2, am_bs, if_true]
                        exact fin M2
                      · rw [if_neg h10]
                        by_cases h11 : w = 11
                        · obtain ⟨r, M1, M2, e1, e2, e3⟩ := lw_op (op_lift (G.2.2.2.2.2.2.1 (nI (6 * i + 1)).toNatClampNeg)) hI
                          refine ⟨M2, e3, ?_⟩
                          rw [if_pos h11, e1, am_bs]
                          simp only [e2, am_bs, if_true]
                          exact fin M2
                        · rw [if_neg h11]
                          by_cases h12 : w = 12
                          · obtain ⟨r, M1, M2, e1, e2, e3⟩ := lw_op (op_key (G.2.2.2.2.2.2.1 (nI (6 * i + 1)).toNatClampNeg) (G.2.2.2.2.2.2.1 (nI (6 * i + 2)).toNatClampNeg)) hI
                            refine ⟨M2, e3, ?_⟩
                            rw [if_pos h12, e1, am_bs]
                            simp only [e2, am_bs, if_true]
                            exact fin M2
                          · rw [if_neg h12]
                            by_cases h13 : w = 13
                            · obtain ⟨r, M1, M2, e1, e2, e3⟩ := lw_op (op_cell (G.2.2.2.2.2.2.1 (nI (6 * i + 1)).toNatClampNeg) (G.2.2.2.2.2.2.1 (nI (6 * i + 2)).toNatClampNeg)) hI
                              refine ⟨M2, e3, ?_⟩
                              rw [if_pos h13, e1, am_bs]
                              simp only [e2, am_bs, if_true]
                              exact fin M2
                            · rw [if_neg h13]
                              by_cases h14 : w = 14
                              · obtain ⟨r, M1, M2, e1, e2, e3⟩ := lw_op (op_tile (G.2.2.2.2.2.2.1 (nI (6 * i + 1)).toNatClampNeg) (G.2.2.2.2.2.2.1 (nI (6 * i + 2)).toNatClampNeg) (G.2.2.2.2.2.2.1 (nI (6 * i + 3)).toNatClampNeg)) hI
                                refine ⟨M2, e3, ?_⟩
                                rw [if_pos h14, e1, am_bs]
                                simp only [e2, am_bs, if_true]
                                exact fin M2
                              · rw [if_neg h14]
                                by_cases h15 : w = 15
                                · obtain ⟨r, M1, M2, e1, e2, e3⟩ := lw_op (op_beside (G.2.2.2.2.2.2.1 (nI (6 * i + 1)).toNatClampNeg) (G.2.2.2.2.2.2.1 (nI (6 * i + 2)).toNatClampNeg) (G.2.2.2.2.2.2.1 (nI (6 * i + 3)).toNatClampNeg) (G.2.2.2.2.2.2.1 (nI (6 * i + 4)).toNatClampNeg)) hI
                                  refine ⟨M2, e3, ?_⟩
                                  rw [if_pos h15, e1, am_bs]
                                  simp only [e2, am_bs, if_true]
                                  exact fin M2
                                · rw [if_neg h15]
                                  by_cases h16 : w = 16
                                  · obtain ⟨r, M1, M2, e1, e2, e3⟩ := lw_op (op_common (G.2.2.2.2.2.2.1 (nI (6 * i + 1)).toNatClampNeg) (G.2.2.2.2.2.2.1 (nI (6 * i + 2)).toNatClampNeg) (G.2.2.2.2.2.2.1 (nI (6 * i + 3)).toNatClampNeg) (G.2.2.2.2.2.2.1 (nI (6 * i + 4)).toNatClampNeg)) hI
                                    refine ⟨M2, e3, ?_⟩
                                    rw [if_pos h16, e1, am_bs]
                                    simp only [e2, am_bs, if_true]
                                    exact fin M2
                                  · rw [if_neg h16]
                                    by_cases h17 : w = 17
                                    · obtain ⟨r, M1, M2, e1, e2, e3⟩ := lw_op (op_leaps) hI
                                      refine ⟨M2, e3, ?_⟩
                                      rw [if_pos h17, e1, am_bs]
                                      simp only [e2, am_bs, if_true]
                                      exact fin M2
                                    · rw [if_neg h17]
                                      by_cases h18 : w = 18
                                      · obtain ⟨r, M1, M2, e1, e2, e3⟩ := lw_op (op_in (G.2.2.2.2.2.2.1 (nI (6 * i + 1)).toNatClampNeg) (G.2.2.2.2.2.2.1 (nI (6 * i + 2)).toNatClampNeg)) hI
                                        refine ⟨M2, e3, ?_⟩
                                        rw [if_pos h18, e1, am_bs]
                                        simp only [e2, am_bs, if_true]
                                        exact fin M2
                                      · rw [if_neg h18]
                                        by_cases h19 : w = 19
                                        · obtain ⟨r, M1, M2, e1, e2, e3⟩ := lw_op (op_cover (G.2.2.2.2.2.2.1 (nI (6 * i + 1)).toNatClampNeg) (G.2.2.2.2.2.2.1 (nI (6 * i + 2)).toNatClampNeg) (G.2.2.2.2.2.2.1 (nI (6 * i + 3)).toNatClampNeg)) hI
                                          refine ⟨M2, e3, ?_⟩
                                          rw [if_pos h19, e1, am_bs]
                                          simp only [e2, am_bs, if_true]
                                          exact fin M2
                                        · rw [if_neg h19]
                                          by_cases h20 : w = 20
                                          · obtain ⟨r, M1, M2, e1, e2, e3⟩ := lw_op (op_rest (G.2.2.2.2.2.2.1 (nI (6 * i + 1)).toNatClampNeg)) hI
                                            refine ⟨M2, e3, ?_⟩
                                            rw [if_pos h20, e1, am_bs]
                                            simp only [e2, am_bs, if_true]
                                            exact fin M2
                                          · rw [if_neg h20]
                                            by_cases h21 : w = 21
                                            · obtain ⟨r, M1, M2, e1, e2, e3⟩ := lw_op (op_best (G.2.2.2.2.2.2.1 (nI (6 * i + 1)).toNatClampNeg)) hI
                                              refine ⟨M2, e3, ?_⟩
                                              rw [if_pos h21, e1, am_bs]
                                              simp only [e2, am_bs, if_true]
                                              exact fin M2
                                            · rw [if_neg h21]
                                              by_cases h22 : w = 22
                                              · obtain ⟨r, M1, M2, e1, e2, e3⟩ := lw_op (op_span (G.2.2.2.2.2.2.1 (nI (6 * i + 1)).toNatClampNeg) (G.2.2.2.2.2.2.1 (nI (6 * i + 2)).toNatClampNeg) (G.2.2.2.2.2.2.1 (nI (6 * i + 3)).toNatClampNeg)) hI
                                                refine ⟨M2, e3, ?_⟩
                                                rw [if_pos h22, e1, am_bs]
                                                simp only [e2, am_bs, if_true]
                                                exact fin M2
                                              · rw [if_neg h22]
                                                by_cases h23 : w = 23
                                                · obtain ⟨r, M1, M2, e1, e2, e3⟩ := lw_op (op_joined (G.2.2.2.2.2.2.1 (nI (6 * i + 1)).toNatClampNeg) (G.2.2.2.2.2.2.1 (nI (6 * i + 2)).toNatClampNeg)) hI
                                                  refine ⟨M2, e3, ?_⟩
                                                  rw [if_pos h23, e1, am_bs]
                                                  simp only [e2, am_bs, if_true]
                                                  exact fin M2
                                                · rw [if_neg h23]
                                                  by_cases h24 : w = 24
                                                  · obtain ⟨r, M1, M2, e1, e2, e3⟩ := lw_op (op_at (G.2.2.2.2.2.2.1 (nI (6 * i + 1)).toNatClampNeg) (G.2.2.2.2.2.2.1 (nI (6 * i + 2)).toNatClampNeg)) hI
                                                    refine ⟨M2, e3, ?_⟩
                                                    rw [if_pos h24, e1, am_bs]
                                                    simp only [e2, am_bs, if_true]
                                                    exact fin M2
                                                  · rw [if_neg h24]
                                                    by_cases h25 : w = 25
                                                    · obtain ⟨r, M1, M2, e1, e2, e3⟩ := lw_op (op_ordered (G.2.2.2.2.2.2.1 (nI (6 * i + 1)).toNatClampNeg)) hI
                                                      refine ⟨M2, e3, ?_⟩
                                                      rw [if_pos h25, e1, am_bs]
                                                      simp only [e2, am_bs, if_true]
                                                      exact fin M2
                                                    · rw [if_neg h25]
                                                      by_cases h26 : w = 26
                                                      · obtain ⟨r, M1, M2, e1, e2, e3⟩ := lw_op (op_search (G.2.2.2.2.2.2.1 (nI (6 * i + 1)).toNatClampNeg)) hI
                                                        refine ⟨M2, e3, ?_⟩
                                                        rw [if_pos h26, e1, am_bs]
                                                        simp only [e2, am_bs, if_true]
                                                        exact fin M2
                                                      · rw [if_neg h26]
                                                        by_cases h27 : w = 27
                                                        · obtain ⟨r, M1, M2, e1, e2, e3⟩ := lw_op (op_found (G.2.2.2.2.2.2.1 (nI (6 * i + 1)).toNatClampNeg)) hI
                                                          refine ⟨M2, e3, ?_⟩
                                                          rw [if_pos h27, e1, am_bs]
                                                          simp only [e2, am_bs, if_true]
                                                          exact fin M2
                                                        · rw [if_neg h27]
                                                          by_cases h28 : w = 28
                                                          · obtain ⟨r, M1, M2, e1, e2, e3⟩ := lw_op (op_nearest (G.2.2.2.2.2.2.1 (nI (6 * i + 1)).toNatClampNeg) (G.2.2.2.2.2.2.1 (nI (6 * i + 2)).toNatClampNeg)) hI
                                                            refine ⟨M2, e3, ?_⟩
                                                            rw [if_pos h28, e1, am_bs]
                                                            simp only [e2, am_bs, if_true]
                                                            exact fin M2
                                                          · rw [if_neg h28]
                                                            by_cases h29 : w = 29
                                                            · obtain ⟨r, M1, M2, e1, e2, e3⟩ := lw_op (op_count (G.2.2.2.2.2.2.1 (nI (6 * i + 1)).toNatClampNeg)) hI
                                                              refine ⟨M2, e3, ?_⟩
                                                              rw [if_pos h29, e1, am_bs]
                                                              simp only [e2, am_bs, if_true]
                                                              exact fin M2
                                                            · rw [if_neg h29]
                                                              exact ⟨M, hI, fin M⟩
theorem lw_all (G : am_G) (hL : G.2.2.2.2.2.1 ≤ 3072) : ∃ M', fL_law G (fun _ _ => 0, fun _ _ => 0, fun _ _ => none, []) = some (1, M') ∧ M'.2.2.2 = am_SH := by
  obtain ⟨M2, b1, b2, T, b3, b4⟩ := lw_begin
  have e0 : fL_law G (fun _ _ => 0, fun _ _ => 0, fun _ _ => none, []) = (fX9_init 0 in_1).bind fun M2 => fL_law_11 G 0 (am_n M2) (am_new M2 14 30) := rfl
  rw [e0, b1, am_bs, b2]
  unfold fL_law_11
  rw [b3, am_bs]
  exact am_loop_inv (f := fL_law_18 G) (fun i st => ∃ M, st = (0, 53, nI (6 * i), M) ∧ lw_I M) (fun r => ∃ M', r = some (1, M') ∧ M'.2.2.2 = am_SH) (G.2.2.2.2.2.1 / 6)
    (fun i st kk hi ⟨M, e, hI⟩ => by
      subst e
      obtain ⟨M2, c1, c2⟩ := lw_turn G (i := i) hL (by omega) hI kk
      exact Or.inl ⟨_, ⟨M2, rfl, c1⟩, c2⟩)
    (fun st kk ⟨M, e, hI⟩ => by
      subst e
      obtain ⟨s, pl, -, hX, -⟩ := hI
      refine ⟨M, ?_, hX.1⟩
      have c0 : (Int32.ofNat G.2.2.2.2.2.1 - 6 < nI (6 * (G.2.2.2.2.2.1 / 6))) = True := by
        generalize G.2.2.2.2.2.1 = L at *
        show (nI L - 6 < nI (6 * (L / 6))) = True
        by_cases c : L < 6
        · rw [show L / 6 = 0 by omega]
          exact eq_true (nz_below (b := 6) c (by decide))
        · rw [show nI L - 6 = nI (L - 6) from nm_sub (b := 6) (by omega), nm_lt (by omega) (by omega)]
          exact eq_true (by omega)
      unfold fL_law_18
      simp only [c0, if_true])
    100000 0 (0, 53, 0, T) (Nat.zero_le _) (by omega) ⟨T, rfl, b4⟩
