/-! box, disc -/
def ps_more (s : ps_S) (f : Nat → Nat) : ps_S := (fun j => if j = 4 then s.1 4 + 1 else s.1 j, fun b => if b < 6 then (fun i => if i = s.1 4 then f b else s.2 b i) else s.2 b)
theorem ps_more_ok {s : ps_S} (ho : ps_ok s) (h8 : s.1 4 < 8) {f : Nat → Nat} (h : f 0 ≤ 1 ∧ f 1 ≤ 1 ∧ f 2 < 64 ∧ f 3 < 64 ∧ f 4 < 64 ∧ f 5 < 64) : ps_ok (ps_more s f) := by
  obtain ⟨o1, o2, o3, o4, o5, o6, o7, o8, o9, o10, o11, o12, o13⟩ := ho
  refine ⟨o1, o2, o3, o4, o5, by show s.1 4 + 1 ≤ 8; omega, o7, o8, o9, fun i hi => ?_, o11, o12, o13⟩
  have hi : i < s.1 4 + 1 := hi
  show (if i = s.1 4 then f 0 else s.2 0 i) ≤ 1 ∧ (if i = s.1 4 then f 1 else s.2 1 i) ≤ 1 ∧ (if i = s.1 4 then f 2 else s.2 2 i) < 64 ∧ (if i = s.1 4 then f 3 else s.2 3 i) < 64 ∧ (if i = s.1 4 then f 4 else s.2 4 i) < 64 ∧ (if i = s.1 4 then f 5 else s.2 5 i) < 64
  by_cases c : i = s.1 4
  · simp only [c, if_true]; exact h
  · simp only [c, if_false]; exact o10 i (by omega)
/-- six fields of a part's row -/
def am_six (M : am_M) (q : Nat) (a b c d e f : Int32) : am_M := am_pI (am_pI (am_pI (am_pI (am_pI (am_pI M q 0 a) q 1 b) q 2 c) q 3 d) q 4 e) q 5 f
theorem am_six_o (M : am_M) (q : Nat) (a b c d e f : Int32) {k : Nat} (h : k ≠ q) : (am_six M q a b c d e f).1 k = M.1 k := by
  unfold am_six
  rw [am_pI_r _ _ _ _ h, am_pI_r _ _ _ _ h, am_pI_r _ _ _ _ h, am_pI_r _ _ _ _ h, am_pI_r _ _ _ _ h, am_pI_r _ _ _ _ h]
theorem am_six_in (M : am_M) (q : Nat) (g : Nat → Int32) {j : Nat} (hj : j < 6) : (am_six M q (g 0) (g 1) (g 2) (g 3) (g 4) (g 5)).1 q j = g j := by
  unfold am_six
  simp only [am_pI_1, true_and]
  rcases (show j = 0 ∨ j = 1 ∨ j = 2 ∨ j = 3 ∨ j = 4 ∨ j = 5 by omega) with rfl | rfl | rfl | rfl | rfl | rfl <;> rfl
theorem px_more {s : ps_S} {pl : Nat} {M : am_M} (hX : ps_X s pl M) (h8 : s.1 4 < 8) (f : Nat → Nat) {q : Nat} (hq : M.2.2.1 (pl + 6) (s.1 4) = some q) : ps_X (ps_more s f) pl (am_pI (am_pI (am_pI (am_six M q (nI (f 0)) (nI (f 1)) (nI (f 2)) (nI (f 3)) (nI (f 4)) (nI (f 5))) pl 2 (nI (s.1 4 + 1))) 5 5 (nI 0)) 5 6 (nI 0)) ∧ (pl + 7 ≤ q ∧ q < pl + 15) := by
  obtain ⟨p1, p2, p3, p4, p5, p6, p7, p8, p9, p10, -⟩ := hX.pl
  have h6 := hX.2.2.2.2.2.1 pl p1
  obtain ⟨pi, hpi, hinj⟩ := id h6
  obtain ⟨-, -, -, -, -, -, g1, g2, g3, g4, g5, g6, g7, g8, -⟩ := id hX
  have hq2 : q = pl + 7 + pi (s.1 4) := Option.some.inj (hq.symm.trans (hpi _ h8).2)
  have hb : pl + 7 ≤ q ∧ q < pl + 15 := by have := (hpi _ h8).1; omega
  refine ⟨?_, hb⟩
  have hin : ∀ j, j < 6 → (am_six M q (nI (f 0)) (nI (f 1)) (nI (f 2)) (nI (f 3)) (nI (f 4)) (nI (f 5))).1 q j = nI (f j) := fun j hj => am_six_in M q (fun t => nI (f t)) hj
  have ho : ∀ k, k ≠ q → (am_six M q (nI (f 0)) (nI (f 1)) (nI (f 2)) (nI (f 3)) (nI (f 4)) (nI (f 5))).1 k = M.1 k := fun k hk => am_six_o M q _ _ _ _ _ _ hk
  have hR : (am_six M q (nI (f 0)) (nI (f 1)) (nI (f 2)) (nI (f 3)) (nI (f 4)) (nI (f 5))).2 = M.2 := rfl
  generalize am_six M q (nI (f 0)) (nI (f 1)) (nI (f 2)) (nI (f 3)) (nI (f 4)) (nI (f 5)) = T at hin ho hR
  have hk : ∀ k i, k ≠ 5 → ¬ (k = pl ∧ i = 2) → (am_pI (am_pI (am_pI T pl 2 (nI (s.1 4 + 1))) 5 5 (nI 0)) 5 6 (nI 0)).1 k i = T.1 k i := fun k i h5 h => by
    rw [am_pI_1, if_neg (by omega), am_pI_1, if_neg (by omega), am_pI_1, if_neg h]
  have hRR : (am_pI (am_pI (am_pI T pl 2 (nI (s.1 4 + 1))) 5 5 (nI 0)) 5 6 (nI 0)).2 = M.2 := hR
  refine hX.plan (fun k hk' => ?_) (fun r hr => ?_) (by rw [hRR]) (fun k _ => by rw [hRR]) (fun k q1 q2 q3 => ?_) (by rw [hRR]; exact h6) ?_ ?_ ?_ ?_ ?_ (fun i hi => ?_) rfl rfl
  · show (if k = 4 then _ else s.1 k) = _
    rw [if_neg (by omega)]
  · show (if r < 6 then _ else s.2 r) = _
    rw [if_neg (by omega)]
  · funext i
    rw [hk k i q1 (by omega), ho k (by omega)]
  · rw [am_pI_1, if_neg (by omega), am_pI_1, if_neg (by omega), am_pI_1, if_pos ⟨rfl, rfl⟩]; rfl
  · rw [hk pl 3 (by omega) (by omega), ho pl (by omega)]; exact g2
  · rw [hk pl 4 (by omega) (by omega), ho pl (by omega)]; exact g3
  · rw [hk pl 5 (by omega) (by omega), ho pl (by omega)]; exact g4
  · rw [hk pl 6 (by omega) (by omega), ho pl (by omega)]; exact g5
  · have hi : i < s.1 4 + 1 := hi
    rw [hRR]
    by_cases c : i = s.1 4
    · refine ⟨q, by rw [c]; exact hq, hb.1, hb.2, fun j hj => ?_⟩
      rw [hk q j (by omega) (by omega), hin j hj]
      show _ = nI ((if j < 6 then (fun i => if i = s.1 4 then f j else s.2 j i) else s.2 j) i)
      rw [if_pos hj]
      simp only [c, if_true]
    · obtain ⟨q', q1, q2, q3, q4⟩ := g8 i (by omega)
      have hne : q' ≠ q := by
        rintro rfl
        have e9 : q' = pl + 7 + pi i := Option.some.inj (q1.symm.trans (hpi i (by omega)).2)
        exact c (hinj _ _ (by omega) h8 (by omega))
      refine ⟨q', q1, q2, q3, fun j hj => ?_⟩
      rw [hk q' j (by omega) (by omega), ho q' hne, q4 j hj]
      show _ = nI ((if j < 6 then (fun i => if i = s.1 4 then f j else s.2 j i) else s.2 j) i)
      rw [if_pos hj]
      simp only [c, if_false]
theorem pm_puts {M : am_M} (h1 : M.2.2.1 53 5 = some 54) (h2 : am_len M 54 = 48) {n : Nat} (hn : n < 8) (a b c d e f : Int32) : fX10_puts 53 (nI n) a b c d e f M = some (am_pI (am_pI (am_pI (am_pI (am_pI (am_pI M 54 (6 * n) a) 54 (6 * n + 1) b) 54 (6 * n + 2) c) 54 (6 * n + 3) d) 54 (6 * n + 4) e) 54 (6 * n + 5) f) := by
  have e0 : (6 : Int32) * nI n = nI (6 * n) := by rw [nm_6, pk_mul]
  have e1 : nI (6 * n) + 1 = nI (6 * n + 1) := nI_1 _
  have e2 : nI (6 * n) + 2 = nI (6 * n + 2) := nI_add _ 2
  have e3 : nI (6 * n) + 3 = nI (6 * n + 3) := nI_add _ 3
  have e4 : nI (6 * n) + 4 = nI (6 * n + 4) := nI_add _ 4
  have e5 : nI (6 * n) + 5 = nI (6 * n + 5) := nI_add _ 5
  unfold fX10_puts
  simp only [e0, e1, e2, e3, e4, e5, am_pI_2, am_len_pI, h1, h2, Option.bind_some, if_false, nm_cl (show 6 * n < 2147483648 by omega), nm_cl (show 6 * n + 1 < 2147483648 by omega), nm_cl (show 6 * n + 2 < 2147483648 by omega), nm_cl (show 6 * n + 3 < 2147483648 by omega), nm_cl (show 6 * n + 4 < 2147483648 by omega), nm_cl (show 6 * n + 5 < 2147483648 by omega), am_ixc (show 6 * n < 48 by omega) (show 48 < 2147483648 by decide), am_ixc (show 6 * n + 1 < 48 by omega) (show 48 < 2147483648 by decide), am_ixc (show 6 * n + 2 < 48 by omega) (show 48 < 2147483648 by decide), am_ixc (show 6 * n + 3 < 48 by omega) (show 48 < 2147483648 by decide), am_ixc (show 6 * n + 4 < 48 by omega) (show 48 < 2147483648 by decide), am_ixc (show 6 * n + 5 < 48 by omega) (show 48 < 2147483648 by decide)]
theorem pm_more {s : ps_S} {M : am_M} (ho : ps_ok s) (hM : ps_M s M) (f : Nat → Nat) : (s.1 4 = 8 → fX10_more 53 (nI (f 0)) (nI (f 1)) (nI (f 2)) (nI (f 3)) (nI (f 4)) (nI (f 5)) M = some (-3, M)) ∧ (s.1 4 < 8 → ∃ M1, fX10_more 53 (nI (f 0)) (nI (f 1)) (nI (f 2)) (nI (f 3)) (nI (f 4)) (nI (f 5)) M = some (nI (s.1 4 + 1), M1) ∧ ps_M (ps_more s f) M1 ∧ am_fm M M1) := by
  obtain ⟨m1, m2, m3, m4, m5, m6, m7, m8, m9, m10, m11, m12, m13, m14⟩ := id hM
  refine ⟨fun h => ?_, fun h => ?_⟩
  · unfold fX10_more
    rw [m7, h, if_pos (show nI 8 = (8 : Int32) from rfl)]
  · have e1 := hM.2.1 53 5 54 (by decide) rfl
    have e2 : am_len M 54 = 48 := am_len_SH hM.1 54
    have q := pm_puts e1 e2 h (nI (f 0)) (nI (f 1)) (nI (f 2)) (nI (f 3)) (nI (f 4)) (nI (f 5))
    have c1 : ¬ nI (s.1 4) = 8 := by rw [nm_8, nm_eq (by omega) (by decide)]; omega
    have fr : am_fm M (am_pI (am_pI (am_pI (am_pI (am_pI (am_pI M 54 (6 * s.1 4) (nI (f 0))) 54 (6 * s.1 4 + 1) (nI (f 1))) 54 (6 * s.1 4 + 2) (nI (f 2))) 54 (6 * s.1 4 + 3) (nI (f 3))) 54 (6 * s.1 4 + 4) (nI (f 4))) 54 (6 * s.1 4 + 5) (nI (f 5))) := ((((((am_fm.rf M).pI (by decide) _ _).pI (by decide) _ _).pI (by decide) _ _).pI (by decide) _ _).pI (by decide) _ _).pI (by decide) _ _
    have hin : ∀ j, j < 6 → (am_pI (am_pI (am_pI (am_pI (am_pI (am_pI M 54 (6 * s.1 4) (nI (f 0))) 54 (6 * s.1 4 + 1) (nI (f 1))) 54 (6 * s.1 4 + 2) (nI (f 2))) 54 (6 * s.1 4 + 3) (nI (f 3))) 54 (6 * s.1 4 + 4) (nI (f 4))) 54 (6 * s.1 4 + 5) (nI (f 5))).1 54 (6 * s.1 4 + j) = nI (f j) := by
      intro j hj
      simp only [am_pI_1, true_and]
      rcases (show j = 0 ∨ j = 1 ∨ j = 2 ∨ j = 3 ∨ j = 4 ∨ j = 5 by omega) with rfl | rfl | rfl | rfl | rfl | rfl
      · rw [if_neg (by omega), if_neg (by omega), if_neg (by omega), if_neg (by omega), if_neg (by omega), if_pos (by omega)]
      · rw [if_neg (by omega), if_neg (by omega), if_neg (by omega), if_neg (by omega), if_pos (by omega)]
      · rw [if_neg (by omega), if_neg (by omega), if_neg (by omega), if_pos (by omega)]
      · rw [if_neg (by omega), if_neg (by omega), if_pos (by omega)]
      · rw [if_neg (by omega), if_pos (by omega)]
      · rw [if_pos (by omega)]
    have hout : ∀ k i, ¬ (k = 54 ∧ 6 * s.1 4 ≤ i) → (am_pI (am_pI (am_pI (am_pI (am_pI (am_pI M 54 (6 * s.1 4) (nI (f 0))) 54 (6 * s.1 4 + 1) (nI (f 1))) 54 (6 * s.1 4 + 2) (nI (f 2))) 54 (6 * s.1 4 + 3) (nI (f 3))) 54 (6 * s.1 4 + 4) (nI (f 4))) 54 (6 * s.1 4 + 5) (nI (f 5))).1 k i = M.1 k i := by
      intro k i h
      rw [am_pI_1, if_neg (by omega), am_pI_1, if_neg (by omega), am_pI_1, if_neg (by omega), am_pI_1, if_neg (by omega), am_pI_1, if_neg (by omega), am_pI_1, if_neg (by omega)]
    have hz : (am_pI (am_pI (am_pI (am_pI (am_pI (am_pI M 54 (6 * s.1 4) (nI (f 0))) 54 (6 * s.1 4 + 1) (nI (f 1))) 54 (6 * s.1 4 + 2) (nI (f 2))) 54 (6 * s.1 4 + 3) (nI (f 3))) 54 (6 * s.1 4 + 4) (nI (f 4))) 54 (6 * s.1 4 + 5) (nI (f 5))).2 = M.2 := rfl
    generalize am_pI (am_pI (am_pI (am_pI (am_pI (am_pI M 54 (6 * s.1 4) (nI (f 0))) 54 (6 * s.1 4 + 1) (nI (f 1))) 54 (6 * s.1 4 + 2) (nI (f 2))) 54 (6 * s.1 4 + 3) (nI (f 3))) 54 (6 * s.1 4 + 4) (nI (f 4))) 54 (6 * s.1 4 + 5) (nI (f 5)) = T at q fr hin hout hz
    have t4 : T.1 53 4 = nI (s.1 4) := (hout 53 4 (by omega)).trans m7
    refine ⟨am_pI T 53 4 (nI (s.1 4 + 1)), ?_, ?_, fr.pI (by decide) _ _⟩
    · have r1 : (am_pI T 53 4 (nI (s.1 4 + 1))).1 53 4 = nI (s.1 4 + 1) := by rw [am_pI_1, if_pos ⟨rfl, rfl⟩]
      unfold fX10_more
      simp only [m7, c1, if_false, q, Option.bind_some, t4, nI_1, r1]
    · have r : ∀ k i, ¬ (k = 54 ∧ 6 * s.1 4 ≤ i) → ¬ (k = 53 ∧ i = 4) → (am_pI T 53 4 (nI (s.1 4 + 1))).1 k i = M.1 k i := fun k i h1 h2 => by rw [am_pI_1, if_neg h2]; exact hout k i h1
      refine ⟨by show T.2.2.2 = _; rw [hz]; exact m1, by show ∀ k j q, 53 ≤ k → am_rf k j = some q → T.2.2.1 k j = some q; rw [hz]; exact m2, (r 53 0 (by omega) (by omega)).trans m3, (r 53 1 (by omega) (by omega)).trans m4, (r 53 2 (by omega) (by omega)).trans m5, (r 53 3 (by omega) (by omega)).trans m6, ?_, (r 53 6 (by omega) (by omega)).trans m8, (r 53 10 (by omega) (by omega)).trans m9, (r 53 11 (by omega) (by omega)).trans m10, fun i j hi hj => ?_, fun i hi => ?_, fun i hi => ?_, fun i hi => ?_⟩
      · rw [am_pI_1, if_pos ⟨rfl, rfl⟩]; rfl
      · have hi : i < s.1 4 + 1 := hi
        show _ = nI ((if j < 6 then (fun i => if i = s.1 4 then f j else s.2 j i) else s.2 j) i)
        rw [if_pos hj]
        by_cases c : i = s.1 4
        · simp only [c, if_true]
          rw [am_pI_1, if_neg (by omega)]
          exact hin j hj
        · simp only [c, if_false]
          rw [r 54 _ (by omega) (by omega)]
          exact m11 i j (by omega) hj
      · rw [r 55 _ (by omega) (by omega), r 56 _ (by omega) (by omega)]; exact m12 i hi
      · rw [r 57 _ (by omega) (by omega)]; exact m13 i hi
      · rw [r 58 _ (by omega) (by omega)]; exact m14 i hi
