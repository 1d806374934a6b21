/-! drop, box, disc -/
def ps_cutq (s : ps_S) (a : Nat) : ps_S := (fun j => if j = 4 then s.1 4 - 1 else s.1 j, fun b => if b < 6 then (fun i => if a ≤ i then s.2 b (i + 1) else s.2 b i) else s.2 b)
theorem ps_cutq_ok {s : ps_S} (ho : ps_ok s) {a : Nat} (ha : a < s.1 4) : ps_ok (ps_cutq s a) := by
  obtain ⟨o1, o2, o3, o4, o5, o6, o7, o8, o9, o10, o11, o12, o13⟩ := ho
  refine ⟨o1, o2, o3, o4, o5, by show s.1 4 - 1 ≤ 8; omega, o7, o8, o9, fun i hi => ?_, o11, o12, o13⟩
  have hi : i < s.1 4 - 1 := hi
  show (if a ≤ i then s.2 0 (i + 1) else s.2 0 i) ≤ 1 ∧ (if a ≤ i then s.2 1 (i + 1) else s.2 1 i) ≤ 1 ∧ (if a ≤ i then s.2 2 (i + 1) else s.2 2 i) < 64 ∧ (if a ≤ i then s.2 3 (i + 1) else s.2 3 i) < 64 ∧ (if a ≤ i then s.2 4 (i + 1) else s.2 4 i) < 64 ∧ (if a ≤ i then s.2 5 (i + 1) else s.2 5 i) < 64
  by_cases h : a ≤ i
  · simp only [h, if_true]; exact o10 (i + 1) (by omega)
  · simp only [h, if_false]; exact o10 i (by omega)
theorem op_drop (a : Int32) : ps_op (fX9_drop 0 a) (fX10_drop 53 a) := by
  intro s ho
  have h8 := ho.2.2.2.2.2.1
  have e1 : ∀ M : am_M, M.1 53 4 = nI (s.1 4) → fX10_isIn a 0 (M.1 53 4 - 1) M = some (if 0 ≤ a ∧ a < nI (s.1 4) then 1 else 0, M) := by
    intro M h
    rw [h]
    by_cases h0 : s.1 4 = 0
    · rw [h0]
      unfold fX10_isIn
      by_cases c : a < 0
      · rw [if_pos c, if_neg (fun z => absurd c (Int32.not_lt.mpr z.1))]
      · have c2 : nI 0 - 1 < a := Int32.lt_of_lt_of_le (show nI 0 - 1 < 0 by decide) (Int32.not_lt.mp c)
        rw [if_neg c, if_pos c2, if_neg (fun z => absurd z.2 (Int32.not_lt.mpr (Int32.not_lt.mp c)))]
    · have e : nI (s.1 4) - 1 = nI (s.1 4 - 1) := nm_sub (b := 1) (by omega)
      rw [e, pm_in (by omega), show s.1 4 - 1 + 1 = s.1 4 by omega]
  by_cases hQ : 0 ≤ a ∧ a < nI (s.1 4)
  · obtain ⟨j, hj, rfl⟩ := nm_of (by omega) hQ
    refine ⟨nI (s.1 4 - 1), ps_cutq s j, ps_cutq_ok ho hj, fun pl M hX => ?_, fun M hM => ?_⟩
    · obtain ⟨p1, p2, p3, p4, p5, p6, p7, p8, p9, p10, -⟩ := hX.pl
      obtain ⟨pi, hpi, hinj⟩ := hX.2.2.2.2.2.1 pl p1
      obtain ⟨-, -, -, -, -, -, g1, g2, g3, g4, g5, g6, g7, g8, -⟩ := id hX
      have q := px_removePart ho hX hj
      generalize hT : am_rrow (am_pI M pl 2 (nI (s.1 4 - 1))) (pl + 6) (am_cyc (M.2.2.1 (pl + 6)) j (s.1 4 - 1)) = T at q
      have hTr : ∀ k, T.2.2.1 k = if k = pl + 6 then am_cyc (M.2.2.1 (pl + 6)) j (s.1 4 - 1) else M.2.2.1 k := fun k => by rw [← hT]; rfl
      have hT1 : ∀ k i, ¬ (k = pl ∧ i = 2) → T.1 k i = M.1 k i := fun k i h => by rw [← hT]; show (am_pI M pl 2 _).1 k i = _; rw [am_pI_1, if_neg h]
      have z1 : T.1 pl 2 = nI (s.1 4 - 1) := by rw [← hT]; show (am_pI M pl 2 _).1 pl 2 = _; rw [am_pI_1, if_pos ⟨rfl, rfl⟩]
      have zs : T.2.2.2 = M.2.2.2 := by rw [← hT]; rfl
      refine ⟨pl, am_pI (am_pI T 5 5 (nI 0)) 5 6 (nI 0), ?_, ?_, ⟨zs, fun k hk => ⟨?_, ?_⟩⟩⟩
      · have r1 : T.2.2.1 0 1 = some 5 := by rw [hTr, if_neg (by omega)]; exact p8
        have r2 : (am_pI (am_pI T 5 5 0) 5 6 0).2.2.1 0 2 = some pl := by show T.2.2.1 0 2 = _; rw [hTr, if_neg (by omega)]; exact p2
        have r3 : (am_pI (am_pI T 5 5 0) 5 6 0).1 pl 2 = nI (s.1 4 - 1) := by rw [am_pI_1, if_neg (by omega), am_pI_1, if_neg (by omega)]; exact z1
        unfold fX9_drop fX0_forget
        simp only [p2, Option.bind_some, q, nm_1f, if_false, r1, r2, r3]
        rfl
      · have hk : ∀ k i, k ≠ 5 → ¬ (k = pl ∧ i = 2) → (am_pI (am_pI T 5 5 (nI 0)) 5 6 (nI 0)).1 k i = M.1 k i := fun k i h5 h => by
          rw [am_pI_1, if_neg (by omega), am_pI_1, if_neg (by omega)]; exact hT1 k i h
        -- where a part of the new row comes from
        have row : ∀ i, i < 8 → ∃ i', i' < 8 ∧ am_cyc (M.2.2.1 (pl + 6)) j (s.1 4 - 1) i = M.2.2.1 (pl + 6) i' ∧ i' = (if i = s.1 4 - 1 then j else if j ≤ i ∧ i < s.1 4 - 1 then i + 1 else i) := by
          intro i hi
          unfold am_cyc am_dn
          by_cases c : i = s.1 4 - 1
          · exact ⟨j, by omega, by rw [if_pos c], by rw [if_pos c]⟩
          · by_cases c2 : j ≤ i ∧ i < s.1 4 - 1
            · exact ⟨i + 1, by omega, by rw [if_neg c, if_pos c2], by rw [if_neg c, if_pos c2]⟩
            · exact ⟨i, hi, by rw [if_neg c, if_neg c2], by rw [if_neg c, if_neg c2]⟩
        have sg : ∀ i, i < 8 → (if i = s.1 4 - 1 then j else if j ≤ i ∧ i < s.1 4 - 1 then i + 1 else i) < 8 := by
          intro i hi
          split
          · omega
          · split <;> omega
        refine hX.plan (fun k hk' => ?_) (fun r hr => ?_) zs (fun k hk' => ?_) (fun k q1 q2 q3 => ?_) ⟨fun i => pi (if i = s.1 4 - 1 then j else if j ≤ i ∧ i < s.1 4 - 1 then i + 1 else i), fun i hi => ?_, fun i i2 hi hi2 he => ?_⟩ ?_ ?_ ?_ ?_ ?_ (fun i hi => ?_) rfl rfl
        · show (if k = 4 then _ else s.1 k) = _
          rw [if_neg (by omega)]
        · show (if r < 6 then _ else s.2 r) = _
          rw [if_neg (by omega)]
        · show T.2.2.1 k = _
          rw [hTr, if_neg hk']
        · funext i
          exact hk k i q1 (by omega)
        · obtain ⟨i', h1, h2, h3⟩ := row i hi
          refine ⟨(hpi _ (sg i hi)).1, ?_⟩
          show T.2.2.1 (pl + 6) i = _
          rw [hTr, if_pos rfl, h2, h3]
          exact (hpi _ (sg i hi)).2
        · have := hinj _ _ (sg i hi) (sg i2 hi2) he
          split at this <;> split at this <;> (try split at this) <;> (try split at this) <;> omega
        · rw [am_pI_1, if_neg (by omega), am_pI_1, if_neg (by omega)]; exact z1
        · exact (hk pl 3 (by omega) (by omega)).trans g2
        · exact (hk pl 4 (by omega) (by omega)).trans g3
        · exact (hk pl 5 (by omega) (by omega)).trans g4
        · exact (hk pl 6 (by omega) (by omega)).trans g5
        · have hi : i < s.1 4 - 1 := hi
          obtain ⟨i', h1, h2, h3⟩ := row i (by omega)
          rw [if_neg (by omega)] at h3
          have hi' : i' < s.1 4 := by
            rw [h3]; split <;> omega
          obtain ⟨q, q1, q2, q3, q4⟩ := g8 i' hi'
          refine ⟨q, ?_, q2, q3, fun l hl => ?_⟩
          · show T.2.2.1 (pl + 6) i = _
            rw [hTr, if_pos rfl, h2]
            exact q1
          · rw [hk q l (by omega) (by omega), q4 l hl]
            show nI (s.2 l i') = nI ((if l < 6 then (fun i => if j ≤ i then s.2 l (i + 1) else s.2 l i) else s.2 l) i)
            rw [if_pos hl, h3]
            by_cases c : j ≤ i
            · rw [if_pos ⟨c, hi⟩]; simp only [c, if_true]
            · rw [if_neg (fun z => c z.1)]; simp only [c, if_false]
      · rw [am_pI_r _ _ _ _ (by omega), am_pI_r _ _ _ _ (by omega)]
        funext i
        exact hT1 k i (by omega)
      · show T.2.2.1 k = _
        rw [hTr, if_neg (by omega)]
    · obtain ⟨m1, m2, m3, m4, m5, m6, m7, m8, m9, m10, m11, m12, m13, m14⟩ := id hM
      have q := pm_drop_loop ho hM hj
      generalize hT : am_row (am_pI M 53 4 (nI (s.1 4 - 1))) 54 (am_dn (M.1 54) 6 (6 * j) (6 * (s.1 4 - 1))) = T at q
      have e := e1 M m7
      have e9 : nI (s.1 4) - 1 = nI (s.1 4 - 1) := nm_sub (b := 1) (by omega)
      rw [if_pos hQ, m7, e9] at e
      have z : T.2 = M.2 := by rw [← hT]; rfl
      have r54 : T.1 54 = am_dn (M.1 54) 6 (6 * j) (6 * (s.1 4 - 1)) := by rw [← hT, am_row_1, if_pos rfl]
      have ro : ∀ k i, k ≠ 54 → ¬ (k = 53 ∧ i = 4) → T.1 k i = M.1 k i := fun k i h1 h2 => by rw [← hT, am_row_1, if_neg h1, am_pI_1, if_neg h2]
      have z4 : T.1 53 4 = nI (s.1 4 - 1) := by rw [← hT, am_row_1, if_neg (by decide), am_pI_1, if_pos ⟨rfl, rfl⟩]
      have fr : am_fm M T := by rw [← hT]; exact ((am_fm.rf M).pI (by omega) _ _).row (by omega) _
      refine ⟨T, ?_, ?_, fr⟩
      · unfold fX10_drop
        simp only [m7, e, Option.bind_some, nm_1f, if_false, e9, q]
      · refine ⟨by rw [z]; exact m1, by rw [z]; exact m2, (ro 53 0 (by decide) (by omega)).trans m3, (ro 53 1 (by decide) (by omega)).trans m4, (ro 53 2 (by decide) (by omega)).trans m5, (ro 53 3 (by decide) (by omega)).trans m6, z4, (ro 53 6 (by decide) (by omega)).trans m8, (ro 53 10 (by decide) (by omega)).trans m9, (ro 53 11 (by decide) (by omega)).trans m10, fun i b hi hb => ?_, fun i hi => ?_, fun i hi => ?_, fun i hi => ?_⟩
        · have hi : i < s.1 4 - 1 := hi
          show _ = nI ((if b < 6 then (fun i => if j ≤ i then s.2 b (i + 1) else s.2 b i) else s.2 b) i)
          rw [if_pos hb, r54]
          unfold am_dn
          by_cases c : j ≤ i
          · simp only [c, if_true]
            rw [if_pos (by omega), show 6 * i + b + 6 = 6 * (i + 1) + b by omega]
            exact m11 (i + 1) b (by omega) hb
          · simp only [c, if_false]
            rw [if_neg (by omega)]
            exact m11 i b (by omega) hb
        · rw [ro 55 _ (by decide) (by omega), ro 56 _ (by decide) (by omega)]; exact m12 i hi
        · rw [ro 57 _ (by decide) (by omega)]; exact m13 i hi
        · rw [ro 58 _ (by decide) (by omega)]; exact m14 i hi
  · refine ⟨-1, s, ho, ps_ox.same (fun pl M hX => ?_), ps_om.same (fun M hM => ?_)⟩
    · obtain ⟨p1, p2, p3, p4, p5, p6, p7, p8, p9, -⟩ := hX.pl
      have eh : fX5_removePart pl a M = some (0, M) := by
        unfold fX5_removePart
        by_cases c : a < 0
        · rw [if_pos c]
        · rw [if_neg c, p3, if_neg (fun z => hQ ⟨Int32.not_lt.mp c, z⟩)]
      unfold fX9_drop
      simp only [p2, Option.bind_some, eh, if_true]
    · have e := e1 M hM.2.2.2.2.2.2.1
      rw [if_neg hQ] at e
      unfold fX10_drop
      simp only [e, Option.bind_some, if_true]
