/-! lift -/
def ps_cutp (s : ps_S) (a : Nat) : ps_S := (fun j => if j = 5 then s.1 5 - 1 else s.1 j, fun b => if b = 6 ∨ b = 7 then (fun i => if a ≤ i then s.2 b (i + 1) else s.2 b i) else s.2 b)
theorem ps_cutp_ok {s : ps_S} (ho : ps_ok s) {a : Nat} (ha : a < s.1 5) : ps_ok (ps_cutp s a) := by
  obtain ⟨o1, o2, o3, o4, o5, o6, o7, o8, o9, o10, o11, o12, o13⟩ := ho
  refine ⟨o1, o2, o3, o4, o5, o6, by show s.1 5 - 1 ≤ 40; omega, o8, o9, o10, fun i hi => ?_, o12, o13⟩
  have hi : i < s.1 5 - 1 := hi
  show (if a ≤ i then s.2 6 (i + 1) else s.2 6 i) < 2 ^ s.1 0 ∧ (if a ≤ i then s.2 7 (i + 1) else s.2 7 i) < 2 ^ s.1 0
  by_cases h : a ≤ i
  · rw [if_pos h, if_pos h]; exact o11 (i + 1) (by omega)
  · rw [if_neg h, if_neg h]; exact o11 i (by omega)
theorem am_dn_row {f : Nat → Int32} {g : Nat → Nat} {n a i : Nat} (h : ∀ i, i < n → f i = nI (g i)) (hi : i < n - 1) : am_dn f 1 a (n - 1) i = nI (if a ≤ i then g (i + 1) else g i) := by
  unfold am_dn
  by_cases q : a ≤ i
  · rw [if_pos ⟨q, hi⟩, if_pos q]; exact h _ (by omega)
  · rw [if_neg (fun z => q z.1), if_neg q]; exact h _ (by omega)
theorem op_lift (a : Int32) : ps_op (fX9_lift 0 a) (fX10_lift 53 a) := by
  intro s ho
  have h5 := ho.2.2.2.2.2.2.1
  have e1 : ∀ M : am_M, M.1 53 6 = nI (s.1 5) → fX10_isIn a 0 (M.1 53 6 - 1) M = some (if 0 ≤ a ∧ a < nI (s.1 5) then 1 else 0, M) := by
    intro M h
    rw [h]
    by_cases h0 : s.1 5 = 0
    · rw [h0]
      unfold fX10_isIn
      by_cases c : a < 0
      · rw [if_pos c, if_neg (fun z => absurd c (Int32.not_lt.mpr z.1))]
      · have c2 : nI 0 - 1 < a := Int32.lt_of_lt_of_le (show nI 0 - 1 < 0 by decide) (Int32.not_lt.mp c)
        rw [if_neg c, if_pos c2, if_neg (fun z => absurd z.2 (Int32.not_lt.mpr (Int32.not_lt.mp c)))]
    · have e : nI (s.1 5) - 1 = nI (s.1 5 - 1) := nm_sub (b := 1) (by omega)
      rw [e, pm_in (by omega), show s.1 5 - 1 + 1 = s.1 5 by omega]
  by_cases hQ : 0 ≤ a ∧ a < nI (s.1 5)
  · obtain ⟨j, hj, rfl⟩ := nm_of (by omega) hQ
    refine ⟨nI (s.1 5 - 1), ps_cutp s j, ps_cutp_ok ho hj, fun pl M hX => ?_, fun M hM => ?_⟩
    · obtain ⟨p1, p2, p3, p4, p5, p6, p7, p8, p9, p10, p11, p12, p13, p14, p15, p16, -⟩ := hX.pl
      have g7 := hX.2.2.2.2.2.2.2.2.2.2.2.2.1
      have q := px_remove ho hX hj
      have hne : pl + 2 ≠ pl + 3 := by omega
      obtain ⟨w1, w2, w3⟩ := am_two_1 (am_pI M (pl + 1) 4 (nI (s.1 5 - 1))) hne (am_dn (M.1 (pl + 2)) 1 j (s.1 5 - 1)) (am_dn (M.1 (pl + 3)) 1 j (s.1 5 - 1))
      have fr : am_fx M (am_two (am_pI M (pl + 1) 4 (nI (s.1 5 - 1))) (pl + 2) (pl + 3) (am_dn (M.1 (pl + 2)) 1 j (s.1 5 - 1)) (am_dn (M.1 (pl + 3)) 1 j (s.1 5 - 1))) := (((am_fx.rf M).pI (by omega) _ _).row (by omega) _).row (by omega) _
      generalize hT : am_two (am_pI M (pl + 1) 4 (nI (s.1 5 - 1))) (pl + 2) (pl + 3) (am_dn (M.1 (pl + 2)) 1 j (s.1 5 - 1)) (am_dn (M.1 (pl + 3)) 1 j (s.1 5 - 1)) = T at q w1 w2 w3 fr
      have z : T.2 = M.2 := by rw [← hT]; rfl
      have z1 : T.1 (pl + 1) 4 = nI (s.1 5 - 1) := by rw [w3 _ (by omega) (by omega), am_pI_1, if_pos ⟨rfl, rfl⟩]
      refine ⟨pl, T, ?_, ?_, fr⟩
      · have r1 : T.2.2.1 0 2 = some pl := by rw [z]; exact p2
        have r2 : T.2.2.1 pl 0 = some (pl + 1) := by rw [z]; exact p9
        unfold fX9_lift
        simp only [p2, Option.bind_some, p9, q, nm_1f, if_false, r1, r2, z1]
      · refine hX.pts (fun k hk => ?_) (fun r h1 h2 => ?_) (by rw [z]) (by rw [z]) (by rw [z]) (fun k hk => ?_) z1 (fun i hi => ?_)
        · show (if k = 5 then _ else s.1 k) = _
          rw [if_neg hk]
        · show (if r = 6 ∨ r = 7 then _ else s.2 r) = _
          rw [if_neg (by omega)]
        · rw [w3 _ (by omega) (by omega), am_pI_r _ _ _ _ (by omega)]
        · have hi : i < s.1 5 - 1 := hi
          rw [w1, w2, am_dn_row (fun i hi => (g7 i hi).1) hi, am_dn_row (fun i hi => (g7 i hi).2) hi]
          exact ⟨rfl, rfl⟩
    · obtain ⟨m1, m2, m3, m4, m5, m6, m7, m8, m9, m10, m11, m12, m13, m14⟩ := id hM
      have q := pm_lift_loop ho hM hj
      obtain ⟨w1, w2, w3⟩ := am_two_1 (am_pI M 53 6 (nI (s.1 5 - 1))) (show (55 : Nat) ≠ 56 by decide) (am_dn (M.1 55) 1 j (s.1 5 - 1)) (am_dn (M.1 56) 1 j (s.1 5 - 1))
      have fr : am_fm M (am_two (am_pI M 53 6 (nI (s.1 5 - 1))) 55 56 (am_dn (M.1 55) 1 j (s.1 5 - 1)) (am_dn (M.1 56) 1 j (s.1 5 - 1))) := (((am_fm.rf M).pI (by omega) _ _).row (by omega) _).row (by omega) _
      generalize hT : am_two (am_pI M 53 6 (nI (s.1 5 - 1))) 55 56 (am_dn (M.1 55) 1 j (s.1 5 - 1)) (am_dn (M.1 56) 1 j (s.1 5 - 1)) = T at q w1 w2 w3 fr
      have z : T.2 = M.2 := by rw [← hT]; rfl
      have e := e1 M m8
      rw [if_pos hQ, m8] at e
      have e9 : nI (s.1 5) - 1 = nI (s.1 5 - 1) := nm_sub (b := 1) (by omega)
      rw [e9] at e
      have r53 : ∀ k, k ≠ 6 → T.1 53 k = M.1 53 k := fun k hk => by rw [w3 _ (by omega) (by omega), am_pI_1, if_neg (by omega)]
      have ro : ∀ k, k ≠ 53 → k ≠ 55 → k ≠ 56 → T.1 k = M.1 k := fun k a b c => by rw [w3 _ b c, am_pI_r _ _ _ _ a]
      refine ⟨T, ?_, ?_, fr⟩
      · unfold fX10_lift
        simp only [m8, e, Option.bind_some, nm_1f, if_false, e9, q]
      · refine ⟨by rw [z]; exact m1, by rw [z]; exact m2, (r53 0 (by decide)).trans m3, (r53 1 (by decide)).trans m4, (r53 2 (by decide)).trans m5, (r53 3 (by decide)).trans m6, (r53 4 (by decide)).trans m7, ?_, (r53 10 (by decide)).trans m9, (r53 11 (by decide)).trans m10, fun i b hi hb => ?_, fun i hi => ?_, fun i hi => ?_, fun i hi => ?_⟩
        · rw [w3 _ (by omega) (by omega), am_pI_1, if_pos ⟨rfl, rfl⟩]; rfl
        · show _ = nI ((if b = 6 ∨ b = 7 then _ else s.2 b) i)
          rw [ro 54 (by decide) (by decide) (by decide), if_neg (by omega)]
          exact m11 i b hi hb
        · have hi : i < s.1 5 - 1 := hi
          rw [w1, w2, am_dn_row (fun i hi => (m12 i hi).1) hi, am_dn_row (fun i hi => (m12 i hi).2) hi]
          exact ⟨rfl, rfl⟩
        · rw [ro 57 (by decide) (by decide) (by decide)]; exact m13 i hi
        · rw [ro 58 (by decide) (by decide) (by decide)]; exact m14 i hi
  · refine ⟨-1, s, ho, ps_ox.same (fun pl M hX => ?_), ps_om.same (fun M hM => ?_)⟩
    · obtain ⟨p1, p2, p3, p4, p5, p6, p7, p8, p9, -⟩ := hX.pl
      have g6 := hX.2.2.2.2.2.2.2.2.2.2.2.1
      have eh : fX6_has (pl + 1) a M = some (0, M) := by
        unfold fX6_has
        by_cases c : a < 0
        · rw [if_pos c]
        · rw [if_neg c, g6, if_pos (Int32.not_lt.mp fun z => hQ ⟨Int32.not_lt.mp c, z⟩)]
      unfold fX9_lift fX6_remove
      simp only [p2, Option.bind_some, p9, eh, if_true]
    · have e := e1 M hM.2.2.2.2.2.2.2.1
      rw [if_neg hQ] at e
      unfold fX10_lift
      simp only [e, Option.bind_some, if_true]
