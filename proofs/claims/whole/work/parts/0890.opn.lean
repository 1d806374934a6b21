/-! beside -/
theorem px_beside {s : ps_S} (ho : ps_ok s) {a b : Nat} (ha : a ≤ s.1 0) (hb : b < 4 ^ a) (ht : ps_tile s (nI a) (nI b)) {d e : Int32} (hd : d = -1 ∨ d = 0 ∨ d = 1) (he : e = -1 ∨ e = 0 ∨ e = 1) (pl : Nat) (M : am_M) (hX : ps_X s pl M) : fX9_beside 0 (nI a) (nI b) d e M = if d = 0 then if e = 0 then some (-1, M) else fX9_beside_38 0 (nI a) (nI b) d e M else fX9_beside_38 0 (nI a) (nI b) d e M := by
  obtain ⟨p1, p2, p3, p4, p5, p6, p7, p8, -⟩ := hX.pl
  have e1 := px_step d M
  have e2 := px_step e M
  rw [if_pos hd] at e1
  rw [if_pos he] at e2
  unfold fX9_beside
  simp only [p2, px_tile_yes ho p4 ht, e1, e2, am_bs, nm_1f, if_false]
theorem pm_beside {s : ps_S} (ho : ps_ok s) {a b : Nat} (ha : a ≤ s.1 0) (hb : b < 4 ^ a) (ht : ps_tile s (nI a) (nI b)) {d e : Int32} (hd : d = -1 ∨ d = 0 ∨ d = 1) (he : e = -1 ∨ e = 0 ∨ e = 1) (M : am_M) (hM : ps_M s M) : fX10_beside 53 (nI a) (nI b) d e M = if d = 0 then if e = 0 then some (-1, M) else fX10_beside_39 53 (nI a) (nI b) d e M else fX10_beside_39 53 (nI a) (nI b) d e M := by
  have e1 := pm_step d M
  have e2 := pm_step e M
  rw [if_pos hd] at e1
  rw [if_pos he] at e2
  unfold fX10_beside
  simp only [(pm_tile ho hM.2.2.1 _ _).1 ht, e1, e2, am_bs, nm_1f, if_false]
theorem px_beside2 {s : ps_S} (ho : ps_ok s) {a b : Nat} (ha : a ≤ s.1 0) (hb : b < 4 ^ a) (d e : Int32) (pl : Nat) (M : am_M) (hX : ps_X s pl M) : fX9_beside_38 0 (nI a) (nI b) d e M = (if nI (cv_p (s.1 1) a 0 0 0 b).1 + d < 0 then some ((-4), M) else if (1 : Int32) <<< (nI a &&& 31) ≤ nI (cv_p (s.1 1) a 0 0 0 b).1 + d then some ((-4), M) else if nI (cv_p (s.1 1) a 0 0 0 b).2 + e < 0 then some ((-4), M) else if nI (cv_p (s.1 1) a 0 0 0 b).2 + e < (1 : Int32) <<< (nI a &&& 31) then (fX1_keyOf (nI a) (nI (s.1 1)) (nI (cv_p (s.1 1) a 0 0 0 b).1 + d) (nI (cv_p (s.1 1) a 0 0 0 b).2 + e) M).bind fun p59 => some (p59.1, p59.2) else some ((-4), M)) := by
  obtain ⟨o1, o2, o3, -⟩ := id ho
  have hp4 := nz_p4 (show a ≤ 6 by omega)
  have q := cv_p64 (c := s.1 1) (show a ≤ 6 by omega) b
  obtain ⟨p1, p2, p3, p4, p5, p6, p7, p8, -⟩ := hX.pl
  have hpl := px_placeOf (D := a) (c := s.1 1) (g := b) o3 (by omega) (by omega) M
  have h0 := px_half0 q.1 q.2.1 M
  have h1 := px_half1 q.1 q.2.1 M
  generalize cv_p (s.1 1) a 0 0 0 b = P at *
  unfold fX9_beside_38
  simp only [p2, p5, hpl, h0, h1, am_bs]
theorem pm_beside2 {s : ps_S} (ho : ps_ok s) {a b j : Nat} (hj : s.1 0 = a + j) (hb : b < 4 ^ a) (d e : Int32) (M : am_M) (hM : ps_M s M) : ∃ T, ps_R s M T ∧ fX10_beside_39 53 (nI a) (nI b) d e M = (fX10_isCell 53 (nI (cv_p (s.1 1) (s.1 0) 0 0 0 (b * 4 ^ j)).1 + d * nI (2 ^ j)) (nI (cv_p (s.1 1) (s.1 0) 0 0 0 (b * 4 ^ j)).2 + e * nI (2 ^ j)) T).bind fun p51 => if p51.1 = 0 then some ((-4), p51.2) else (fX10_keyOf 53 (nI (cv_p (s.1 1) (s.1 0) 0 0 0 (b * 4 ^ j)).1 + d * nI (2 ^ j)) (nI (cv_p (s.1 1) (s.1 0) 0 0 0 (b * 4 ^ j)).2 + e * nI (2 ^ j)) p51.2).bind fun p58 => (fX10_sizeOf 53 (nI a) p58.2).bind fun p64 => if p64.1 = 0 then none else some (p58.1 / p64.1, p64.2) := by
  obtain ⟨o1, o2, o3, -⟩ := id ho
  have hj4 := nz_p4 (show j ≤ 6 by omega)
  have hb4 : b * 4 ^ j < 4096 := by
    have : b * 4 ^ j < 4 ^ a * 4 ^ j := Nat.mul_lt_mul_of_pos_right hb hj4.1
    rw [← Nat.pow_add, ← hj] at this
    have := nz_p4 o2
    omega
  have E1 := pm_setCell (a := 53) (g := b * 4 ^ j) o3 o2 hM.2.2.1 hM.2.2.2.1 hb4
  generalize cv_p (s.1 1) (s.1 0) 0 0 0 (b * 4 ^ j) = P at *
  have R1 := ((ps_R.rf hM).pI (k := 53) (j := 19) (by omega) (nI P.1)).pI (k := 53) (j := 20) (by omega) (nI P.2)
  have a1 : (am_pI (am_pI M 53 19 (nI P.1)) 53 20 (nI P.2)).1 53 19 = nI P.1 := by rw [am_pI_1, if_neg (by omega), am_pI_1, if_pos ⟨rfl, rfl⟩]
  have a2 : (am_pI (am_pI M 53 19 (nI P.1)) 53 20 (nI P.2)).1 53 20 = nI P.2 := by rw [am_pI_1, if_pos ⟨rfl, rfl⟩]
  generalize am_pI (am_pI M 53 19 (nI P.1)) 53 20 (nI P.2) = T at R1 E1 a1 a2
  have s1 := pm_size o2 (show a ≤ s.1 0 by omega) hM.2.2.1
  have s2 := pm_sideOf o2 (show a ≤ s.1 0 by omega) R1.1.2.2.1
  rw [show s.1 0 - a = j by omega] at s1 s2
  refine ⟨T, R1, ?_⟩
  unfold fX10_beside_39
  simp only [s1, s2, pk_mul, E1, a1, a2, am_bs]
theorem op_beside (l k d e : Int32) : ps_op (fX9_beside 0 l k d e) (fX10_beside 53 l k d e) := by
  intro s ho
  obtain ⟨o1, o2, o3, -⟩ := id ho
  by_cases hQ : ps_tile s l k ∧ (d = -1 ∨ d = 0 ∨ d = 1) ∧ (e = -1 ∨ e = 0 ∨ e = 1) ∧ ¬ (d = 0 ∧ e = 0)
  · obtain ⟨ht, hd, he, hn⟩ := hQ
    obtain ⟨a, b, ha, hb, rfl, rfl⟩ := id ht
    have hp4 := nz_p4 (show a ≤ 6 by omega)
    have hp2 := nz_p2 (show a ≤ 6 by omega)
    have q := cv_p64 (c := s.1 1) (show a ≤ 6 by omega) b
    have if1 : ∀ {α : Type} (u v : α), (if d = 0 then if e = 0 then u else v else v) = v := by
      intro α u v
      by_cases c1 : d = 0
      · rw [if_pos c1, if_neg (fun c2 => hn ⟨c1, c2⟩)]
      · rw [if_neg c1]
    have A1 := px_st hd q.2.2.1 (show 2 ^ a < 2147483648 by omega)
    have A2 := px_st he q.2.2.2 (show 2 ^ a < 2147483648 by omega)
    obtain ⟨j, hj⟩ : ∃ j, s.1 0 = a + j := ⟨s.1 0 - a, by omega⟩
    have hj2 := nz_p2 (show j ≤ 6 by omega)
    have hj4 := nz_p4 (show j ≤ 6 by omega)
    have pre := cv_p_pre (s.1 1) (l := a) (j := j) hb
    rw [← hj] at pre
    have hb4 : b * 4 ^ j < 4096 := by
      have : b * 4 ^ j < 4 ^ a * 4 ^ j := Nat.mul_lt_mul_of_pos_right hb hj4.1
      rw [← Nat.pow_add, ← hj] at this
      have := nz_p4 o2
      omega
    have hmul : 2 ^ a * 2 ^ j = 2 ^ s.1 0 := by rw [hj, Nat.pow_add]
    have hD2 := nz_p2 o2
    have B1 := pm_st hd q.2.2.1 hj2.1 pre.1 (by omega)
    have B2 := pm_st he q.2.2.2 hj2.1 pre.2 (by omega)
    have cls : ∀ pl M, ps_X s pl M → fX9_beside 0 (nI a) (nI b) d e M = fX9_beside_38 0 (nI a) (nI b) d e M := by
      intro pl M hX
      rw [px_beside ho ha hb ht hd he pl M hX, if1]
    have way : ∀ M, ps_M s M → fX10_beside 53 (nI a) (nI b) d e M = fX10_beside_39 53 (nI a) (nI b) d e M := by
      intro M hM
      rw [pm_beside ho ha hb ht hd he M hM, if1]
    have sh : (1 : Int32) <<< (nI a &&& 31) = nI (2 ^ a) := by rw [nm_1, nm_31, nm_shl1 (by omega)]
    rw [← sh] at A1 A2
    cases c1 : ps_st d (cv_p (s.1 1) a 0 0 0 b).1 (2 ^ a) with
    | none =>
      refine ⟨-4, s, ho, ps_ox.same (fun pl M hX => ?_), fun M hM => ?_⟩
      · rw [cls pl M hX, px_beside2 ho ha hb d e pl M hX]
        rcases A1.2 c1 with z | ⟨z1, z2⟩
        · rw [if_pos z]
        · rw [if_neg z1, if_pos z2]
      · obtain ⟨T, hR, hT⟩ := pm_beside2 ho hj hb d e M hM
        have z := B1.2 c1
        rw [hmul] at z
        refine ⟨T, ?_, hR.1, hR.2⟩
        rw [way M hM, hT, pm_isCell ho hR.1.2.2.1, if_neg (fun h => z h.1), am_bs, if_pos rfl]
    | some u =>
      obtain ⟨w1, w2⟩ := A1.1 u c1
      have y1 : ¬ (1 : Int32) <<< (nI a &&& 31) ≤ nI u := by rw [sh, nm_le (by omega) (by omega)]; omega
      cases c2 : ps_st e (cv_p (s.1 1) a 0 0 0 b).2 (2 ^ a) with
      | none =>
        refine ⟨-4, s, ho, ps_ox.same (fun pl M hX => ?_), fun M hM => ?_⟩
        · rw [cls pl M hX, px_beside2 ho ha hb d e pl M hX, w2]
          rw [if_neg (nI_pos (show u < 2147483648 by omega)), if_neg y1]
          rcases A2.2 c2 with z | ⟨z1, z2⟩
          · rw [if_pos z]
          · rw [if_neg z1, if_neg (Int32.not_lt.mpr z2)]
        · obtain ⟨T, hR, hT⟩ := pm_beside2 ho hj hb d e M hM
          have z := B2.2 c2
          rw [hmul] at z
          refine ⟨T, ?_, hR.1, hR.2⟩
          rw [way M hM, hT, pm_isCell ho hR.1.2.2.1, if_neg (fun h => z h.2), am_bs, if_pos rfl]
      | some v =>
        obtain ⟨w3, w4⟩ := A2.1 v c2
        have y2 : nI v < (1 : Int32) <<< (nI a &&& 31) := by rw [sh, nm_lt (by omega) (by omega)]; omega
        obtain ⟨U, u1, u2, u3⟩ := B1.1 u c1
        obtain ⟨V, v1, v2, v3⟩ := B2.1 v c2
        refine ⟨nI (cv_k (s.1 1) a u v 0), s, ho, ps_ox.same (fun pl M hX => ?_), fun M hM => ?_⟩
        · rw [cls pl M hX, px_beside2 ho ha hb d e pl M hX, w2, w4]
          rw [if_neg (nI_pos (show u < 2147483648 by omega)), if_neg y1, if_neg (nI_pos (show v < 2147483648 by omega)), if_pos y2, px_keyOf o3 (by omega) w1 w3, am_bs]
        · obtain ⟨T, hR, hT⟩ := pm_beside2 ho hj hb d e M hM
          refine ⟨T, ?_, hR.1, hR.2⟩
          rw [hmul] at u1 v1
          have hk := cv_k_lt (s.1 1) (s.1 0) U V
          have hD4 := nz_p4 o2
          have hc : (0 ≤ nI U ∧ nI U < nI (2 ^ s.1 0)) ∧ (0 ≤ nI V ∧ nI V < nI (2 ^ s.1 0)) := ⟨⟨nI_pos' (by omega), by rw [nm_lt (by omega) (by omega)]; exact u1⟩, nI_pos' (by omega), by rw [nm_lt (by omega) (by omega)]; exact v1⟩
          have hpre := cv_k_pre (s.1 1) j a U V 0 (by rw [← hj]; exact u1) (by rw [← hj]; exact v1)
          rw [← hj, u2, v2] at hpre
          have s1 := pm_size o2 (show a ≤ s.1 0 by omega) hR.1.2.2.1
          rw [show s.1 0 - a = j by omega] at s1
          have hne : ¬ nI (4 ^ j) = 0 := by rw [nz_eq0 (by omega)]; omega
          rw [way M hM, hT, u3, v3, pm_isCell ho hR.1.2.2.1, if_pos hc]
          simp only [am_bs, nm_1f, if_false, pm_keyOf o3 o2 hR.1.2.2.1 hR.1.2.2.2.1 u1 v1, s1, hne]
          rw [nm_div (by omega) (by omega) (by omega), hpre]
  · refine ⟨-1, s, ho, ps_ox.same (fun pl M hX => ?_), ps_om.same (fun M hM => ?_)⟩
    · obtain ⟨p1, p2, p3, p4, p5, p6, p7, p8, -⟩ := hX.pl
      unfold fX9_beside
      by_cases ht : ps_tile s l k
      · simp only [p2, px_tile_yes ho p4 ht, px_step, am_bs, nm_1f, if_false, if_true, nm_if0, not_true_eq_false, not_false_eq_true, and_self]
        by_cases hd : d = -1 ∨ d = 0 ∨ d = 1
        · by_cases he : e = -1 ∨ e = 0 ∨ e = 1
          · obtain ⟨z1, z2⟩ : d = 0 ∧ e = 0 := Decidable.byContradiction fun hn => hQ ⟨ht, hd, he, hn⟩
            rw [if_neg (not_not_intro hd), if_neg (not_not_intro he), if_pos z1, if_pos z2]
          · rw [if_neg (not_not_intro hd), if_pos he]
        · rw [if_pos hd]
      · simp only [p2, px_tile_no ho p4 ht, am_bs, nm_1f, if_false, if_true, nm_if0, not_true_eq_false, not_false_eq_true, and_self]
    · unfold fX10_beside
      by_cases ht : ps_tile s l k
      · simp only [(pm_tile ho hM.2.2.1 _ _).1 ht, pm_step, am_bs, nm_1f, if_false, if_true, nm_if0, not_true_eq_false, not_false_eq_true, and_self]
        by_cases hd : d = -1 ∨ d = 0 ∨ d = 1
        · by_cases he : e = -1 ∨ e = 0 ∨ e = 1
          · obtain ⟨z1, z2⟩ : d = 0 ∧ e = 0 := Decidable.byContradiction fun hn => hQ ⟨ht, hd, he, hn⟩
            rw [if_neg (not_not_intro hd), if_neg (not_not_intro he), if_pos z1, if_pos z2]
          · rw [if_neg (not_not_intro hd), if_pos he]
        · rw [if_pos hd]
      · simp only [(pm_tile ho hM.2.2.1 _ _).2 ht, am_bs, nm_1f, if_false, if_true, nm_if0, not_true_eq_false, not_false_eq_true, and_self]
