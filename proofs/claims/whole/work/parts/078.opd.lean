/-! key, cell, nearest, point -/
theorem ps_M.pI {s : ps_S} {M : am_M} (h : ps_M s M) {k j : Nat} (hk : (k = 53 ∧ 12 ≤ j) ∨ 59 ≤ k) (x : Int32) : ps_M s (am_pI M k j x) := by
  obtain ⟨m1, m2, m3, m4, m5, m6, m7, m8, m9, m10, m11, m12, m13, m14⟩ := h
  have r : ∀ a i, a < 59 → (a = 53 → i < 12) → (am_pI M k j x).1 a i = M.1 a i := fun a i ha hi => by rw [am_pI_1, if_neg (by omega)]
  refine ⟨m1, m2, (r 53 0 (by decide) (by decide)).trans m3, (r 53 1 (by decide) (by decide)).trans m4, (r 53 2 (by decide) (by decide)).trans m5, (r 53 3 (by decide) (by decide)).trans m6, (r 53 4 (by decide) (by decide)).trans m7, (r 53 6 (by decide) (by decide)).trans m8, (r 53 10 (by decide) (by decide)).trans m9, (r 53 11 (by decide) (by decide)).trans m10, fun i l hi hl => (r 54 _ (by decide) (by omega)).trans (m11 i l hi hl), fun i hi => ⟨(r 55 _ (by decide) (by omega)).trans (m12 i hi).1, (r 56 _ (by decide) (by omega)).trans (m12 i hi).2⟩, fun i hi => (r 57 _ (by decide) (by omega)).trans (m13 i hi), fun i hi => (r 58 _ (by decide) (by omega)).trans (m14 i hi)⟩
theorem px_bit (a : Int32) (M : am_M) : fX9_isBit a M = some (if a = 0 ∨ a = 1 then 1 else 0, M) := by
  unfold fX9_isBit
  by_cases h0 : a = 0
  · rw [if_pos h0, if_pos (Or.inl h0)]
  · by_cases h1 : a = 1
    · rw [if_neg h0, if_pos h1, if_pos (Or.inr h1)]
    · rw [if_neg h0, if_neg h1, if_neg (by rintro (h | h) <;> contradiction)]
/-- from 0 to n -/
theorem pm_in {n : Nat} (hn : n < 2147483647) (a : Int32) (M : am_M) : fX10_isIn a 0 (nI n) M = some (if 0 ≤ a ∧ a < nI (n + 1) then 1 else 0, M) := by
  have h2 : (nI n < a) = (nI (n + 1) ≤ a) := by
    have q1 := nI_toInt (n := n) (by omega)
    have q2 := nI_toInt (n := n + 1) (by omega)
    rw [Int32.lt_iff_toInt_lt, Int32.le_iff_toInt_le, q1, q2]
    apply propext
    omega
  unfold fX10_isIn
  simp only [h2]
  by_cases h0 : a < 0
  · rw [if_pos h0, if_neg (fun q => absurd h0 (Int32.not_lt.mpr q.1))]
  · rw [if_neg h0]
    by_cases h1 : nI (n + 1) ≤ a
    · rw [if_pos h1, if_neg (fun q => absurd q.2 (Int32.not_lt.mpr h1))]
    · rw [if_neg h1, if_pos ⟨Int32.not_lt.mp h0, Int32.not_le.mp h1⟩]
theorem pm_bit (a : Int32) (M : am_M) : fX10_isIn a 0 1 M = some (if a = 0 ∨ a = 1 then 1 else 0, M) := by
  have h := pm_in (n := 1) (by decide) a M
  rw [← nm_1] at h
  rw [h]
  have e : (0 ≤ a ∧ a < nI (1 + 1)) = (a = 0 ∨ a = 1) := by
    apply propext
    constructor
    · intro q
      obtain ⟨j, hj, rfl⟩ := nm_of (by decide) q
      rcases (show j = 0 ∨ j = 1 by omega) with rfl | rfl
      · exact Or.inl rfl
      · exact Or.inr rfl
    · rintro (rfl | rfl) <;> decide
  simp only [e]
theorem op_key (x y : Int32) : ps_op (fX9_key 0 x y) (fX10_key 53 x y) := by
  intro s ho
  obtain ⟨o1, o2, o3, -⟩ := id ho
  have hp : 2 ^ s.1 0 ≤ 2 ^ 6 := Nat.pow_le_pow_right (by decide) o2
  by_cases hQ : (0 ≤ x ∧ x < nI (2 ^ s.1 0)) ∧ (0 ≤ y ∧ y < nI (2 ^ s.1 0))
  · obtain ⟨i, hi, rfl⟩ := nm_of (by omega) hQ.1
    obtain ⟨j, hj, rfl⟩ := nm_of (by omega) hQ.2
    refine ⟨nI (cv_k (s.1 1) (s.1 0) i j 0), s, ho, ps_ox.same (fun pl M hX => ?_), ps_om.same (fun M hM => ?_)⟩
    · obtain ⟨p1, p2, p3, p4, p5, p6, p7, p8, -⟩ := hX.pl
      have e := px_hasCell ho p4 (nI i) (nI j)
      rw [if_pos hQ] at e
      unfold fX9_key
      simp only [p2, Option.bind_some, e, nm_1f, if_false, p4, p5, px_keyOf o3 o2 hi hj]
    · have e := pm_isCell ho hM.2.2.1 (nI i) (nI j)
      rw [if_pos hQ] at e
      unfold fX10_key
      simp only [Option.bind_some, e, nm_1f, if_false, pm_keyOf o3 o2 hM.2.2.1 hM.2.2.2.1 hi hj]
  · refine ⟨-1, s, ho, ps_ox.same (fun pl M hX => ?_), ps_om.same (fun M hM => ?_)⟩
    · obtain ⟨p1, p2, p3, p4, -⟩ := hX.pl
      have e := px_hasCell ho p4 x y
      rw [if_neg hQ] at e
      unfold fX9_key
      simp only [p2, Option.bind_some, e, if_true]
    · have e := pm_isCell ho hM.2.2.1 x y
      rw [if_neg hQ] at e
      unfold fX10_key
      simp only [Option.bind_some, e, if_true]
/-- is a tile: both sides -/
def ps_tile (s : ps_S) (l k : Int32) : Prop := ∃ a b, a ≤ s.1 0 ∧ b < 4 ^ a ∧ l = nI a ∧ k = nI b
theorem nm_p4 {a : Nat} (h : a ≤ 6) : (1 : Int32) <<< ((2 * nI a) &&& 31) = nI (4 ^ a) := by
  rw [nm_2, pk_mul, nm_1, nm_31, nm_shl1 (by omega), show (4 : Nat) = 2 ^ 2 from rfl, ← Nat.pow_mul]
theorem px_tile_yes {s : ps_S} {pl : Nat} {M : am_M} (ho : ps_ok s) (h : M.1 pl 3 = nI (s.1 0)) {l k : Int32} (ht : ps_tile s l k) : fX5_hasTile pl l k M = some (1, M) := by
  obtain ⟨o1, o2, -⟩ := ho
  obtain ⟨a, b, ha, hb, rfl, rfl⟩ := ht
  have hpa : 4 ^ a ≤ 4 ^ 6 := Nat.pow_le_pow_right (by decide) (by omega)
  have c1 : ¬ nI a < 0 := nI_pos (by omega)
  have c2 : ¬ nI (s.1 0) < nI a := by rw [nm_lt (by omega) (by omega)]; omega
  have c3 : ¬ nI b < 0 := nI_pos (by omega)
  have c4 : ¬ nI (4 ^ a) ≤ nI b := by rw [nm_le (by omega) (by omega)]; omega
  unfold fX5_hasTile
  simp only [h, nm_p4 (show a ≤ 6 by omega), c1, c2, c3, c4, if_false]
theorem px_tile_no {s : ps_S} {pl : Nat} {M : am_M} (ho : ps_ok s) (h : M.1 pl 3 = nI (s.1 0)) {l k : Int32} (ht : ¬ ps_tile s l k) : fX5_hasTile pl l k M = some (0, M) := by
  obtain ⟨o1, o2, -⟩ := ho
  unfold fX5_hasTile
  by_cases c1 : l < 0
  · simp only [c1, if_true]
  · by_cases c2 : nI (s.1 0) < l
    · simp only [c1, h, c2, if_true, if_false]
    · obtain ⟨a, ha, rfl⟩ := nm_of (n := s.1 0 + 1) (by omega) ⟨Int32.not_lt.mp c1, by
        rw [Int32.lt_iff_toInt_lt, nI_toInt (by omega)]
        rw [Int32.lt_iff_toInt_lt, nI_toInt (by omega)] at c2
        omega⟩
      have hpa : 4 ^ a ≤ 4 ^ 6 := Nat.pow_le_pow_right (by decide) (by omega)
      by_cases c3 : k < 0
      · simp only [c1, h, c2, c3, if_true, if_false]
      · by_cases c4 : nI (4 ^ a) ≤ k
        · simp only [c1, h, c2, c3, nm_p4 (show a ≤ 6 by omega), c4, if_true, if_false]
        · obtain ⟨b, hb, rfl⟩ := nm_of (n := 4 ^ a) (by omega) ⟨Int32.not_lt.mp c3, Int32.not_le.mp c4⟩
          exact absurd ⟨a, b, by omega, hb, rfl, rfl⟩ ht
theorem op_cell (k w : Int32) : ps_op (fX9_cell 0 k w) (fX10_cell 53 k w) := by
  intro s ho
  obtain ⟨o1, o2, o3, -⟩ := id ho
  have hp : 4 ^ s.1 0 ≤ 4 ^ 6 := Nat.pow_le_pow_right (by decide) o2
  have hp0 : 0 < 4 ^ s.1 0 := Nat.pow_pos (by decide)
  have hc : ∀ M : am_M, M.1 53 0 = nI (s.1 0) → fX10_cells 53 M = some (nI (4 ^ s.1 0), M) := by
    intro M h
    unfold fX10_cells
    rw [h, nm_2, pk_mul, nm_1, nm_31, nm_shl1 (by omega), show (4 : Nat) = 2 ^ 2 from rfl, ← Nat.pow_mul]
  have hi : ∀ M : am_M, fX10_isIn k 0 (nI (4 ^ s.1 0) - 1) M = some (if 0 ≤ k ∧ k < nI (4 ^ s.1 0) then 1 else 0, M) := by
    intro M
    have e : nI (4 ^ s.1 0) - 1 = nI (4 ^ s.1 0 - 1) := nm_sub (b := 1) (by omega)
    rw [e, pm_in (by omega), show 4 ^ s.1 0 - 1 + 1 = 4 ^ s.1 0 by omega]
  have ht : ps_tile s (nI (s.1 0)) k ↔ (0 ≤ k ∧ k < nI (4 ^ s.1 0)) := by
    constructor
    · rintro ⟨a, b, q1, q2, q3, rfl⟩
      rw [nm_eq (by omega) (by omega)] at q3
      subst q3
      exact ⟨nI_pos' (by omega), by rw [nm_lt (by omega) (by omega)]; exact q2⟩
    · intro q
      obtain ⟨b, hb, rfl⟩ := nm_of (by omega) q
      exact ⟨s.1 0, b, Nat.le_refl _, hb, rfl, rfl⟩
  by_cases hk : 0 ≤ k ∧ k < nI (4 ^ s.1 0)
  · by_cases hw : w = 0 ∨ w = 1
    · obtain ⟨g, hg, rfl⟩ := nm_of (by omega) hk
      have hl := cv_p_lt (s.1 1) (s.1 0) 0 0 0 g (by decide) (by decide)
      rw [Nat.zero_add] at hl
      have h64 : 2 ^ s.1 0 ≤ 2 ^ 6 := Nat.pow_le_pow_right (by decide) o2
      have l1 : (cv_p (s.1 1) (s.1 0) 0 0 0 g).1 < 64 := by omega
      have l2 : (cv_p (s.1 1) (s.1 0) 0 0 0 g).2 < 64 := by omega
      refine ⟨if w = 0 then nI (cv_p (s.1 1) (s.1 0) 0 0 0 g).1 else nI (cv_p (s.1 1) (s.1 0) 0 0 0 g).2, s, ho, ps_ox.same (fun pl M hX => ?_), fun M hM => ?_⟩
      · obtain ⟨p1, p2, p3, p4, p5, p6, p7, p8, -⟩ := hX.pl
        have e := px_tile_yes ho p4 (ht.mpr hk)
        have e2 := px_bit w M
        rw [if_pos hw] at e2
        unfold fX9_cell
        simp only [p2, Option.bind_some, p4, e, nm_1f, if_false, e2, p5, px_placeOf o3 o2 (show g < 4096 by omega)]
        rcases hw with rfl | rfl
        · simp only [px_half0 l1 l2, Option.bind_some, if_true]
        · simp only [px_half1 l1 l2, Option.bind_some, nm_1f, if_false]
      · refine ⟨am_pI (am_pI M 53 19 (nI (cv_p (s.1 1) (s.1 0) 0 0 0 g).1)) 53 20 (nI (cv_p (s.1 1) (s.1 0) 0 0 0 g).2), ?_, (hM.pI (Or.inl ⟨rfl, by decide⟩) _).pI (Or.inl ⟨rfl, by decide⟩) _, ((am_fm.rf M).pI (by decide) _ _).pI (by decide) _ _⟩
        have e2 := pm_bit w M
        rw [if_pos hw] at e2
        have e3 := hi M
        rw [if_pos hk] at e3
        unfold fX10_cell
        simp only [hc M hM.2.2.1, Option.bind_some, e3, nm_1f, if_false, e2, pm_setCell o3 o2 hM.2.2.1 hM.2.2.2.1 (show g < 4096 by omega)]
        rcases hw with rfl | rfl
        · simp only [if_true]; rfl
        · simp only [nm_1f, if_false]; rfl
    · refine ⟨-1, s, ho, ps_ox.same (fun pl M hX => ?_), ps_om.same (fun M hM => ?_)⟩
      · obtain ⟨p1, p2, p3, p4, p5, p6, p7, p8, -⟩ := hX.pl
        have e := px_tile_yes ho p4 (ht.mpr hk)
        have e2 := px_bit w M
        rw [if_neg hw] at e2
        unfold fX9_cell
        simp only [p2, Option.bind_some, p4, e, nm_1f, if_false, e2, if_true]
      · have e2 := pm_bit w M
        rw [if_neg hw] at e2
        have e3 := hi M
        rw [if_pos hk] at e3
        unfold fX10_cell
        simp only [hc M hM.2.2.1, Option.bind_some, e3, nm_1f, if_false, e2, if_true]
  · refine ⟨-1, s, ho, ps_ox.same (fun pl M hX => ?_), ps_om.same (fun M hM => ?_)⟩
    · obtain ⟨p1, p2, p3, p4, p5, p6, p7, p8, -⟩ := hX.pl
      have e := px_tile_no ho p4 (fun q => hk (ht.mp q))
      unfold fX9_cell
      simp only [p2, Option.bind_some, p4, e, if_true]
    · have e3 := hi M
      rw [if_neg hk] at e3
      unfold fX10_cell
      simp only [hc M hM.2.2.1, Option.bind_some, e3, if_true]
