/-! the reference lays an item, and goes on -/
def tm_D (d : ps_S) (k : Nat) (T : am_M) : Prop := T.1 53 14 = nI k ∧ T.1 53 15 = nI (d.1 4) ∧ T.1 53 16 = nI (d.1 5) ∧ (1 ≤ k → T.1 53 17 = nI (2 ^ d.1 0))
def tm_L (d : ps_S) (k : Nat) (T : am_M) : Prop := (1 ≤ k → T.1 53 0 = nI (d.1 0) ∧ T.1 53 1 = nI (d.1 1) ∧ T.1 53 2 = nI (d.1 2) ∧ T.1 53 3 = nI (d.1 3)) ∧ (∀ i j, i < d.1 4 → j < 6 → T.1 54 (6 * i + j) = nI (d.2 j i)) ∧ ∀ i, i < d.1 5 → T.1 55 i = nI (d.2 6 i) ∧ T.1 56 i = nI (d.2 7 i)
theorem tm_L.fr {d : ps_S} {k : Nat} {M T : am_M} (h : tm_L d k M) (e : ∀ j, j < 4 → T.1 53 j = M.1 53 j) (e1 : ∀ a, a = 54 ∨ a = 55 ∨ a = 56 → T.1 a = M.1 a) : tm_L d k T := by
  obtain ⟨h1, h2, h3⟩ := h
  refine ⟨fun hk => ?_, fun i j hi hj => by rw [e1 54 (by omega)]; exact h2 i j hi hj, fun i hi => by rw [e1 55 (by omega), e1 56 (by omega)]; exact h3 i hi⟩
  rw [e 0 (by decide), e 1 (by decide), e 2 (by decide), e 3 (by decide)]
  exact h1 hk
/-- an item more -/
theorem pm_128 {d : ps_S} {k kd sg : Nat} {V : Nat → Nat} {T : am_M} (hS : tm_S T) (hkd : kd = 119 ∨ kd = 112 ∨ kd = 98 ∨ kd = 100) (hD : tm_D d k T) (hw : kd = 119 ↔ k = 0) (h0 : k = 0 → d.1 4 = 0 ∧ d.1 5 = 0) (hV : T.1 59 0 = nI (V 0)) (hV6 : kd = 119 → V 0 ≤ 6) : ∃ U, fX10_readsItem_128 53 (tm_w kd) T = some (1, U) ∧ U.2 = T.2 ∧ (∀ a, a ≠ 53 → U.1 a = T.1 a) ∧ (∀ j, j < 14 → U.1 53 j = T.1 53 j) ∧ tm_D (tx_put d sg kd V) (k + 1) U := by
  obtain ⟨d1, d2, d3, d4⟩ := hD
  have r18 := hS.2 53 18 59 (by decide) rfl
  have l59 : am_len T 59 = 4 := am_len_SH hS.1 59
  have fin : ∀ x y z w : Int32, fX10_readsItem_128 53 (tm_w kd) T = some (1, am_pI (am_pI (am_pI (am_pI T 53 17 x) 53 15 y) 53 16 z) 53 14 w) → x = nI (2 ^ (tx_put d sg kd V).1 0) → y = nI ((tx_put d sg kd V).1 4) → z = nI ((tx_put d sg kd V).1 5) → w = nI (k + 1) → ∃ U, fX10_readsItem_128 53 (tm_w kd) T = some (1, U) ∧ U.2 = T.2 ∧ (∀ a, a ≠ 53 → U.1 a = T.1 a) ∧ (∀ j, j < 14 → U.1 53 j = T.1 53 j) ∧ tm_D (tx_put d sg kd V) (k + 1) U := fun x y z w e ex ey ez ew => by
    refine ⟨_, e, rfl, fun a ha => by rw [am_pI_r _ _ _ _ ha, am_pI_r _ _ _ _ ha, am_pI_r _ _ _ _ ha, am_pI_r _ _ _ _ ha], fun j hj => by rw [am_pI_1, if_neg (by omega), am_pI_1, if_neg (by omega), am_pI_1, if_neg (by omega), am_pI_1, if_neg (by omega)], ?_, ?_, ?_, fun _ => ?_⟩
    · rw [am_pI_1, if_pos ⟨rfl, rfl⟩, ew]
    · rw [am_pI_1, if_neg (by omega), am_pI_1, if_neg (by omega), am_pI_1, if_pos ⟨rfl, rfl⟩, ey]
    · rw [am_pI_1, if_neg (by omega), am_pI_1, if_pos ⟨rfl, rfl⟩, ez]
    · rw [am_pI_1, if_neg (by omega), am_pI_1, if_neg (by omega), am_pI_1, if_neg (by omega), am_pI_1, if_pos ⟨rfl, rfl⟩, ex]
  have g15 : ∀ x : Int32, (am_pI T 53 17 x).1 53 15 = nI (d.1 4) := fun x => by rw [am_pI_1, if_neg (by omega)]; exact d2
  have g16 : ∀ x y : Int32, (am_pI (am_pI T 53 17 x) 53 15 y).1 53 16 = nI (d.1 5) := fun x y => by rw [am_pI_1, if_neg (by omega), am_pI_1, if_neg (by omega)]; exact d3
  have g14 : ∀ x y z : Int32, (am_pI (am_pI (am_pI T 53 17 x) 53 15 y) 53 16 z).1 53 14 = nI k := fun x y z => by rw [am_pI_1, if_neg (by omega), am_pI_1, if_neg (by omega), am_pI_1, if_neg (by omega)]; exact d1
  rcases hkd with rfl | rfl | rfl | rfl
  · have k0 : k = 0 := hw.mp rfl
    obtain ⟨q4, q5⟩ := h0 k0
    have hp : V 0 ≤ 6 := hV6 rfl
    refine fin (nI (2 ^ V 0)) (nI 0) (nI 0) (nI (k + 1)) ?_ (by unfold tx_put; rw [if_pos rfl]; rfl) (by unfold tx_put; rw [if_pos rfl]; rfl) (by unfold tx_put; rw [if_pos rfl]; rfl) rfl
    have esh : (1 : Int32) <<< (nI (V 0) &&& 31) = nI (2 ^ V 0) := by rw [nm_1, nm_31, nm_shl1 (by omega)]
    unfold fX10_readsItem_128 fX10_readsItem_148 fX10_readsItem_166 fX10_readsItem_171 fX10_readsItem_190
    simp only [show tm_w 119 = (0 : Int32) from rfl, if_true, r18, am_bs, l59, show (0 : Int32).toNatClampNeg = 0 from rfl, show ((0 : Int32) < 0 ∨ 4 ≤ 0) = False from eq_false (by decide), if_false, hV, esh, show ((0 : Int32) = 1) = False from eq_false (by decide), show ((0 : Int32) = 2) = False from eq_false (by decide), show ((0 : Int32) = 3) = False from eq_false (by decide), g15, g16, g14, q4, q5, nz_p0, nI_1]
  · have k1 : 1 ≤ k := by
      rcases Nat.lt_or_ge 0 k with z | z
      · exact z
      · exact absurd (hw.mpr (by omega)) (by decide)
    refine fin (nI (2 ^ d.1 0)) (nI (d.1 4)) (nI (d.1 5 + 1)) (nI (k + 1)) ?_ (by unfold tx_put; rw [if_neg (by decide), if_pos rfl]; rfl) (by unfold tx_put; rw [if_neg (by decide), if_pos rfl]; rfl) (by unfold tx_put; rw [if_neg (by decide), if_pos rfl]; rfl) rfl
    unfold fX10_readsItem_128 fX10_readsItem_148 fX10_readsItem_166 fX10_readsItem_171 fX10_readsItem_190
    simp only [show tm_w 112 = (3 : Int32) from rfl, if_true, if_false, d4 k1, show ((3 : Int32) = 0) = False from eq_false (by decide), show ((3 : Int32) = 1) = False from eq_false (by decide), show ((3 : Int32) = 2) = False from eq_false (by decide), g15, g16, g14, nz_p0, nI_1]
  · have k1 : 1 ≤ k := by
      rcases Nat.lt_or_ge 0 k with z | z
      · exact z
      · exact absurd (hw.mpr (by omega)) (by decide)
    refine fin (nI (2 ^ d.1 0)) (nI (d.1 4 + 1)) (nI (d.1 5)) (nI (k + 1)) ?_ (by unfold tx_put; rw [if_neg (by decide), if_neg (by decide)]; rfl) (by unfold tx_put; rw [if_neg (by decide), if_neg (by decide)]; rfl) (by unfold tx_put; rw [if_neg (by decide), if_neg (by decide)]; rfl) rfl
    unfold fX10_readsItem_128 fX10_readsItem_148 fX10_readsItem_166 fX10_readsItem_171 fX10_readsItem_190
    simp only [show tm_w 98 = (1 : Int32) from rfl, if_true, if_false, d4 k1, show ((1 : Int32) = 0) = False from eq_false (by decide), show ((1 : Int32) = 3) = False from eq_false (by decide), g15, g16, g14, nz_p0, nI_1]
  · have k1 : 1 ≤ k := by
      rcases Nat.lt_or_ge 0 k with z | z
      · exact z
      · exact absurd (hw.mpr (by omega)) (by decide)
    refine fin (nI (2 ^ d.1 0)) (nI (d.1 4 + 1)) (nI (d.1 5)) (nI (k + 1)) ?_ (by unfold tx_put; rw [if_neg (by decide), if_neg (by decide)]; rfl) (by unfold tx_put; rw [if_neg (by decide), if_neg (by decide)]; rfl) (by unfold tx_put; rw [if_neg (by decide), if_neg (by decide)]; rfl) rfl
    unfold fX10_readsItem_128 fX10_readsItem_148 fX10_readsItem_166 fX10_readsItem_171 fX10_readsItem_190
    simp only [show tm_w 100 = (2 : Int32) from rfl, if_true, if_false, d4 k1, show ((2 : Int32) = 0) = False from eq_false (by decide), show ((2 : Int32) = 1) = False from eq_false (by decide), show ((2 : Int32) = 3) = False from eq_false (by decide), g15, g16, g14, nz_p0, nI_1]
/-- only what is laid has changed -/
def am_gl (M T : am_M) : Prop := T.2 = M.2 ∧ (∀ a, a ≠ 53 → a ≠ 54 → a ≠ 55 → a ≠ 56 → T.1 a = M.1 a) ∧ ∀ j, 4 ≤ j → T.1 53 j = M.1 53 j
theorem pm_lays {d : ps_S} {k kd sg : Nat} {V : Nat → Nat} {T : am_M} (od : ps_ok d) (hS : tm_S T) (hkd : kd = 119 ∨ kd = 112 ∨ kd = 98 ∨ kd = 100) (hD : tm_D d k T) (hL : tm_L d k T) (hw : kd = 119 ↔ k = 0) (hm : if kd = 112 then d.1 5 < 40 else d.1 4 < 8) (hV : ∀ j, j < tx_many kd → T.1 59 j = nI (V j)) : ∃ U, fX10_lays 53 (tm_w kd) (nI (if sg = 43 then 1 else 0)) T = some U ∧ am_gl T U ∧ tm_L (tx_put d sg kd V) (k + 1) U := by
  obtain ⟨d1, d2, d3, d4⟩ := hD
  obtain ⟨l1, l2, l3⟩ := hL
  have r18 := hS.2 53 18 59 (by decide) rfl
  have l59 : am_len T 59 = 4 := am_len_SH hS.1 59
  have r7 := hS.2 53 7 55 (by decide) rfl
  have r8 := hS.2 53 8 56 (by decide) rfl
  have r5 := hS.2 53 5 54 (by decide) rfl
  have l55 : am_len T 55 = 40 := am_len_SH hS.1 55
  have l56 : am_len T 56 = 40 := am_len_SH hS.1 56
  have l54 : am_len T 54 = 48 := am_len_SH hS.1 54
  have c0 : (0 : Int32).toNatClampNeg = 0 := rfl
  have c1 : (1 : Int32).toNatClampNeg = 1 := rfl
  have c2 : (2 : Int32).toNatClampNeg = 2 := rfl
  have c3 : (3 : Int32).toNatClampNeg = 3 := rfl
  have n0 : ((0 : Int32) < 0 ∨ 4 ≤ 0) = False := eq_false (by decide)
  have n1 : ((1 : Int32) < 0 ∨ 4 ≤ 1) = False := eq_false (by decide)
  have n2 : ((2 : Int32) < 0 ∨ 4 ≤ 2) = False := eq_false (by decide)
  have n3 : ((3 : Int32) < 0 ∨ 4 ≤ 3) = False := eq_false (by decide)
  have kk1 : ¬ kd = 119 → 1 ≤ k := fun z => by
    rcases Nat.lt_or_ge 0 k with q | q
    · exact q
    · exact absurd (hw.mpr (by omega)) z
  have parts : ∀ f : Nat → Nat, d.1 4 < 8 → ¬ kd = 119 → am_gl T (am_pI (am_pI (am_pI (am_pI (am_pI (am_pI T 54 (6 * d.1 4) (nI (f 0))) 54 (6 * d.1 4 + 1) (nI (f 1))) 54 (6 * d.1 4 + 2) (nI (f 2))) 54 (6 * d.1 4 + 3) (nI (f 3))) 54 (6 * d.1 4 + 4) (nI (f 4))) 54 (6 * d.1 4 + 5) (nI (f 5))) ∧ tm_L (ps_more d f) (k + 1) (am_pI (am_pI (am_pI (am_pI (am_pI (am_pI T 54 (6 * d.1 4) (nI (f 0))) 54 (6 * d.1 4 + 1) (nI (f 1))) 54 (6 * d.1 4 + 2) (nI (f 2))) 54 (6 * d.1 4 + 3) (nI (f 3))) 54 (6 * d.1 4 + 4) (nI (f 4))) 54 (6 * d.1 4 + 5) (nI (f 5))) := fun f h8 hne => by
    have ot : ∀ a, a ≠ 54 → (am_pI (am_pI (am_pI (am_pI (am_pI (am_pI T 54 (6 * d.1 4) (nI (f 0))) 54 (6 * d.1 4 + 1) (nI (f 1))) 54 (6 * d.1 4 + 2) (nI (f 2))) 54 (6 * d.1 4 + 3) (nI (f 3))) 54 (6 * d.1 4 + 4) (nI (f 4))) 54 (6 * d.1 4 + 5) (nI (f 5))).1 a = T.1 a := fun a ha => by rw [am_pI_r _ _ _ _ ha, am_pI_r _ _ _ _ ha, am_pI_r _ _ _ _ ha, am_pI_r _ _ _ _ ha, am_pI_r _ _ _ _ ha, am_pI_r _ _ _ _ ha]
    refine ⟨⟨rfl, fun a _ h4 _ _ => ot a h4, fun j _ => by rw [ot 53 (by decide)]⟩, fun _ => by rw [ot 53 (by decide)]; exact l1 (kk1 hne), fun i j hi hj => ?_, fun i hi => by rw [ot 55 (by decide), ot 56 (by decide)]; exact l3 i hi⟩
    have hi : i < d.1 4 + 1 := hi
    show _ = nI ((if j < 6 then (fun i => if i = d.1 4 then f j else d.2 j i) else d.2 j) i)
    rw [if_pos hj]
    show _ = nI (if i = d.1 4 then f j else d.2 j i)
    by_cases e : i = d.1 4
    · rw [if_pos e, e]
      rcases (show j = 0 ∨ j = 1 ∨ j = 2 ∨ j = 3 ∨ j = 4 ∨ j = 5 by omega) with rfl | rfl | rfl | rfl | rfl | rfl
      · rw [am_pI_1, if_neg (by omega), am_pI_1, if_neg (by omega), am_pI_1, if_neg (by omega), am_pI_1, if_neg (by omega), am_pI_1, if_neg (by omega), am_pI_1, if_pos ⟨rfl, rfl⟩]
      · rw [am_pI_1, if_neg (by omega), am_pI_1, if_neg (by omega), am_pI_1, if_neg (by omega), am_pI_1, if_neg (by omega), am_pI_1, if_pos ⟨rfl, rfl⟩]
      · rw [am_pI_1, if_neg (by omega), am_pI_1, if_neg (by omega), am_pI_1, if_neg (by omega), am_pI_1, if_pos ⟨rfl, rfl⟩]
      · rw [am_pI_1, if_neg (by omega), am_pI_1, if_neg (by omega), am_pI_1, if_pos ⟨rfl, rfl⟩]
      · rw [am_pI_1, if_neg (by omega), am_pI_1, if_pos ⟨rfl, rfl⟩]
      · rw [am_pI_1, if_pos ⟨rfl, rfl⟩]
    · rw [if_neg e, am_pI_1, if_neg (by omega), am_pI_1, if_neg (by omega), am_pI_1, if_neg (by omega), am_pI_1, if_neg (by omega), am_pI_1, if_neg (by omega), am_pI_1, if_neg (by omega)]
      exact l2 i j (by omega) hj
  unfold tx_put
  rcases hkd with rfl | rfl | rfl | rfl
  · have v0 := hV 0 (by decide)
    have v1 := hV 1 (by decide)
    rw [if_pos rfl]
    refine ⟨am_pI (am_pI (am_pI (am_pI T 53 0 (nI (V 0))) 53 1 (nI (V 1))) 53 2 0) 53 3 (nI (V 0)), ?_, ⟨rfl, fun a a1 _ _ _ => by rw [am_pI_r _ _ _ _ a1, am_pI_r _ _ _ _ a1, am_pI_r _ _ _ _ a1, am_pI_r _ _ _ _ a1], fun j hj => by rw [am_pI_1, if_neg (by omega), am_pI_1, if_neg (by omega), am_pI_1, if_neg (by omega), am_pI_1, if_neg (by omega)]⟩, fun _ => ⟨?_, ?_, ?_, ?_⟩, fun i j hi => absurd hi (Nat.not_lt_zero i), fun i hi => absurd hi (Nat.not_lt_zero i)⟩
    · have r18' : (am_pI T 53 0 (nI (V 0))).2.2.1 53 18 = some 59 := r18
      have l59' : am_len (am_pI T 53 0 (nI (V 0))) 59 = 4 := l59
      have v1' : (am_pI T 53 0 (nI (V 0))).1 59 1 = nI (V 1) := by rw [am_pI_r _ _ _ _ (by decide)]; exact v1
      have w0 : (am_pI (am_pI (am_pI T 53 0 (nI (V 0))) 53 1 (nI (V 1))) 53 2 0).1 53 0 = nI (V 0) := by rw [am_pI_1, if_neg (by omega), am_pI_1, if_neg (by omega), am_pI_1, if_pos ⟨rfl, rfl⟩]
      unfold fX10_lays
      simp only [show tm_w 119 = (0 : Int32) from rfl, if_true, r18, am_bs, l59, c0, n0, if_false, v0, r18', l59', c1, n1, v1', w0]
    · rw [am_pI_1, if_neg (by omega), am_pI_1, if_neg (by omega), am_pI_1, if_neg (by omega), am_pI_1, if_pos ⟨rfl, rfl⟩]; rfl
    · rw [am_pI_1, if_neg (by omega), am_pI_1, if_neg (by omega), am_pI_1, if_pos ⟨rfl, rfl⟩]; rfl
    · rw [am_pI_1, if_neg (by omega), am_pI_1, if_pos ⟨rfl, rfl⟩]; rfl
    · rw [am_pI_1, if_pos ⟨rfl, rfl⟩]; rfl
  · have v0 := hV 0 (by decide)
    have v1 := hV 1 (by decide)
    rw [if_pos rfl] at hm
    rw [if_neg (show ¬ (112 : Nat) = 119 by decide), if_pos (show (112 : Nat) = 112 from rfl)]
    have ot : ∀ a, a ≠ 55 → a ≠ 56 → (am_pI (am_pI T 55 (d.1 5) (nI (V 0))) 56 (d.1 5) (nI (V 1))).1 a = T.1 a := fun a h5 h6 => by rw [am_pI_r _ _ _ _ h6, am_pI_r _ _ _ _ h5]
    refine ⟨am_pI (am_pI T 55 (d.1 5) (nI (V 0))) 56 (d.1 5) (nI (V 1)), ?_, ⟨rfl, fun a _ _ h5 h6 => ot a h5 h6, fun j _ => by rw [ot 53 (by decide) (by decide)]⟩, fun _ => by rw [ot 53 (by decide) (by decide)]; exact l1 (kk1 (by decide)), fun i j hi hj => ?_, fun i hi => ?_⟩
    · have r8' : (am_pI T 55 (d.1 5) (nI (V 0))).2.2.1 53 8 = some 56 := r8
      have r18' : (am_pI T 55 (d.1 5) (nI (V 0))).2.2.1 53 18 = some 59 := r18
      have l59' : am_len (am_pI T 55 (d.1 5) (nI (V 0))) 59 = 4 := l59
      have l56' : am_len (am_pI T 55 (d.1 5) (nI (V 0))) 56 = 40 := l56
      have v1' : (am_pI T 55 (d.1 5) (nI (V 0))).1 59 1 = nI (V 1) := by rw [am_pI_r _ _ _ _ (by decide)]; exact v1
      have w16 : (am_pI T 55 (d.1 5) (nI (V 0))).1 53 16 = nI (d.1 5) := by rw [am_pI_r _ _ _ _ (by decide)]; exact d3
      unfold fX10_lays
      simp only [show tm_w 112 = (3 : Int32) from rfl, show ((3 : Int32) = 0) = False from eq_false (by decide), if_true, if_false, r7, r18, am_bs, l59, c0, n0, v0, d3, l55, nm_cl (show d.1 5 < 2147483648 by omega), am_ixc (show d.1 5 < 40 by omega) (show 40 < 2147483648 by decide), r8', r18', l59', c1, n1, v1', w16, l56']
    · show _ = nI ((if j = 6 then _ else if j = 7 then _ else d.2 j) i)
      rw [ot 54 (by decide) (by decide), if_neg (by omega), if_neg (by omega)]; exact l2 i j hi hj
    · have hi : i < d.1 5 + 1 := hi
      show _ = nI (if i = d.1 5 then V 0 else d.2 6 i) ∧ _ = nI (if i = d.1 5 then V 1 else d.2 7 i)
      refine ⟨?_, ?_⟩
      · rw [am_pI_r _ _ _ _ (by decide), am_pI_1]
        by_cases e : i = d.1 5
        · rw [if_pos ⟨rfl, e⟩, if_pos e]
        · rw [if_neg (fun z => e z.2), if_neg e]; exact (l3 i (by omega)).1
      · rw [am_pI_1]
        by_cases e : i = d.1 5
        · rw [if_pos ⟨rfl, e⟩, if_pos e]
        · rw [if_neg (fun z => e z.2), if_neg e, am_pI_r _ _ _ _ (by decide)]; exact (l3 i (by omega)).2
  · have v0 := hV 0 (by decide)
    have v1 := hV 1 (by decide)
    have v2 := hV 2 (by decide)
    have v3 := hV 3 (by decide)
    rw [if_neg (by decide)] at hm
    rw [if_neg (show ¬ (98 : Nat) = 119 by decide), if_neg (show ¬ (98 : Nat) = 112 by decide)]
    obtain ⟨u2, u3⟩ := parts (tx_part sg 98 V) hm (by decide)
    refine ⟨_, ?_, u2, u3⟩
    have pp := pm_puts r5 l54 hm (nI (if sg = 43 then 1 else 0)) (nI 0) (nI (V 0)) (nI (V 1)) (nI (V 2)) (nI (V 3))
    have e10 : (1 : Int32) - 1 = nI 0 := by decide
    unfold fX10_lays fX10_lays_120
    simp only [show tm_w 98 = (1 : Int32) from rfl, show ((1 : Int32) = 0) = False from eq_false (by decide), show ((1 : Int32) = 3) = False from eq_false (by decide), if_true, if_false, r18, am_bs, l59, c0, c1, c2, c3, n0, n1, n2, n3, v0, v1, v2, v3, d2, e10, pp]
    rfl
  · have v0 := hV 0 (by decide)
    have v1 := hV 1 (by decide)
    have v2 := hV 2 (by decide)
    rw [if_neg (by decide)] at hm
    rw [if_neg (show ¬ (100 : Nat) = 119 by decide), if_neg (show ¬ (100 : Nat) = 112 by decide)]
    obtain ⟨u2, u3⟩ := parts (tx_part sg 100 V) hm (by decide)
    refine ⟨_, ?_, u2, u3⟩
    have pp := pm_puts r5 l54 hm (nI (if sg = 43 then 1 else 0)) (nI 1) (nI (V 0)) (nI (V 1)) (nI (V 2)) 0
    have e21 : (2 : Int32) - 1 = nI 1 := by decide
    unfold fX10_lays fX10_lays_120
    simp only [show tm_w 100 = (2 : Int32) from rfl, show ((2 : Int32) = 0) = False from eq_false (by decide), show ((2 : Int32) = 3) = False from eq_false (by decide), show ((2 : Int32) = 1) = False from eq_false (by decide), if_true, if_false, r18, am_bs, l59, c0, c1, c2, n0, n1, n2, v0, v1, v2, d2, e21, pp]
    rfl
