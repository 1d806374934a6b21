/-! nearest, point, lift -/
theorem am_ixc {j n : Nat} (hj : j < n) (hn : n < 2147483648) : (nI j < 0 ∨ n ≤ j) = False := by
  apply eq_false
  have h := am_ixn hj hn
  rw [nm_cl (by omega)] at h
  exact h
theorem nm_sq (a b : Int32) : (a - b) * (a - b) = (b - a) * (b - a) := by
  rw [← Int32.neg_sub (a := a) (b := b), Int32.neg_mul, Int32.mul_neg, Int32.neg_neg]
/-- the nearest: n to go, i the next, b the best, l how far it is -/
def ps_near (s : ps_S) (x y : Int32) : Nat → Nat → Int32 → Int32 → Int32
  | 0, _, b, _ => b
  | n + 1, i, b, l =>
    if b = (-4) then ps_near s x y n (i + 1) (nI i) ((nI (s.2 6 i) - x) * (nI (s.2 6 i) - x) + (nI (s.2 7 i) - y) * (nI (s.2 7 i) - y))
    else if l ≤ (nI (s.2 6 i) - x) * (nI (s.2 6 i) - x) + (nI (s.2 7 i) - y) * (nI (s.2 7 i) - y) then ps_near s x y n (i + 1) b l
    else ps_near s x y n (i + 1) (nI i) ((nI (s.2 6 i) - x) * (nI (s.2 6 i) - x) + (nI (s.2 7 i) - y) * (nI (s.2 7 i) - y))
theorem px_near {s : ps_S} {pl : Nat} {M : am_M} (ho : ps_ok s) (hX : ps_X s pl M) (x y : Int32) : ∀ (n i : Nat) (b l : Int32) (N : Nat), i + n = s.1 5 → n < N → am_loop fX6_nearestTo_9 N (pl + 1, x, y, b, l, nI i, M) = some (ps_near s x y n i b l, M)
  | n, i, b, l, 0, _, h => absurd h (Nat.not_lt_zero _)
  | 0, i, b, l, N + 1, hi, _ => by
    have g6 := hX.2.2.2.2.2.2.2.2.2.2.2.1
    have h5 := ho.2.2.2.2.2.2.1
    rw [am_loop_s]
    dsimp only [fX6_nearestTo_9]
    rw [g6, if_pos (by rw [nm_le (by omega) (by omega)]; omega)]
    rfl
  | n + 1, i, b, l, N + 1, hi, hN => by
    obtain ⟨p1, p2, p3, p4, p5, p6, p7, p8, p9, p10, p11, p12, p13, p14, p15, p16, -⟩ := hX.pl
    have h5 := ho.2.2.2.2.2.2.1
    have g6 := hX.2.2.2.2.2.2.2.2.2.2.2.1
    have g7 := hX.2.2.2.2.2.2.2.2.2.2.2.2.1 i (by omega)
    have ih := fun b l => px_near ho hX x y n (i + 1) b l N (by omega) (by omega)
    have c1 : ¬ nI (s.1 5) ≤ nI i := by rw [nm_le (by omega) (by omega)]; omega
    rw [am_loop_s]
    dsimp only [fX6_nearestTo_9]
    simp only [g6, c1, if_false, p11, Option.bind_some, p15, p12, p16, am_ixc (show i < 40 by omega) (show 40 < 2147483648 by decide), nm_cl (show i < 2147483648 by omega), g7.1, g7.2]
    unfold fX6_nearestTo_66 fX6_nearestTo_73
    simp only [nI_1, ih]
    rw [ps_near]
    split
    · rfl
    · split <;> rfl
theorem pm_near {s : ps_S} {M : am_M} (ho : ps_ok s) (hM : ps_M s M) (x y : Int32) : ∀ (n i : Nat) (b l : Int32) (N : Nat), i + n = s.1 5 → n < N → am_loop fX10_nearest_20 N (53, x, y, b, l, nI i, M) = some (ps_near s x y n i b l, M)
  | n, i, b, l, 0, _, h => absurd h (Nat.not_lt_zero _)
  | 0, i, b, l, N + 1, hi, _ => by
    have g6 := hM.2.2.2.2.2.2.2.1
    have h5 := ho.2.2.2.2.2.2.1
    rw [am_loop_s]
    dsimp only [fX10_nearest_20]
    rw [g6, if_pos (by rw [nm_le (by omega) (by omega)]; omega)]
    rfl
  | n + 1, i, b, l, N + 1, hi, hN => by
    have h5 := ho.2.2.2.2.2.2.1
    have g6 := hM.2.2.2.2.2.2.2.1
    have g7 := hM.2.2.2.2.2.2.2.2.2.2.2.1 i (by omega)
    have e1 := hM.2.1 53 7 55 (by decide) rfl
    have e2 := hM.2.1 53 8 56 (by decide) rfl
    have e3 : am_len M 55 = 40 := am_len_SH hM.1 55
    have e4 : am_len M 56 = 40 := am_len_SH hM.1 56
    have ih := fun b l => pm_near ho hM x y n (i + 1) b l N (by omega) (by omega)
    have c1 : ¬ nI (s.1 5) ≤ nI i := by rw [nm_le (by omega) (by omega)]; omega
    rw [am_loop_s]
    dsimp only [fX10_nearest_20]
    simp only [g6, c1, if_false, e1, Option.bind_some, e3, e2, e4, am_ixc (show i < 40 by omega) (show 40 < 2147483648 by decide), nm_cl (show i < 2147483648 by omega), g7.1, g7.2]
    unfold fX10_nearest_77 fX10_nearest_84
    simp only [nI_1, ih, nm_sq x (nI (s.2 6 i)), nm_sq y (nI (s.2 7 i))]
    rw [ps_near]
    split
    · rfl
    · split <;> rfl
theorem op_nearest (x y : Int32) : ps_op (fX9_nearest 0 x y) (fX10_nearest 53 x y) := by
  intro s ho
  have h5 := ho.2.2.2.2.2.2.1
  by_cases hQ : (0 ≤ x ∧ x < nI (2 ^ s.1 0)) ∧ (0 ≤ y ∧ y < nI (2 ^ s.1 0))
  · refine ⟨ps_near s x y (s.1 5) 0 (-4) 0, s, ho, ps_ox.same (fun pl M hX => ?_), ps_om.same (fun M hM => ?_)⟩
    · obtain ⟨p1, p2, p3, p4, p5, p6, p7, p8, p9, -⟩ := hX.pl
      have e := px_hasCell ho p4 x y
      rw [if_pos hQ] at e
      have q := px_near ho hX x y (s.1 5) 0 (-4) 0 100000 (by omega) (by omega)
      unfold fX9_nearest fX6_nearestTo
      simp only [p2, Option.bind_some, e, nm_1f, if_false, p9]
      rw [show (0 : Int32) = nI 0 from rfl] at q ⊢
      rw [q]
      rfl
    · have e := pm_isCell ho hM.2.2.1 x y
      rw [if_pos hQ] at e
      have q := pm_near ho hM x y (s.1 5) 0 (-4) 0 100000 (by omega) (by omega)
      unfold fX10_nearest
      simp only [Option.bind_some, e, nm_1f, if_false]
      rw [show (0 : Int32) = nI 0 from rfl] at q ⊢
      exact q
  · refine ⟨-1, s, ho, ps_ox.same (fun pl M hX => ?_), ps_om.same (fun M hM => ?_)⟩
    · obtain ⟨p1, p2, p3, p4, -⟩ := hX.pl
      have e := px_hasCell ho p4 x y
      rw [if_neg hQ] at e
      unfold fX9_nearest
      simp only [p2, Option.bind_some, e, if_true]
    · have e := pm_isCell ho hM.2.2.1 x y
      rw [if_neg hQ] at e
      unfold fX10_nearest
      simp only [Option.bind_some, e, if_true]
theorem op_point (x y : Int32) : ps_op (fX9_point 0 x y) (fX10_point 53 x y) := by
  intro s ho
  obtain ⟨o1, o2, o3, o4, o5, o6, o7, o8, o9, o10, o11, o12, o13⟩ := id ho
  have hp : 2 ^ s.1 0 ≤ 2 ^ 6 := Nat.pow_le_pow_right (by decide) o2
  by_cases hQ : (0 ≤ x ∧ x < nI (2 ^ s.1 0)) ∧ (0 ≤ y ∧ y < nI (2 ^ s.1 0))
  · by_cases hf : s.1 5 = 40
    · have c0 : ¬ nI (s.1 5) < 40 := by rw [nm_40, nm_lt (by omega) (by decide)]; omega
      have c1 : nI (s.1 5) = 40 := by rw [hf]; rfl
      refine ⟨-3, s, ho, ps_ox.same (fun pl M hX => ?_), ps_om.same (fun M hM => ?_)⟩
      · obtain ⟨p1, p2, p3, p4, p5, p6, p7, p8, p9, -⟩ := hX.pl
        have g6 := hX.2.2.2.2.2.2.2.2.2.2.2.1
        have e := px_hasCell ho p4 x y
        rw [if_pos hQ] at e
        unfold fX9_point fX6_add
        simp only [p2, Option.bind_some, e, nm_1f, if_false, p9, g6, c0, if_true]
      · have e := pm_isCell ho hM.2.2.1 x y
        rw [if_pos hQ] at e
        have g6 := hM.2.2.2.2.2.2.2.1
        unfold fX10_point
        simp only [Option.bind_some, e, nm_1f, if_false, g6, c1, if_true]
    · obtain ⟨i, hi, rfl⟩ := nm_of (by omega) hQ.1
      obtain ⟨j, hj, rfl⟩ := nm_of (by omega) hQ.2
      have c0 : nI (s.1 5) < 40 := by rw [nm_40, nm_lt (by omega) (by decide)]; omega
      have c1 : ¬ nI (s.1 5) = 40 := by rw [nm_40, nm_eq (by omega) (by decide)]; exact hf
      refine ⟨nI (s.1 5), ps_w (ps_w (ps_n s 5 (s.1 5 + 1)) 6 (s.1 5) i) 7 (s.1 5) j, ⟨o1, o2, o3, o4, o5, o6, by show s.1 5 + 1 ≤ 40; omega, o8, o9, o10, fun t ht => ?_, o12, o13⟩, fun pl M hX => ?_, fun M hM => ?_⟩
      · have ht : t < s.1 5 + 1 := ht
        show (if t = s.1 5 then i else s.2 6 t) < 2 ^ s.1 0 ∧ (if t = s.1 5 then j else s.2 7 t) < 2 ^ s.1 0
        by_cases e : t = s.1 5
        · rw [if_pos e, if_pos e]; exact ⟨hi, hj⟩
        · rw [if_neg e, if_neg e]; exact o11 t (by omega)
      · obtain ⟨p1, p2, p3, p4, p5, p6, p7, p8, p9, p10, p11, p12, p13, p14, p15, p16, -⟩ := hX.pl
        have g6 := hX.2.2.2.2.2.2.2.2.2.2.2.1
        have g7 := hX.2.2.2.2.2.2.2.2.2.2.2.2.1
        have e := px_hasCell ho p4 (nI i) (nI j)
        rw [if_pos hQ] at e
        refine ⟨pl, am_pI (am_pI (am_pI M (pl + 2) (s.1 5) (nI i)) (pl + 3) (s.1 5) (nI j)) (pl + 1) 4 (nI (s.1 5 + 1)), ?_, ?_, (((am_fx.rf M).pI (by omega) _ _).pI (by omega) _ _).pI (by omega) _ _⟩
        · have r1 : (am_pI M (pl + 2) (s.1 5) (nI i)).2.2.1 (pl + 1) 1 = some (pl + 3) := p12
          have r2 : (am_pI M (pl + 2) (s.1 5) (nI i)).1 (pl + 1) 4 = nI (s.1 5) := by rw [am_pI_1, if_neg (by omega)]; exact g6
          have r3 : (am_pI (am_pI M (pl + 2) (s.1 5) (nI i)) (pl + 3) (s.1 5) (nI j)).1 (pl + 1) 4 = nI (s.1 5) := by rw [am_pI_1, if_neg (by omega)]; exact r2
          have r4 : am_len (am_pI M (pl + 2) (s.1 5) (nI i)) (pl + 3) = 40 := p16
          have r5 : (am_pI (am_pI (am_pI M (pl + 2) (s.1 5) (nI i)) (pl + 3) (s.1 5) (nI j)) (pl + 1) 4 (nI (s.1 5 + 1))).2.2.1 0 2 = some pl := p2
          have r6 : (am_pI (am_pI (am_pI M (pl + 2) (s.1 5) (nI i)) (pl + 3) (s.1 5) (nI j)) (pl + 1) 4 (nI (s.1 5 + 1))).2.2.1 pl 0 = some (pl + 1) := p9
          have r7 : (am_pI (am_pI (am_pI M (pl + 2) (s.1 5) (nI i)) (pl + 3) (s.1 5) (nI j)) (pl + 1) 4 (nI (s.1 5 + 1))).1 (pl + 1) 4 = nI (s.1 5 + 1) := by rw [am_pI_1, if_pos ⟨rfl, rfl⟩]
          unfold fX9_point fX6_add
          simp only [p2, Option.bind_some, e, nm_1f, if_false, p9, g6, c0, if_true, p11, p15, am_ixc (show s.1 5 < 40 by omega) (show 40 < 2147483648 by decide), nm_cl (show s.1 5 < 2147483648 by omega), r1, r2, r3, r4, nI_1, r5, r6, r7, nI_pred]
        · have hk : ∀ k l, k ≠ pl + 1 → k ≠ pl + 2 → k ≠ pl + 3 → (am_pI (am_pI (am_pI M (pl + 2) (s.1 5) (nI i)) (pl + 3) (s.1 5) (nI j)) (pl + 1) 4 (nI (s.1 5 + 1))).1 k l = M.1 k l := by
            intro k l h1 h2 h3
            rw [am_pI_1, if_neg (by omega), am_pI_1, if_neg (by omega), am_pI_1, if_neg (by omega)]
          refine hX.pts (fun k hk' => ?_) (fun r h1 h2 => ?_) rfl rfl rfl (fun k q => ?_) ?_ (fun t ht => ?_)
          · show (if k = 5 then _ else s.1 k) = _
            rw [if_neg hk']
          · show (if r = 7 then _ else if r = 6 then _ else s.2 r) = _
            rw [if_neg h2, if_neg h1]
          · funext l
            exact hk k l (by omega) (by omega) (by omega)
          · rw [am_pI_1, if_pos ⟨rfl, rfl⟩]; rfl
          · have ht : t < s.1 5 + 1 := ht
            show _ = nI (if t = s.1 5 then i else s.2 6 t) ∧ _ = nI (if t = s.1 5 then j else s.2 7 t)
            by_cases q : t = s.1 5
            · rw [if_pos q, if_pos q]
              refine ⟨?_, ?_⟩
              · rw [am_pI_1, if_neg (by omega), am_pI_1, if_neg (by omega), am_pI_1, if_pos ⟨rfl, q⟩]
              · rw [am_pI_1, if_neg (by omega), am_pI_1, if_pos ⟨rfl, q⟩]
            · rw [if_neg q, if_neg q]
              refine ⟨?_, ?_⟩
              · rw [am_pI_1, if_neg (by omega), am_pI_1, if_neg (by omega), am_pI_1, if_neg (fun z => q z.2)]
                exact (g7 t (by omega)).1
              · rw [am_pI_1, if_neg (by omega), am_pI_1, if_neg (fun z => q z.2), am_pI_1, if_neg (by omega)]
                exact (g7 t (by omega)).2
      · obtain ⟨m1, m2, m3, m4, m5, m6, m7, m8, m9, m10, m11, m12, m13, m14⟩ := id hM
        have e := pm_isCell ho hM.2.2.1 (nI i) (nI j)
        rw [if_pos hQ] at e
        have e1 := hM.2.1 53 7 55 (by decide) rfl
        have e2 := hM.2.1 53 8 56 (by decide) rfl
        have e3 : am_len M 55 = 40 := am_len_SH hM.1 55
        have e4 : am_len M 56 = 40 := am_len_SH hM.1 56
        refine ⟨am_pI (am_pI (am_pI M 55 (s.1 5) (nI i)) 56 (s.1 5) (nI j)) 53 6 (nI (s.1 5 + 1)), ?_, ?_, (((am_fm.rf M).pI (by decide) _ _).pI (by decide) _ _).pI (by decide) _ _⟩
        · have r1 : (am_pI M 55 (s.1 5) (nI i)).2.2.1 53 8 = some 56 := e2
          have r2 : (am_pI M 55 (s.1 5) (nI i)).1 53 6 = nI (s.1 5) := by rw [am_pI_1, if_neg (by omega)]; exact m8
          have r3 : (am_pI (am_pI M 55 (s.1 5) (nI i)) 56 (s.1 5) (nI j)).1 53 6 = nI (s.1 5) := by rw [am_pI_1, if_neg (by omega)]; exact r2
          have r4 : am_len (am_pI M 55 (s.1 5) (nI i)) 56 = 40 := e4
          have r7 : (am_pI (am_pI (am_pI M 55 (s.1 5) (nI i)) 56 (s.1 5) (nI j)) 53 6 (nI (s.1 5 + 1))).1 53 6 = nI (s.1 5 + 1) := by rw [am_pI_1, if_pos ⟨rfl, rfl⟩]
          unfold fX10_point
          simp only [Option.bind_some, e, nm_1f, if_false, m8, c1, e1, e3, am_ixc (show s.1 5 < 40 by omega) (show 40 < 2147483648 by decide), nm_cl (show s.1 5 < 2147483648 by omega), r1, r2, r3, r4, nI_1, r7, nI_pred]
        · have hk : ∀ k l, k ≠ 55 → k ≠ 56 → ¬ (k = 53 ∧ l = 6) → (am_pI (am_pI (am_pI M 55 (s.1 5) (nI i)) 56 (s.1 5) (nI j)) 53 6 (nI (s.1 5 + 1))).1 k l = M.1 k l := by
            intro k l h1 h2 h3
            rw [am_pI_1, if_neg (by omega), am_pI_1, if_neg (by omega), am_pI_1, if_neg (by omega)]
          refine ⟨m1, m2, m3, m4, m5, m6, m7, rfl, m9, m10, fun a b ha hb => ?_, fun t ht => ?_, fun a ha => ?_, fun a ha => ?_⟩
          · show _ = nI ((if b = 7 then _ else if b = 6 then _ else s.2 b) a)
            rw [hk 54 _ (by decide) (by decide) (by omega), if_neg (by omega), if_neg (by omega)]
            exact m11 a b ha hb
          · have ht : t < s.1 5 + 1 := ht
            show _ = nI (if t = s.1 5 then i else s.2 6 t) ∧ _ = nI (if t = s.1 5 then j else s.2 7 t)
            by_cases q : t = s.1 5
            · rw [if_pos q, if_pos q]
              refine ⟨?_, ?_⟩
              · rw [am_pI_1, if_neg (by omega), am_pI_1, if_neg (by omega), am_pI_1, if_pos ⟨rfl, q⟩]
              · rw [am_pI_1, if_neg (by omega), am_pI_1, if_pos ⟨rfl, q⟩]
            · rw [if_neg q, if_neg q]
              refine ⟨?_, ?_⟩
              · rw [am_pI_1, if_neg (by omega), am_pI_1, if_neg (by omega), am_pI_1, if_neg (fun z => q z.2)]
                exact (m12 t (by omega)).1
              · rw [am_pI_1, if_neg (by omega), am_pI_1, if_neg (fun z => q z.2), am_pI_1, if_neg (by omega)]
                exact (m12 t (by omega)).2
          · rw [hk 57 _ (by decide) (by decide) (by omega)]; exact m13 a ha
          · rw [hk 58 _ (by decide) (by decide) (by omega)]; exact m14 a ha
  · refine ⟨-1, s, ho, ps_ox.same (fun pl M hX => ?_), ps_om.same (fun M hM => ?_)⟩
    · obtain ⟨p1, p2, p3, p4, -⟩ := hX.pl
      have e := px_hasCell ho p4 x y
      rw [if_neg hQ] at e
      unfold fX9_point
      simp only [p2, Option.bind_some, e, if_true]
    · have e := pm_isCell ho hM.2.2.1 x y
      rw [if_neg hQ] at e
      unfold fX10_point
      simp only [Option.bind_some, e, if_true]
