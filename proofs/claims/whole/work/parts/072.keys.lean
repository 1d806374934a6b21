/-! ===== the class's keys and places: Curve ===== -/
theorem px_turned {c f s a b : Nat} (hc : c ≤ 1) (hf : f < 4) (hs : s ≤ 64) (ha : a < s) (hb : b < s) (M : am_M) : fX1_turnedX (nI c) (nI f) (nI s) (nI a) (nI b) M = some (nI (cv_t c f s a b), M) := by
  unfold fX1_turnedX fX1_turnedX_12 cv_t
  rcases (show c = 0 ∨ c = 1 by omega) with rfl | rfl
  · simp (disch := omega) only [nm_0, nm_1, nm_3, nm_eq, Nat.zero_ne_one, if_false, if_true]
  · simp (disch := omega) only [nm_0, nm_1, nm_3, nm_eq, Nat.one_ne_zero, if_false, if_true]
    by_cases h0 : f = 0
    · simp only [h0, if_true]
    · simp only [h0, if_false]
      by_cases h3 : f = 3
      · simp (disch := omega) only [h3, if_true, nm_sub]
      · simp only [h3, if_false]
theorem px_keyOf_loop {c : Nat} (hc : c ≤ 1) (M : am_M) : ∀ (l x y k N : Nat), l ≤ 6 → x < 2 ^ l → y < 2 ^ l → k < 4 ^ (6 - l) → l < N → am_loop fX1_keyOf_14 N (nI c, nI k, nI x, nI y, nI l - 1, M) = some (nI (cv_k c l x y k), M)
  | l, x, y, k, 0, _, _, _, _, h => absurd h (Nat.not_lt_zero _)
  | 0, x, y, k, N + 1, _, _, _, _, _ => by
    rfl
  | l + 1, x, y, k, N + 1, hl, hx, hy, hk, hN => by
    have hp : 2 ^ l ≤ 2 ^ 5 := Nat.pow_le_pow_right (by decide) (by omega)
    have hk6 : 4 ^ (6 - (l + 1)) ≤ 4 ^ 5 := Nat.pow_le_pow_right (by decide) (by omega)
    have h4 : 4 ^ (6 - l) = 4 ^ (6 - (l + 1)) * 4 := by rw [← Nat.pow_succ]; congr 1; omega
    obtain ⟨a1, a2⟩ := cv_b_sub hx
    obtain ⟨b1, b2⟩ := cv_b_sub hy
    have hbx := cv_b_le (2 ^ l) x
    have hby := cv_b_le (2 ^ l) y
    have hf := cv_f_lt (c := c) hbx hby
    have hx6 : x < 64 := Nat.lt_of_lt_of_le hx (by have : 2 ^ (l + 1) ≤ 2 ^ 6 := Nat.pow_le_pow_right (by decide) hl; exact this)
    have hy6 : y < 64 := Nat.lt_of_lt_of_le hy (by have : 2 ^ (l + 1) ≤ 2 ^ 6 := Nat.pow_le_pow_right (by decide) hl; exact this)
    have e0 : nI (l + 1) - 1 = nI l := nI_pred l
    rw [e0, am_loop_s]
    have key : fX1_keyOf_14 (am_loop fX1_keyOf_14 N) (nI c, nI k, nI x, nI y, nI l, M) = fX1_keyOf_81 (am_loop fX1_keyOf_14 N) (nI c) (nI k) (nI x) (nI y) (nI l) (nI (2 ^ l)) (nI (cv_b (2 ^ l) x)) (nI (cv_b (2 ^ l) y)) (nI (cv_f c (cv_b (2 ^ l) x) (cv_b (2 ^ l) y))) M := by
      show (if nI l < 0 then _ else _) = _
      unfold fX1_keyOf_37 fX1_keyOf_51 cv_b cv_f
      rcases (show c = 0 ∨ c = 1 by omega) with rfl | rfl <;> by_cases qx : x < 2 ^ l <;> by_cases qy : y < 2 ^ l <;>
        simp (disch := omega) only [nm_0, nm_1, nm_2, nm_3, nm_31, nm_shl1, nm_lt, nm_eq, nI_add, pk_mul, nm_sub, qx, qy, Nat.not_lt_zero, if_true, if_false, Nat.one_ne_zero, Nat.zero_ne_one]
    rw [key]
    unfold fX1_keyOf_81
    have u1 : nI x - nI (cv_b (2 ^ l) x) * nI (2 ^ l) = nI (x - cv_b (2 ^ l) x * 2 ^ l) := by rw [pk_mul, nm_sub a2]
    have v1 : nI y - nI (cv_b (2 ^ l) y) * nI (2 ^ l) = nI (y - cv_b (2 ^ l) y * 2 ^ l) := by rw [pk_mul, nm_sub b2]
    rw [u1, v1, px_turned hc hf (by omega) a1 b1, Option.bind_some]
    show ((fX1_turnedX _ _ _ _ _ M).bind _) = _
    rw [px_turned hc hf (by omega) b1 a1, Option.bind_some]
    show am_loop fX1_keyOf_14 N (nI c, 4 * nI k + nI _, nI _, nI _, nI l + (-1), M) = _
    have e1 : (4 : Int32) * nI k + nI (cv_f c (cv_b (2 ^ l) x) (cv_b (2 ^ l) y)) = nI (4 * k + cv_f c (cv_b (2 ^ l) x) (cv_b (2 ^ l) y)) := by rw [nm_4, pk_mul, nI_add]
    have e2 : nI l + (-1) = nI l - 1 := by rw [Int32.sub_eq_add_neg]
    rw [e1, e2, px_keyOf_loop hc M l _ _ _ N (by omega) (cv_t_lt a1 b1) (cv_t_lt b1 a1) (by omega) (by omega)]
    rfl
theorem px_keyOf {c D x y : Nat} (hc : c ≤ 1) (hD : D ≤ 6) (hx : x < 2 ^ D) (hy : y < 2 ^ D) (M : am_M) : fX1_keyOf (nI D) (nI c) (nI x) (nI y) M = some (nI (cv_k c D x y 0), M) := by
  unfold fX1_keyOf
  rw [nm_0]
  exact px_keyOf_loop hc M D x y 0 100000 hD hx hy (Nat.pow_pos (by decide)) (by omega)
theorem px_placeOf_loop {c D : Nat} (hc : c ≤ 1) (hD : D ≤ 6) (M : am_M) : ∀ (n i x y g N : Nat), i + n = D → x < 2 ^ i → y < 2 ^ i → g < 4096 → n < N → am_loop fX1_placeOf_11 N (nI D, nI c, nI x, nI y, nI g, nI i, M) = some (nI ((cv_p c n i x y g).1 + 64 * (cv_p c n i x y g).2), M)
  | n, i, x, y, g, 0, _, _, _, _, h => absurd h (Nat.not_lt_zero _)
  | 0, i, x, y, g, N + 1, hi, hx, hy, hg, _ => by
    show (if nI D ≤ nI i then _ else _) = _
    have e : i = D := by omega
    subst e
    rw [if_pos (by rw [nm_le (by omega) (by omega)]; exact Nat.le_refl _), nm_64, pk_mul, nI_add]
    rfl
  | n + 1, i, x, y, g, N + 1, hi, hx, hy, hg, hN => by
    have hp : 2 ^ i ≤ 2 ^ 5 := Nat.pow_le_pow_right (by decide) (by omega)
    have hf : g % 4 < 4 := Nat.mod_lt _ (by decide)
    have hu := cv_u_le (c := c) hf
    rw [am_loop_s]
    have key : fX1_placeOf_11 (am_loop fX1_placeOf_11 N) (nI D, nI c, nI x, nI y, nI g, nI i, M) = fX1_placeOf_80 (am_loop fX1_placeOf_11 N) (nI D) (nI c) (nI x) (nI y) (nI (g / 4)) (nI i) (nI (2 ^ i)) (nI (g % 4)) (nI (cv_u c (g % 4))) (nI (cv_v c (g % 4))) M := by
      show (if nI D ≤ nI i then _ else _) = _
      unfold fX1_placeOf_50 fX1_placeOf_75 cv_u cv_v
      have q4 : g / 2 ^ 2 = g / 4 := rfl
      have q2 : (g % 4) / 2 ^ 1 = g % 4 / 2 := rfl
      rcases (show c = 0 ∨ c = 1 by omega) with rfl | rfl
      · simp (disch := omega) only [nm_0, nm_1, nm_2, nm_3, nm_31, nm_shl1, nm_shr, nm_and3, nm_and1, nm_le, nm_eq, q4, q2, if_true, if_false, show ¬ D ≤ i by omega]
      · simp (disch := omega) only [nm_0, nm_1, nm_2, nm_3, nm_31, nm_shl1, nm_shr, nm_and3, nm_and1, nm_le, nm_eq, q4, q2, if_true, if_false, show ¬ D ≤ i by omega, Nat.one_ne_zero]
        by_cases h1 : g % 4 = 1
        · simp only [h1, if_true, true_or]
        · by_cases h2 : g % 4 = 2
          · simp only [h2, if_true, or_true, if_false, show ¬ (2 : Nat) = 1 by decide]
          · simp only [h1, h2, if_false, or_self]
    rw [key]
    unfold fX1_placeOf_80
    rw [px_turned hc hf (by omega) hx hy, Option.bind_some]
    show ((fX1_turnedX _ _ _ _ _ M).bind _) = _
    rw [px_turned hc hf (by omega) hy hx, Option.bind_some]
    show am_loop fX1_placeOf_11 N (nI D, nI c, nI _ + nI _ * nI _, nI _ + nI _ * nI _, nI (g / 4), nI i + 1, M) = _
    have t1 := cv_t_lt (c := c) (f := g % 4) hx hy
    have t2 := cv_t_lt (c := c) (f := g % 4) hy hx
    have m1 : cv_u c (g % 4) * 2 ^ i ≤ 1 * 2 ^ i := Nat.mul_le_mul_right _ hu.1
    have m2 : cv_v c (g % 4) * 2 ^ i ≤ 1 * 2 ^ i := Nat.mul_le_mul_right _ hu.2
    rw [pk_mul, pk_mul, nI_add, nI_add, nI_1, px_placeOf_loop hc hD M n (i + 1) _ _ _ N (by omega) (by rw [Nat.pow_succ]; omega) (by rw [Nat.pow_succ]; omega) (by omega) (by omega)]
    rfl
/-- x and y of a key's cell in one number -/
theorem px_placeOf {c D g : Nat} (hc : c ≤ 1) (hD : D ≤ 6) (hg : g < 4096) (M : am_M) : fX1_placeOf (nI D) (nI c) (nI g) M = some (nI ((cv_p c D 0 0 0 g).1 + 64 * (cv_p c D 0 0 0 g).2), M) := by
  unfold fX1_placeOf
  rw [nm_0]
  exact px_placeOf_loop hc hD M D 0 0 0 g 100000 (by omega) (by decide) (by decide) hg (by omega)
theorem px_half0 {x y : Nat} (hx : x < 64) (hy : y < 64) (M : am_M) : fX1_half (nI (x + 64 * y)) 0 M = some (nI x, M) := by
  unfold fX1_half
  rw [if_pos rfl, nm_64, nm_rem (by omega) (by decide) (by decide)]
  congr 3
  omega
theorem px_half1 {x y : Nat} (hx : x < 64) (hy : y < 64) (M : am_M) : fX1_half (nI (x + 64 * y)) 1 M = some (nI y, M) := by
  unfold fX1_half
  rw [if_neg (by decide), nm_64, nm_div (by omega) (by decide) (by decide)]
  congr 3
  omega
/-! ===== the reference's keys and places ===== -/
theorem pm_side {a : Nat} {M : am_M} {D : Nat} (hD : D ≤ 6) (h : M.1 a 0 = nI D) : fX10_side a M = some (nI (2 ^ D), M) := by
  unfold fX10_side
  rw [h, nm_1, nm_31, nm_shl1 (by omega)]
theorem pm_keyOf_loop {c a : Nat} {M : am_M} (hc : c ≤ 1) (h1 : M.1 a 1 = nI c) : ∀ (l x y k N : Nat), l ≤ 6 → x < 2 ^ l → y < 2 ^ l → k < 4 ^ (6 - l) → l < N → am_loop fX10_keyOf_16 N (a, nI x, nI y, nI k, nI (2 ^ l / 2), M) = some (nI (cv_k c l x y k), M)
  | l, x, y, k, 0, _, _, _, _, h => absurd h (Nat.not_lt_zero _)
  | 0, x, y, k, N + 1, _, _, _, _, _ => by
    rfl
  | l + 1, x, y, k, N + 1, hl, hx, hy, hk, hN => by
    have hp : 2 ^ l ≤ 2 ^ 5 := Nat.pow_le_pow_right (by decide) (by omega)
    have hp0 : 0 < 2 ^ l := Nat.pow_pos (by decide)
    have h4 : 4 ^ (6 - l) = 4 ^ (6 - (l + 1)) * 4 := by rw [← Nat.pow_succ]; congr 1; omega
    have hk6 : 4 ^ (6 - (l + 1)) ≤ 4 ^ 5 := Nat.pow_le_pow_right (by decide) (by omega)
    obtain ⟨a1, a2⟩ := cv_b_sub hx
    obtain ⟨b1, b2⟩ := cv_b_sub hy
    have hbx := cv_b_le (2 ^ l) x
    have hby := cv_b_le (2 ^ l) y
    have hf := cv_f_lt (c := c) hbx hby
    have hx6 : x < 64 := Nat.lt_of_lt_of_le hx (by have : 2 ^ (l + 1) ≤ 2 ^ 6 := Nat.pow_le_pow_right (by decide) hl; exact this)
    have hy6 : y < 64 := Nat.lt_of_lt_of_le hy (by have : 2 ^ (l + 1) ≤ 2 ^ 6 := Nat.pow_le_pow_right (by decide) hl; exact this)
    have e0 : 2 ^ (l + 1) / 2 = 2 ^ l := by rw [Nat.pow_succ]; omega
    rw [e0, am_loop_s]
    have key : fX10_keyOf_16 (am_loop fX10_keyOf_16 N) (a, nI x, nI y, nI k, nI (2 ^ l), M) = fX10_keyOf_79 (am_loop fX10_keyOf_16 N) a (nI x) (nI y) (nI k) (nI (2 ^ l)) (nI (cv_b (2 ^ l) x)) (nI (cv_b (2 ^ l) y)) (nI (cv_f c (cv_b (2 ^ l) x) (cv_b (2 ^ l) y))) M := by
      show (if nI (2 ^ l) ≤ 0 then _ else _) = _
      unfold fX10_keyOf_32 fX10_keyOf_46 cv_b cv_f
      rcases (show c = 0 ∨ c = 1 by omega) with rfl | rfl <;> by_cases qx : x < 2 ^ l <;> by_cases qy : y < 2 ^ l <;>
        simp (disch := omega) only [h1, nm_0, nm_1, nm_2, nm_3, nm_lt, nm_le, nm_eq, nI_add, pk_mul, nm_sub, qx, qy, if_true, if_false, Nat.one_ne_zero, Nat.zero_ne_one, show ¬ 2 ^ l ≤ 0 by omega]
    rw [key]
    have u1 : nI x - nI (cv_b (2 ^ l) x) * nI (2 ^ l) = nI (x - cv_b (2 ^ l) x * 2 ^ l) := by rw [pk_mul, nm_sub a2]
    have v1 : nI y - nI (cv_b (2 ^ l) y) * nI (2 ^ l) = nI (y - cv_b (2 ^ l) y * 2 ^ l) := by rw [pk_mul, nm_sub b2]
    have e1 : (4 : Int32) * nI k + nI (cv_f c (cv_b (2 ^ l) x) (cv_b (2 ^ l) y)) = nI (4 * k + cv_f c (cv_b (2 ^ l) x) (cv_b (2 ^ l) y)) := by rw [nm_4, pk_mul, nI_add]
    have e2 : nI (2 ^ l) / 2 = nI (2 ^ l / 2) := by rw [nm_2, nm_div (by omega) (by decide) (by decide)]
    have ih := pm_keyOf_loop hc h1 l (cv_t c (cv_f c (cv_b (2 ^ l) x) (cv_b (2 ^ l) y)) (2 ^ l) (x - cv_b (2 ^ l) x * 2 ^ l) (y - cv_b (2 ^ l) y * 2 ^ l)) (cv_t c (cv_f c (cv_b (2 ^ l) x) (cv_b (2 ^ l) y)) (2 ^ l) (y - cv_b (2 ^ l) y * 2 ^ l) (x - cv_b (2 ^ l) x * 2 ^ l)) (4 * k + cv_f c (cv_b (2 ^ l) x) (cv_b (2 ^ l) y)) N (by omega) (cv_t_lt a1 b1) (cv_t_lt b1 a1) (by omega) (by omega)
    refine Eq.trans ?_ ih
    unfold fX10_keyOf_79 fX10_keyOf_127 fX10_keyOf_147 fX10_keyOf_165 fX10_keyOf_167
    rw [u1, v1, e1, e2, h1]
    generalize cv_f c (cv_b (2 ^ l) x) (cv_b (2 ^ l) y) = F at hf
    generalize x - cv_b (2 ^ l) x * 2 ^ l = X at a1
    generalize y - cv_b (2 ^ l) y * 2 ^ l = Y at b1
    unfold cv_t
    rcases (show c = 0 ∨ c = 1 by omega) with rfl | rfl
    · simp (disch := omega) only [nm_0, nm_1, nm_eq, Nat.zero_ne_one, if_false, if_true]
    · simp (disch := omega) only [nm_0, nm_1, nm_3, nm_eq, Nat.one_ne_zero, if_false, if_true]
      by_cases h0 : F = 0
      · simp only [h0, if_true]
      · simp only [h0, if_false]
        by_cases h3 : F = 3
        · simp (disch := omega) only [h3, if_true, nm_sub]
        · simp only [h3, if_false]
theorem pm_keyOf {c D a x y : Nat} {M : am_M} (hc : c ≤ 1) (hD : D ≤ 6) (h0 : M.1 a 0 = nI D) (h1 : M.1 a 1 = nI c) (hx : x < 2 ^ D) (hy : y < 2 ^ D) : fX10_keyOf a (nI x) (nI y) M = some (nI (cv_k c D x y 0), M) := by
  unfold fX10_keyOf
  have hp : 2 ^ D ≤ 2 ^ 6 := Nat.pow_le_pow_right (by decide) hD
  rw [pm_side hD h0, Option.bind_some]
  show am_loop fX10_keyOf_16 100000 (a, nI x, nI y, 0, nI (2 ^ D) / 2, M) = _
  rw [nm_2, nm_div (by omega) (by decide) (by decide), nm_0]
  exact pm_keyOf_loop hc h1 D x y 0 100000 hD hx hy (Nat.pow_pos (by decide)) (by omega)
theorem pm_setCell_loop {c a D : Nat} {M : am_M} (hc : c ≤ 1) (hD : D ≤ 6) (h0 : M.1 a 0 = nI D) (h1 : M.1 a 1 = nI c) : ∀ (n i x y g N : Nat), i + n = D → x < 2 ^ i → y < 2 ^ i → g < 4096 → n < N → am_loop fX10_setCell_10 N (a, nI x, nI y, nI g, nI (2 ^ i), M) = some (am_pI (am_pI M a 19 (nI (cv_p c n i x y g).1)) a 20 (nI (cv_p c n i x y g).2))
  | n, i, x, y, g, 0, _, _, _, _, h => absurd h (Nat.not_lt_zero _)
  | 0, i, x, y, g, N + 1, hi, hx, hy, hg, _ => by
    have e : i = D := by omega
    subst e
    have hp : 2 ^ i ≤ 2 ^ 6 := Nat.pow_le_pow_right (by decide) hD
    rw [am_loop_s]
    dsimp only [fX10_setCell_10]
    rw [pm_side hD h0, Option.bind_some]
    exact if_pos (c := nI (2 ^ i) ≤ nI (2 ^ i)) (by rw [nm_le (by omega) (by omega)]; exact Nat.le_refl _)
  | n + 1, i, x, y, g, N + 1, hi, hx, hy, hg, hN => by
    have hp : 2 ^ i ≤ 2 ^ 5 := Nat.pow_le_pow_right (by decide) (by omega)
    have hpD : 2 ^ D ≤ 2 ^ 6 := Nat.pow_le_pow_right (by decide) hD
    have hlt : 2 ^ i < 2 ^ D := Nat.pow_lt_pow_right (by decide) (by omega)
    have hf : g % 4 < 4 := Nat.mod_lt _ (by decide)
    have hu := cv_u_le (c := c) hf
    have t1 := cv_t_lt (c := c) (f := g % 4) hx hy
    have t2 := cv_t_lt (c := c) (f := g % 4) hy hx
    have m1 : cv_u c (g % 4) * 2 ^ i ≤ 1 * 2 ^ i := Nat.mul_le_mul_right _ hu.1
    have m2 : cv_v c (g % 4) * 2 ^ i ≤ 1 * 2 ^ i := Nat.mul_le_mul_right _ hu.2
    have ih := pm_setCell_loop hc hD h0 h1 n (i + 1) (cv_t c (g % 4) (2 ^ i) x y + cv_u c (g % 4) * 2 ^ i) (cv_t c (g % 4) (2 ^ i) y x + cv_v c (g % 4) * 2 ^ i) (g / 4) N (by omega) (by rw [Nat.pow_succ]; omega) (by rw [Nat.pow_succ]; omega) (by omega) (by omega)
    refine Eq.trans ?_ ih
    rw [am_loop_s]
    have key : fX10_setCell_10 (am_loop fX10_setCell_10 N) (a, nI x, nI y, nI g, nI (2 ^ i), M) = fX10_setCell_82 (am_loop fX10_setCell_10 N) a (nI x) (nI y) (nI (g / 4)) (nI (2 ^ i)) (nI (g % 4)) (nI (cv_u c (g % 4))) (nI (cv_v c (g % 4))) M := by
      dsimp only [fX10_setCell_10]
      rw [pm_side hD h0, Option.bind_some]
      show (if nI (2 ^ D) ≤ nI (2 ^ i) then _ else if M.1 a 1 = 0 then _ else _) = _
      rw [if_neg (by rw [nm_le (by omega) (by omega)]; omega), h1]
      have r1 : nI g - nI g / 4 * 4 = nI (g % 4) := by rw [nm_4, nm_rem (by omega) (by decide) (by decide)]
      have r2 : nI g / 4 = nI (g / 4) := by rw [nm_4, nm_div (by omega) (by decide) (by decide)]
      have r3 : nI (g % 4) - nI (g % 4) / 2 * 2 = nI (g % 4 % 2) := by rw [nm_2, nm_rem (by omega) (by decide) (by decide)]
      have r4 : nI (g % 4) / 2 = nI (g % 4 / 2) := by rw [nm_2, nm_div (by omega) (by decide) (by decide)]
      unfold fX10_setCell_49 fX10_setCell_77 cv_u cv_v
      show (if nI c = 0 then (if M.1 a 1 = 0 then _ else _) else (if M.1 a 1 = 0 then _ else _)) = _
      rw [h1]
      rcases (show c = 0 ∨ c = 1 by omega) with rfl | rfl
      · simp only [nm_0, if_true]
        rw [r1, r2, r3, r4]
      · have hne : ¬ nI 1 = (0 : Int32) := by decide
        rw [if_neg hne, if_neg hne]
        show (if nI g - nI g / 4 * 4 = 1 then fX10_setCell_82 _ a (nI x) (nI y) (nI g / 4) (nI (2 ^ i)) (nI g - nI g / 4 * 4) ((nI g - nI g / 4 * 4) / 2) 1 M else if nI g - nI g / 4 * 4 = 2 then fX10_setCell_82 _ a (nI x) (nI y) (nI g / 4) (nI (2 ^ i)) (nI g - nI g / 4 * 4) ((nI g - nI g / 4 * 4) / 2) 1 M else fX10_setCell_82 _ a (nI x) (nI y) (nI g / 4) (nI (2 ^ i)) (nI g - nI g / 4 * 4) ((nI g - nI g / 4 * 4) / 2) 0 M) = _
        rw [r1, r2, r4]
        simp (disch := omega) only [nm_0, nm_1, nm_2, nm_eq, Nat.one_ne_zero, if_false]
        by_cases g1 : g % 4 = 1
        · simp only [g1, if_true, true_or]
        · by_cases g2 : g % 4 = 2
          · simp only [g2, if_true, or_true, if_false, show ¬ (2 : Nat) = 1 by decide]
          · simp only [g1, g2, if_false, or_self]
    rw [key]
    have e2 : nI (2 ^ i) * 2 = nI (2 ^ (i + 1)) := by rw [nm_2, pk_mul, Nat.pow_succ]
    have s1 : ∀ z, z < 2 ^ i → nI (2 ^ i) - 1 - nI z = nI (2 ^ i - 1 - z) := fun z hz => by rw [nm_1, nm_sub (by omega), nm_sub (by omega)]
    unfold fX10_setCell_82 fX10_setCell_103 fX10_setCell_121 fX10_setCell_139 fX10_setCell_140
    rw [h1, e2]
    generalize cv_u c (g % 4) = U
    generalize cv_v c (g % 4) = V
    generalize g % 4 = F at hf
    unfold cv_t
    rcases (show c = 0 ∨ c = 1 by omega) with rfl | rfl
    · simp (disch := omega) only [nm_0, nm_1, nm_eq, Nat.zero_ne_one, if_false, if_true, pk_mul, nI_add]
    · rw [s1 x hx, s1 y hy]
      simp (disch := omega) only [nm_0, nm_1, nm_3, nm_eq, Nat.one_ne_zero, if_false, if_true, pk_mul, nI_add]
      by_cases h0 : F = 0
      · simp only [h0, if_true]
      · simp only [h0, if_false]
        by_cases h3 : F = 3
        · simp only [h3, if_true]
        · simp only [h3, if_false]
theorem pm_setCell {c D a g : Nat} {M : am_M} (hc : c ≤ 1) (hD : D ≤ 6) (h0 : M.1 a 0 = nI D) (h1 : M.1 a 1 = nI c) (hg : g < 4096) : fX10_setCell a (nI g) M = some (am_pI (am_pI M a 19 (nI (cv_p c D 0 0 0 g).1)) a 20 (nI (cv_p c D 0 0 0 g).2)) := by
  unfold fX10_setCell
  rw [nm_0, nm_1]
  exact pm_setCell_loop hc hD h0 h1 D 0 0 0 g 100000 (by omega) (by decide) (by decide) hg (by omega)
