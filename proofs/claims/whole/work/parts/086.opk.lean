/-! the shape: in -/
def ps_d (x a : Nat) : Nat := (x - a) * (x - a) + (a - x) * (a - x)
theorem nm_d2 (x a : Nat) : (nI x - nI a) * (nI x - nI a) = nI (ps_d x a) := by
  unfold ps_d
  rcases Nat.le_total a x with h | h
  · rw [nm_sub h, pk_mul, show a - x = 0 by omega]; rfl
  · rw [nm_sq, nm_sub h, pk_mul, show x - a = 0 by omega, Nat.zero_mul, Nat.zero_add]
theorem ps_d_int (x a : Nat) : ((x : Int) - a) * ((x : Int) - a) = (ps_d x a : Int) := by
  unfold ps_d
  rcases Nat.le_total a x with h | h
  · rw [show a - x = 0 by omega, Nat.zero_mul, Nat.add_zero, Int.natCast_mul, Int.ofNat_sub h]
  · rw [show x - a = 0 by omega, Nat.zero_mul, Nat.zero_add, Int.natCast_mul, Int.ofNat_sub h, ← Int.neg_sub (x : Int) a, Int.neg_mul_neg]
theorem ps_d_lt {x a : Nat} (hx : x < 64) (ha : a < 64) : ps_d x a < 8192 := by
  unfold ps_d
  have h1 : (x - a) * (x - a) ≤ 63 * 63 := Nat.mul_le_mul (by omega) (by omega)
  have h2 : (a - x) * (a - x) ≤ 63 * 63 := Nat.mul_le_mul (by omega) (by omega)
  omega
theorem ps_has_0 {s : ps_S} {i : Nat} (h : s.2 1 i = 0) (x y : Nat) : ps_has s i x y = decide (s.2 2 i ≤ x ∧ x ≤ s.2 4 i ∧ s.2 3 i ≤ y ∧ y ≤ s.2 5 i) := by
  unfold ps_has
  rw [h, if_neg (by decide)]
theorem ps_has_1 {s : ps_S} {i : Nat} (h : s.2 1 i = 1) (x y : Nat) : ps_has s i x y = decide (ps_d x (s.2 2 i) + ps_d y (s.2 3 i) ≤ s.2 4 i * s.2 4 i) := by
  unfold ps_has
  rw [h, if_pos rfl, ps_d_int, ps_d_int]
  congr 1
  apply propext
  rw [← Int.natCast_add, ← Int.natCast_mul]
  exact Int.ofNat_le
theorem px_has {s : ps_S} (ho : ps_ok s) {i : Nat} (hi : i < s.1 4) {M : am_M} {q : Nat} (hq : ∀ j, j < 6 → M.1 q j = nI (s.2 j i)) {x y : Nat} (hx : x < 64) (hy : y < 64) : fX4_has q (nI x) (nI y) M = some (if ps_has s i x y = true then 1 else 0, M) := by
  obtain ⟨-, -, -, -, -, -, -, -, -, o10, -⟩ := ho
  obtain ⟨b0, b1, b2, b3, b4, b5⟩ := o10 i hi
  unfold fX4_has
  rw [hq 1 (by decide), hq 2 (by decide), hq 3 (by decide), hq 4 (by decide), hq 5 (by decide)]
  rcases (show s.2 1 i = 0 ∨ s.2 1 i = 1 by omega) with h | h
  · rw [ps_has_0 h, h, if_pos (show nI 0 = (0 : Int32) from rfl)]
    simp (disch := omega) only [nm_lt]
    by_cases c1 : x < s.2 2 i
    · rw [if_pos c1, if_neg (by simp; omega)]
    · by_cases c2 : s.2 4 i < x
      · rw [if_neg c1, if_pos c2, if_neg (by simp; omega)]
      · by_cases c3 : y < s.2 3 i
        · rw [if_neg c1, if_neg c2, if_pos c3, if_neg (by simp; omega)]
        · by_cases c4 : s.2 5 i < y
          · rw [if_neg c1, if_neg c2, if_neg c3, if_pos c4, if_neg (by simp; omega)]
          · rw [if_neg c1, if_neg c2, if_neg c3, if_neg c4, if_pos (by simp; omega)]
  · have d1 := ps_d_lt hx b2
    have d2 := ps_d_lt hy b3
    have d3 : s.2 4 i * s.2 4 i ≤ 63 * 63 := Nat.mul_le_mul (by omega) (by omega)
    rw [ps_has_1 h, h, if_neg (show ¬ nI 1 = (0 : Int32) by decide), nm_d2, nm_d2, pk_mul, nI_add]
    simp (disch := omega) only [nm_lt]
    by_cases c : s.2 4 i * s.2 4 i < ps_d x (s.2 2 i) + ps_d y (s.2 3 i)
    · rw [if_pos c, if_neg (by simp; omega)]
    · rw [if_neg c, if_pos (by simp; omega)]
theorem nm_dn (n : Nat) : nI n + (-1) = nI n - 1 := by rw [Int32.sub_eq_add_neg]
theorem nm_pr (n : Nat) : nI (n + 1) - 1 = nI n := by rw [nm_1, nm_sub (by omega)]; rfl
theorem nm_b11 {a : Nat} (h : a ≤ 1) : nI a &&& 1 &&& 1 = (if (a == 1) = true then 1 else 0) := by
  rcases (show a = 0 ∨ a = 1 by omega) with rfl | rfl <;> rfl
theorem px_in_loop {s : ps_S} {pl : Nat} {M : am_M} (ho : ps_ok s) (hX : ps_X s pl M) {x y : Nat} (hx : x < 64) (hy : y < 64) : ∀ (n N : Nat), n ≤ s.1 4 → n < N → am_loop fX5_inShape_7 N (pl, nI x, nI y, nI n - 1, M) = some (if ps_scan s x y n = true then 1 else 0, M)
  | 0, N + 1, _, _ => by
    show fX5_inShape_7 _ (pl, nI x, nI y, nI 0 - 1, M) = _
    unfold fX5_inShape_7
    simp only [show (nI 0 - 1 < (0 : Int32)) = True from eq_true (by decide), if_true]
    rfl
  | n + 1, N + 1, hn, hN => by
    obtain ⟨p1, p2, p3, p4, p5, p6, p7, p8, p9, p10, p11, p12, p13, p14, p15, p16, p17, p18, p19⟩ := hX.pl
    have o := ho.2.2.2.2.2.1
    have b0 := (ho.2.2.2.2.2.2.2.2.2.1 n (by omega)).1
    obtain ⟨-, -, -, -, -, -, -, -, -, -, -, -, -, g8, -⟩ := id hX
    obtain ⟨q, q1, -, -, q4⟩ := g8 n (by omega)
    show fX5_inShape_7 (am_loop fX5_inShape_7 N) (pl, nI x, nI y, nI (n + 1) - 1, M) = _
    unfold fX5_inShape_7
    simp only [nm_pr, show (nI n < (0 : Int32)) = False from eq_false (nI_pos (by omega)), if_false, p10, Option.bind_some, p19, nm_cl (show n < 2147483648 by omega), false_or, show (8 ≤ n) = False from eq_false (by omega), q1, px_has ho (show n < s.1 4 by omega) q4 hx hy, nm_if0]
    rw [ps_scan]
    by_cases c : ps_has s n x y = true
    · unfold fX4_putsOn
      simp only [c, not_true_eq_false, if_false, if_true, Option.bind_some, q4 0 (by decide), nm_b11 b0]
    · rw [if_pos c, if_neg c, nm_dn]
      exact px_in_loop ho hX hx hy n N (by omega) (by omega)
theorem px_in {s : ps_S} {pl : Nat} {M : am_M} (ho : ps_ok s) (hX : ps_X s pl M) {x y : Nat} (hx : x < 64) (hy : y < 64) : fX5_inShape pl (nI x) (nI y) M = some (if ps_in s x y = true then 1 else 0, M) := by
  obtain ⟨p1, p2, p3, -⟩ := hX.pl
  have o := ho.2.2.2.2.2.1
  unfold fX5_inShape
  rw [p3]
  exact px_in_loop ho hX hx hy _ _ (Nat.le_refl _) (by omega)
theorem pm_has {s : ps_S} (ho : ps_ok s) {M : am_M} (hM : ps_M s M) {i : Nat} (hi : i < s.1 4) {x y : Nat} (hx : x < 64) (hy : y < 64) : fX10_has 53 (nI i) (nI x) (nI y) M = some (if ps_has s i x y = true then 1 else 0, M) := by
  obtain ⟨-, -, -, -, -, o6, -, -, -, o10, -⟩ := ho
  obtain ⟨b0, b1, b2, b3, b4, b5⟩ := o10 i hi
  have e1 := hM.2.1 53 5 54 (by decide) rfl
  have e2 : am_len M 54 = 48 := am_len_SH hM.1 54
  have hq : ∀ j, j < 6 → M.1 54 (6 * i + j) = nI (s.2 j i) := fun j hj => hM.2.2.2.2.2.2.2.2.2.2.1 i j hi hj
  have a0 : (6 : Int32) * nI i = nI (6 * i) := by rw [nm_6, pk_mul]
  have a1 : nI (6 * i) + 1 = nI (6 * i + 1) := nI_1 _
  have a2 : nI (6 * i) + 2 = nI (6 * i + 2) := nI_add _ 2
  have a3 : nI (6 * i) + 3 = nI (6 * i + 3) := nI_add _ 3
  have a4 : nI (6 * i) + 4 = nI (6 * i + 4) := nI_add _ 4
  have a5 : nI (6 * i) + 5 = nI (6 * i + 5) := nI_add _ 5
  unfold fX10_has
  simp only [a0, a1, a2, a3, a4, a5, e1, e2, Option.bind_some, nm_cl (show 6 * i + 1 < 2147483648 by omega), nm_cl (show 6 * i + 2 < 2147483648 by omega), nm_cl (show 6 * i + 3 < 2147483648 by omega), nm_cl (show 6 * i + 4 < 2147483648 by omega), nm_cl (show 6 * i + 5 < 2147483648 by omega), am_ixc (show 6 * i + 1 < 48 by omega) (show 48 < 2147483648 by decide), am_ixc (show 6 * i + 2 < 48 by omega) (show 48 < 2147483648 by decide), am_ixc (show 6 * i + 3 < 48 by omega) (show 48 < 2147483648 by decide), am_ixc (show 6 * i + 4 < 48 by omega) (show 48 < 2147483648 by decide), am_ixc (show 6 * i + 5 < 48 by omega) (show 48 < 2147483648 by decide), if_false, hq 1 (by decide), hq 2 (by decide), hq 3 (by decide), hq 4 (by decide), hq 5 (by decide)]
  rcases (show s.2 1 i = 0 ∨ s.2 1 i = 1 by omega) with h | h
  · unfold fX10_isIn
    rw [ps_has_0 h, h, if_pos (show nI 0 = (0 : Int32) from rfl)]
    simp (disch := omega) only [nm_lt]
    by_cases c1 : x < s.2 2 i
    · rw [if_pos c1, if_neg (by simp; omega)]; rfl
    · by_cases c2 : s.2 4 i < x
      · rw [if_neg c1, if_pos c2, if_neg (by simp; omega)]; rfl
      · rw [if_neg c1, if_neg c2]
        simp only [Option.bind_some, nm_1f, if_false, e1, e2, am_ixc (show 6 * i + 3 < 48 by omega) (show 48 < 2147483648 by decide), am_ixc (show 6 * i + 5 < 48 by omega) (show 48 < 2147483648 by decide), hq 3 (by decide), hq 5 (by decide)]
        simp (disch := omega) only [nm_lt]
        by_cases c3 : y < s.2 3 i
        · rw [if_pos c3, if_neg (by simp; omega)]; rfl
        · by_cases c4 : s.2 5 i < y
          · rw [if_neg c3, if_pos c4, if_neg (by simp; omega)]; rfl
          · rw [if_neg c3, if_neg c4, if_pos (by simp; omega)]; rfl
  · have d1 := ps_d_lt hx b2
    have d2 := ps_d_lt hy b3
    have d3 : s.2 4 i * s.2 4 i ≤ 63 * 63 := Nat.mul_le_mul (by omega) (by omega)
    rw [ps_has_1 h, h, if_neg (show ¬ nI 1 = (0 : Int32) by decide), nm_d2, nm_d2, pk_mul, nI_add]
    simp (disch := omega) only [nm_lt]
    by_cases c : s.2 4 i * s.2 4 i < ps_d x (s.2 2 i) + ps_d y (s.2 3 i)
    · rw [if_pos c, if_neg (by simp; omega)]
    · rw [if_neg c, if_pos (by simp; omega)]
theorem pm_in_loop {s : ps_S} {M : am_M} (ho : ps_ok s) (hM : ps_M s M) {x y : Nat} (hx : x < 64) (hy : y < 64) : ∀ (n N : Nat), n ≤ s.1 4 → n < N → am_loop fX10_isShape_7 N (53, nI x, nI y, nI n - 1, M) = some (if ps_scan s x y n = true then 1 else 0, M)
  | 0, N + 1, _, _ => by
    show fX10_isShape_7 _ (53, nI x, nI y, nI 0 - 1, M) = _
    unfold fX10_isShape_7
    simp only [show (nI 0 - 1 < (0 : Int32)) = True from eq_true (by decide), if_true]
    rfl
  | n + 1, N + 1, hn, hN => by
    have o := ho.2.2.2.2.2.1
    have b0 := (ho.2.2.2.2.2.2.2.2.2.1 n (by omega)).1
    have e1 := hM.2.1 53 5 54 (by decide) rfl
    have e2 : am_len M 54 = 48 := am_len_SH hM.1 54
    have hq : M.1 54 (6 * n) = nI (s.2 0 n) := hM.2.2.2.2.2.2.2.2.2.2.1 n 0 (by omega) (by decide)
    have a0 : (6 : Int32) * nI n = nI (6 * n) := by rw [nm_6, pk_mul]
    show fX10_isShape_7 (am_loop fX10_isShape_7 N) (53, nI x, nI y, nI (n + 1) - 1, M) = _
    unfold fX10_isShape_7
    simp only [nm_pr, show (nI n < (0 : Int32)) = False from eq_false (nI_pos (by omega)), if_false, Option.bind_some, pm_has ho hM (show n < s.1 4 by omega) hx hy, nm_if0]
    rw [ps_scan]
    by_cases c : ps_has s n x y = true
    · simp only [c, not_true_eq_false, if_false, if_true, Option.bind_some, e1, a0, e2, nm_cl (show 6 * n < 2147483648 by omega), am_ixc (show 6 * n < 48 by omega) (show 48 < 2147483648 by decide), hq]
      rcases (show s.2 0 n = 0 ∨ s.2 0 n = 1 by omega) with h | h
      · rw [h, if_neg (by decide), if_neg (by decide)]
      · rw [h, if_pos (by decide), if_pos (by decide)]
    · rw [if_pos c, if_neg c, nm_dn]
      exact pm_in_loop ho hM hx hy n N (by omega) (by omega)
theorem pm_isShape {s : ps_S} {M : am_M} (ho : ps_ok s) (hM : ps_M s M) {x y : Nat} (hx : x < 64) (hy : y < 64) : fX10_isShape 53 (nI x) (nI y) M = some (if ps_in s x y = true then 1 else 0, M) := by
  have o := ho.2.2.2.2.2.1
  unfold fX10_isShape
  rw [hM.2.2.2.2.2.2.1]
  exact pm_in_loop ho hM hx hy _ _ (Nat.le_refl _) (by omega)
theorem op_in (x y : Int32) : ps_op (fX9_in 0 x y) (fX10_in 53 x y) := by
  intro s ho
  obtain ⟨o1, o2, o3, -⟩ := id ho
  have hp : 2 ^ s.1 0 ≤ 2 ^ 6 := Nat.pow_le_pow_right (by decide) o2
  by_cases hQ : (0 ≤ x ∧ x < nI (2 ^ s.1 0)) ∧ (0 ≤ y ∧ y < nI (2 ^ s.1 0))
  · obtain ⟨i, hi, rfl⟩ := nm_of (by omega) hQ.1
    obtain ⟨j, hj, rfl⟩ := nm_of (by omega) hQ.2
    refine ⟨if ps_in s i j = true then 1 else 0, s, ho, ps_ox.same (fun pl M hX => ?_), ps_om.same (fun M hM => ?_)⟩
    · obtain ⟨p1, p2, p3, p4, p5, p6, p7, p8, -⟩ := hX.pl
      have e := px_hasCell ho p4 (nI i) (nI j)
      rw [if_pos hQ] at e
      unfold fX9_in
      simp only [p2, Option.bind_some, e, nm_1f, if_false, px_in ho hX (show i < 64 by omega) (show j < 64 by omega), nm_if0]
      by_cases c : ps_in s i j = true
      · rw [if_neg (not_not_intro c), if_pos c]
      · rw [if_pos c, if_neg c]
    · have e := pm_isCell ho hM.2.2.1 (nI i) (nI j)
      rw [if_pos hQ] at e
      unfold fX10_in
      simp only [Option.bind_some, e, nm_1f, if_false, pm_isShape ho hM (show i < 64 by omega) (show j < 64 by omega), nm_if0]
      by_cases c : ps_in s i j = true
      · rw [if_neg (not_not_intro c), if_pos c]
      · rw [if_pos c, if_neg c]
  · refine ⟨-1, s, ho, ps_ox.same (fun pl M hX => ?_), ps_om.same (fun M hM => ?_)⟩
    · obtain ⟨p1, p2, p3, p4, p5, p6, p7, p8, -⟩ := hX.pl
      have e := px_hasCell ho p4 x y
      rw [if_neg hQ] at e
      unfold fX9_in
      simp only [p2, Option.bind_some, e, if_true]
    · have e := pm_isCell ho hM.2.2.1 x y
      rw [if_neg hQ] at e
      unfold fX10_in
      simp only [Option.bind_some, e, if_true]
