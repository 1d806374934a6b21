/-! ===== the reference's constructor ===== -/
def in_st (q : Nat) : am_M → Nat → List Int32 → am_M
  | M, _, [] => M
  | M, o, v :: vs => in_st q (am_pI M q o v) (o + 1) vs
theorem in_st_2 (q : Nat) : ∀ (vs : List Int32) (M : am_M) (o : Nat), (in_st q M o vs).2 = M.2
  | [], _, _ => rfl
  | _ :: vs, M, o => (in_st_2 q vs _ (o + 1)).trans rfl
theorem in_st_i (q : Nat) : ∀ (vs : List Int32) (M : am_M) (o a i : Nat), (in_st q M o vs).1 a i = if a = q ∧ o ≤ i ∧ i < o + vs.length then vs.getD (i - o) 0 else M.1 a i
  | [], M, o, a, i => by
    rw [if_neg (by intro h; have := h.2.2; simp at this; omega)]; rfl
  | v :: vs, M, o, a, i => by
    show (in_st q (am_pI M q o v) (o + 1) vs).1 a i = _
    rw [in_st_i q vs, am_pI_1, List.length_cons]
    by_cases c1 : a = q ∧ o + 1 ≤ i ∧ i < o + 1 + vs.length
    · rw [if_pos c1, if_pos (by omega), show i - o = i - (o + 1) + 1 by omega]
      rfl
    · rw [if_neg c1]
      by_cases c2 : a = q ∧ i = o
      · rw [if_pos c2, if_pos (by omega), c2.2, Nat.sub_self]; rfl
      · rw [if_neg c2, if_neg (by omega)]
theorem in_st_n (q : Nat) (vs : List Int32) (M : am_M) (o : Nat) : am_n (in_st q M o vs) = am_n M := by
  show (in_st q M o vs).2.2.2.length = _
  rw [in_st_2]
theorem in_st_len (q : Nat) (vs : List Int32) (M : am_M) (o a : Nat) : am_len (in_st q M o vs) a = am_len M a := by
  unfold am_len
  rw [in_st_2]
theorem am_n_pI (M : am_M) (k j : Nat) (x : Int32) : am_n (am_pI M k j x) = am_n M := rfl
theorem am_len_new (M : am_M) (kd n : Nat) : am_len (am_new M kd n) (am_n M) = n := by
  refine am_len_at (kd := kd) ?_
  show (M.2.2.2 ++ [(kd, n)])[M.2.2.2.length]? = _
  rw [List.getElem?_append_right (Nat.le_refl _), Nat.sub_self]; rfl
theorem in_c29 {q : Nat} {M : am_M} (h : am_len M q = 48) : fX10_init_29 53 q 53 M = fX10_init_65 53 q 53 (in_st q M 0 [1, 0, 2, 3, 9, 8, 1, 1]) := by
  unfold fX10_init_29
  simp only [am_len_pI, h, show ((0 : Int32) < 0 ∨ 48 ≤ (0 : Int32).toNatClampNeg) = False from eq_false (by decide), show ((1 : Int32) < 0 ∨ 48 ≤ (1 : Int32).toNatClampNeg) = False from eq_false (by decide), show ((2 : Int32) < 0 ∨ 48 ≤ (2 : Int32).toNatClampNeg) = False from eq_false (by decide), show ((3 : Int32) < 0 ∨ 48 ≤ (3 : Int32).toNatClampNeg) = False from eq_false (by decide), show ((4 : Int32) < 0 ∨ 48 ≤ (4 : Int32).toNatClampNeg) = False from eq_false (by decide), show ((5 : Int32) < 0 ∨ 48 ≤ (5 : Int32).toNatClampNeg) = False from eq_false (by decide), show ((6 : Int32) < 0 ∨ 48 ≤ (6 : Int32).toNatClampNeg) = False from eq_false (by decide), show ((7 : Int32) < 0 ∨ 48 ≤ (7 : Int32).toNatClampNeg) = False from eq_false (by decide), if_false]
  rfl
theorem in_c65 {q : Nat} {M : am_M} (h : am_len M q = 48) : fX10_init_65 53 q 53 M = fX10_init_107 53 q 53 (in_st q M 8 [10, 9, 4, 0, 0, 0, 5, 5]) := by
  unfold fX10_init_65
  simp only [am_len_pI, h, show ((8 : Int32) < 0 ∨ 48 ≤ (8 : Int32).toNatClampNeg) = False from eq_false (by decide), show ((9 : Int32) < 0 ∨ 48 ≤ (9 : Int32).toNatClampNeg) = False from eq_false (by decide), show ((10 : Int32) < 0 ∨ 48 ≤ (10 : Int32).toNatClampNeg) = False from eq_false (by decide), show ((11 : Int32) < 0 ∨ 48 ≤ (11 : Int32).toNatClampNeg) = False from eq_false (by decide), show ((12 : Int32) < 0 ∨ 48 ≤ (12 : Int32).toNatClampNeg) = False from eq_false (by decide), show ((13 : Int32) < 0 ∨ 48 ≤ (13 : Int32).toNatClampNeg) = False from eq_false (by decide), show ((14 : Int32) < 0 ∨ 48 ≤ (14 : Int32).toNatClampNeg) = False from eq_false (by decide), show ((15 : Int32) < 0 ∨ 48 ≤ (15 : Int32).toNatClampNeg) = False from eq_false (by decide), if_false]
  rfl
theorem in_c107 {q : Nat} {M : am_M} (h : am_len M q = 48) : fX10_init_107 53 q 53 M = fX10_init_149 53 q 53 (in_st q M 16 [6, 12, 0, 0, 0, 0, 0, 0]) := by
  unfold fX10_init_107
  simp only [am_len_pI, h, show ((16 : Int32) < 0 ∨ 48 ≤ (16 : Int32).toNatClampNeg) = False from eq_false (by decide), show ((17 : Int32) < 0 ∨ 48 ≤ (17 : Int32).toNatClampNeg) = False from eq_false (by decide), show ((18 : Int32) < 0 ∨ 48 ≤ (18 : Int32).toNatClampNeg) = False from eq_false (by decide), show ((19 : Int32) < 0 ∨ 48 ≤ (19 : Int32).toNatClampNeg) = False from eq_false (by decide), show ((20 : Int32) < 0 ∨ 48 ≤ (20 : Int32).toNatClampNeg) = False from eq_false (by decide), show ((21 : Int32) < 0 ∨ 48 ≤ (21 : Int32).toNatClampNeg) = False from eq_false (by decide), show ((22 : Int32) < 0 ∨ 48 ≤ (22 : Int32).toNatClampNeg) = False from eq_false (by decide), show ((23 : Int32) < 0 ∨ 48 ≤ (23 : Int32).toNatClampNeg) = False from eq_false (by decide), if_false]
  rfl
theorem in_c149 {q : Nat} {M : am_M} (h : am_len M q = 48) : fX10_init_149 53 q 53 M = fX10_init_189 53 q 53 (in_st q M 24 [0, 0, 0, 0, 0, 0, 0, 0]) := by
  unfold fX10_init_149
  simp only [am_len_pI, h, show ((24 : Int32) < 0 ∨ 48 ≤ (24 : Int32).toNatClampNeg) = False from eq_false (by decide), show ((25 : Int32) < 0 ∨ 48 ≤ (25 : Int32).toNatClampNeg) = False from eq_false (by decide), show ((26 : Int32) < 0 ∨ 48 ≤ (26 : Int32).toNatClampNeg) = False from eq_false (by decide), show ((27 : Int32) < 0 ∨ 48 ≤ (27 : Int32).toNatClampNeg) = False from eq_false (by decide), show ((28 : Int32) < 0 ∨ 48 ≤ (28 : Int32).toNatClampNeg) = False from eq_false (by decide), show ((29 : Int32) < 0 ∨ 48 ≤ (29 : Int32).toNatClampNeg) = False from eq_false (by decide), show ((30 : Int32) < 0 ∨ 48 ≤ (30 : Int32).toNatClampNeg) = False from eq_false (by decide), show ((31 : Int32) < 0 ∨ 48 ≤ (31 : Int32).toNatClampNeg) = False from eq_false (by decide), if_false]
  rfl
theorem in_c189 {q : Nat} {M : am_M} (h : am_len M q = 48) : fX10_init_189 53 q 53 M = fX10_init_229 53 q 53 (in_st q M 32 [0, 0, 0, 0, 0, 0, 0, 0]) := by
  unfold fX10_init_189
  simp only [am_len_pI, h, show ((32 : Int32) < 0 ∨ 48 ≤ (32 : Int32).toNatClampNeg) = False from eq_false (by decide), show ((33 : Int32) < 0 ∨ 48 ≤ (33 : Int32).toNatClampNeg) = False from eq_false (by decide), show ((34 : Int32) < 0 ∨ 48 ≤ (34 : Int32).toNatClampNeg) = False from eq_false (by decide), show ((35 : Int32) < 0 ∨ 48 ≤ (35 : Int32).toNatClampNeg) = False from eq_false (by decide), show ((36 : Int32) < 0 ∨ 48 ≤ (36 : Int32).toNatClampNeg) = False from eq_false (by decide), show ((37 : Int32) < 0 ∨ 48 ≤ (37 : Int32).toNatClampNeg) = False from eq_false (by decide), show ((38 : Int32) < 0 ∨ 48 ≤ (38 : Int32).toNatClampNeg) = False from eq_false (by decide), show ((39 : Int32) < 0 ∨ 48 ≤ (39 : Int32).toNatClampNeg) = False from eq_false (by decide), if_false]
  rfl
theorem in_c229 {q : Nat} {M : am_M} (h : am_len M q = 48) : fX10_init_229 53 q 53 M = fX10_init_269 53 q 53 (in_st q M 40 [0, 0, 0, 0, 0, 0, 0, 0]) := by
  unfold fX10_init_229
  simp only [am_len_pI, h, show ((40 : Int32) < 0 ∨ 48 ≤ (40 : Int32).toNatClampNeg) = False from eq_false (by decide), show ((41 : Int32) < 0 ∨ 48 ≤ (41 : Int32).toNatClampNeg) = False from eq_false (by decide), show ((42 : Int32) < 0 ∨ 48 ≤ (42 : Int32).toNatClampNeg) = False from eq_false (by decide), show ((43 : Int32) < 0 ∨ 48 ≤ (43 : Int32).toNatClampNeg) = False from eq_false (by decide), show ((44 : Int32) < 0 ∨ 48 ≤ (44 : Int32).toNatClampNeg) = False from eq_false (by decide), show ((45 : Int32) < 0 ∨ 48 ≤ (45 : Int32).toNatClampNeg) = False from eq_false (by decide), show ((46 : Int32) < 0 ∨ 48 ≤ (46 : Int32).toNatClampNeg) = False from eq_false (by decide), show ((47 : Int32) < 0 ∨ 48 ≤ (47 : Int32).toNatClampNeg) = False from eq_false (by decide), if_false]
  rfl
theorem in_c283 {q : Nat} {M : am_M} (h : am_len M q = 40) : fX10_init_283 53 q 53 M = fX10_init_319 53 q 53 (in_st q M 0 [3, 10, 5, 0, 9, 3, 0, 0]) := by
  unfold fX10_init_283
  simp only [am_len_pI, h, show ((0 : Int32) < 0 ∨ 40 ≤ (0 : Int32).toNatClampNeg) = False from eq_false (by decide), show ((1 : Int32) < 0 ∨ 40 ≤ (1 : Int32).toNatClampNeg) = False from eq_false (by decide), show ((2 : Int32) < 0 ∨ 40 ≤ (2 : Int32).toNatClampNeg) = False from eq_false (by decide), show ((3 : Int32) < 0 ∨ 40 ≤ (3 : Int32).toNatClampNeg) = False from eq_false (by decide), show ((4 : Int32) < 0 ∨ 40 ≤ (4 : Int32).toNatClampNeg) = False from eq_false (by decide), show ((5 : Int32) < 0 ∨ 40 ≤ (5 : Int32).toNatClampNeg) = False from eq_false (by decide), show ((6 : Int32) < 0 ∨ 40 ≤ (6 : Int32).toNatClampNeg) = False from eq_false (by decide), show ((7 : Int32) < 0 ∨ 40 ≤ (7 : Int32).toNatClampNeg) = False from eq_false (by decide), if_false]
  rfl
theorem in_c319 {q : Nat} {M : am_M} (h : am_len M q = 40) : fX10_init_319 53 q 53 M = fX10_init_359 53 q 53 (in_st q M 8 [0, 0, 0, 0, 0, 0, 0, 0]) := by
  unfold fX10_init_319
  simp only [am_len_pI, h, show ((8 : Int32) < 0 ∨ 40 ≤ (8 : Int32).toNatClampNeg) = False from eq_false (by decide), show ((9 : Int32) < 0 ∨ 40 ≤ (9 : Int32).toNatClampNeg) = False from eq_false (by decide), show ((10 : Int32) < 0 ∨ 40 ≤ (10 : Int32).toNatClampNeg) = False from eq_false (by decide), show ((11 : Int32) < 0 ∨ 40 ≤ (11 : Int32).toNatClampNeg) = False from eq_false (by decide), show ((12 : Int32) < 0 ∨ 40 ≤ (12 : Int32).toNatClampNeg) = False from eq_false (by decide), show ((13 : Int32) < 0 ∨ 40 ≤ (13 : Int32).toNatClampNeg) = False from eq_false (by decide), show ((14 : Int32) < 0 ∨ 40 ≤ (14 : Int32).toNatClampNeg) = False from eq_false (by decide), show ((15 : Int32) < 0 ∨ 40 ≤ (15 : Int32).toNatClampNeg) = False from eq_false (by decide), if_false]
  rfl
theorem in_c359 {q : Nat} {M : am_M} (h : am_len M q = 40) : fX10_init_359 53 q 53 M = fX10_init_399 53 q 53 (in_st q M 16 [0, 0, 0, 0, 0, 0, 0, 0]) := by
  unfold fX10_init_359
  simp only [am_len_pI, h, show ((16 : Int32) < 0 ∨ 40 ≤ (16 : Int32).toNatClampNeg) = False from eq_false (by decide), show ((17 : Int32) < 0 ∨ 40 ≤ (17 : Int32).toNatClampNeg) = False from eq_false (by decide), show ((18 : Int32) < 0 ∨ 40 ≤ (18 : Int32).toNatClampNeg) = False from eq_false (by decide), show ((19 : Int32) < 0 ∨ 40 ≤ (19 : Int32).toNatClampNeg) = False from eq_false (by decide), show ((20 : Int32) < 0 ∨ 40 ≤ (20 : Int32).toNatClampNeg) = False from eq_false (by decide), show ((21 : Int32) < 0 ∨ 40 ≤ (21 : Int32).toNatClampNeg) = False from eq_false (by decide), show ((22 : Int32) < 0 ∨ 40 ≤ (22 : Int32).toNatClampNeg) = False from eq_false (by decide), show ((23 : Int32) < 0 ∨ 40 ≤ (23 : Int32).toNatClampNeg) = False from eq_false (by decide), if_false]
  rfl
theorem in_c399 {q : Nat} {M : am_M} (h : am_len M q = 40) : fX10_init_399 53 q 53 M = fX10_init_439 53 q 53 (in_st q M 24 [0, 0, 0, 0, 0, 0, 0, 0]) := by
  unfold fX10_init_399
  simp only [am_len_pI, h, show ((24 : Int32) < 0 ∨ 40 ≤ (24 : Int32).toNatClampNeg) = False from eq_false (by decide), show ((25 : Int32) < 0 ∨ 40 ≤ (25 : Int32).toNatClampNeg) = False from eq_false (by decide), show ((26 : Int32) < 0 ∨ 40 ≤ (26 : Int32).toNatClampNeg) = False from eq_false (by decide), show ((27 : Int32) < 0 ∨ 40 ≤ (27 : Int32).toNatClampNeg) = False from eq_false (by decide), show ((28 : Int32) < 0 ∨ 40 ≤ (28 : Int32).toNatClampNeg) = False from eq_false (by decide), show ((29 : Int32) < 0 ∨ 40 ≤ (29 : Int32).toNatClampNeg) = False from eq_false (by decide), show ((30 : Int32) < 0 ∨ 40 ≤ (30 : Int32).toNatClampNeg) = False from eq_false (by decide), show ((31 : Int32) < 0 ∨ 40 ≤ (31 : Int32).toNatClampNeg) = False from eq_false (by decide), if_false]
  rfl
theorem in_c439 {q : Nat} {M : am_M} (h : am_len M q = 40) : fX10_init_439 53 q 53 M = fX10_init_479 53 q 53 (in_st q M 32 [0, 0, 0, 0, 0, 0, 0, 0]) := by
  unfold fX10_init_439
  simp only [am_len_pI, h, show ((32 : Int32) < 0 ∨ 40 ≤ (32 : Int32).toNatClampNeg) = False from eq_false (by decide), show ((33 : Int32) < 0 ∨ 40 ≤ (33 : Int32).toNatClampNeg) = False from eq_false (by decide), show ((34 : Int32) < 0 ∨ 40 ≤ (34 : Int32).toNatClampNeg) = False from eq_false (by decide), show ((35 : Int32) < 0 ∨ 40 ≤ (35 : Int32).toNatClampNeg) = False from eq_false (by decide), show ((36 : Int32) < 0 ∨ 40 ≤ (36 : Int32).toNatClampNeg) = False from eq_false (by decide), show ((37 : Int32) < 0 ∨ 40 ≤ (37 : Int32).toNatClampNeg) = False from eq_false (by decide), show ((38 : Int32) < 0 ∨ 40 ≤ (38 : Int32).toNatClampNeg) = False from eq_false (by decide), show ((39 : Int32) < 0 ∨ 40 ≤ (39 : Int32).toNatClampNeg) = False from eq_false (by decide), if_false]
  rfl
theorem in_c487 {q : Nat} {M : am_M} (h : am_len M q = 40) : fX10_init_487 53 q 53 M = fX10_init_524 53 q 53 (in_st q M 0 [3, 10, 6, 15, 4, 3, 0, 0]) := by
  unfold fX10_init_487
  simp only [am_len_pI, h, show ((0 : Int32) < 0 ∨ 40 ≤ (0 : Int32).toNatClampNeg) = False from eq_false (by decide), show ((1 : Int32) < 0 ∨ 40 ≤ (1 : Int32).toNatClampNeg) = False from eq_false (by decide), show ((2 : Int32) < 0 ∨ 40 ≤ (2 : Int32).toNatClampNeg) = False from eq_false (by decide), show ((3 : Int32) < 0 ∨ 40 ≤ (3 : Int32).toNatClampNeg) = False from eq_false (by decide), show ((4 : Int32) < 0 ∨ 40 ≤ (4 : Int32).toNatClampNeg) = False from eq_false (by decide), show ((5 : Int32) < 0 ∨ 40 ≤ (5 : Int32).toNatClampNeg) = False from eq_false (by decide), show ((6 : Int32) < 0 ∨ 40 ≤ (6 : Int32).toNatClampNeg) = False from eq_false (by decide), show ((7 : Int32) < 0 ∨ 40 ≤ (7 : Int32).toNatClampNeg) = False from eq_false (by decide), if_false]
  rfl
theorem in_c524 {q : Nat} {M : am_M} (h : am_len M q = 40) : fX10_init_524 53 q 53 M = fX10_init_564 53 q 53 (in_st q M 8 [0, 0, 0, 0, 0, 0, 0, 0]) := by
  unfold fX10_init_524
  simp only [am_len_pI, h, show ((8 : Int32) < 0 ∨ 40 ≤ (8 : Int32).toNatClampNeg) = False from eq_false (by decide), show ((9 : Int32) < 0 ∨ 40 ≤ (9 : Int32).toNatClampNeg) = False from eq_false (by decide), show ((10 : Int32) < 0 ∨ 40 ≤ (10 : Int32).toNatClampNeg) = False from eq_false (by decide), show ((11 : Int32) < 0 ∨ 40 ≤ (11 : Int32).toNatClampNeg) = False from eq_false (by decide), show ((12 : Int32) < 0 ∨ 40 ≤ (12 : Int32).toNatClampNeg) = False from eq_false (by decide), show ((13 : Int32) < 0 ∨ 40 ≤ (13 : Int32).toNatClampNeg) = False from eq_false (by decide), show ((14 : Int32) < 0 ∨ 40 ≤ (14 : Int32).toNatClampNeg) = False from eq_false (by decide), show ((15 : Int32) < 0 ∨ 40 ≤ (15 : Int32).toNatClampNeg) = False from eq_false (by decide), if_false]
  rfl
theorem in_c564 {q : Nat} {M : am_M} (h : am_len M q = 40) : fX10_init_564 53 q 53 M = fX10_init_604 53 q 53 (in_st q M 16 [0, 0, 0, 0, 0, 0, 0, 0]) := by
  unfold fX10_init_564
  simp only [am_len_pI, h, show ((16 : Int32) < 0 ∨ 40 ≤ (16 : Int32).toNatClampNeg) = False from eq_false (by decide), show ((17 : Int32) < 0 ∨ 40 ≤ (17 : Int32).toNatClampNeg) = False from eq_false (by decide), show ((18 : Int32) < 0 ∨ 40 ≤ (18 : Int32).toNatClampNeg) = False from eq_false (by decide), show ((19 : Int32) < 0 ∨ 40 ≤ (19 : Int32).toNatClampNeg) = False from eq_false (by decide), show ((20 : Int32) < 0 ∨ 40 ≤ (20 : Int32).toNatClampNeg) = False from eq_false (by decide), show ((21 : Int32) < 0 ∨ 40 ≤ (21 : Int32).toNatClampNeg) = False from eq_false (by decide), show ((22 : Int32) < 0 ∨ 40 ≤ (22 : Int32).toNatClampNeg) = False from eq_false (by decide), show ((23 : Int32) < 0 ∨ 40 ≤ (23 : Int32).toNatClampNeg) = False from eq_false (by decide), if_false]
  rfl
theorem in_c604 {q : Nat} {M : am_M} (h : am_len M q = 40) : fX10_init_604 53 q 53 M = fX10_init_644 53 q 53 (in_st q M 24 [0, 0, 0, 0, 0, 0, 0, 0]) := by
  unfold fX10_init_604
  simp only [am_len_pI, h, show ((24 : Int32) < 0 ∨ 40 ≤ (24 : Int32).toNatClampNeg) = False from eq_false (by decide), show ((25 : Int32) < 0 ∨ 40 ≤ (25 : Int32).toNatClampNeg) = False from eq_false (by decide), show ((26 : Int32) < 0 ∨ 40 ≤ (26 : Int32).toNatClampNeg) = False from eq_false (by decide), show ((27 : Int32) < 0 ∨ 40 ≤ (27 : Int32).toNatClampNeg) = False from eq_false (by decide), show ((28 : Int32) < 0 ∨ 40 ≤ (28 : Int32).toNatClampNeg) = False from eq_false (by decide), show ((29 : Int32) < 0 ∨ 40 ≤ (29 : Int32).toNatClampNeg) = False from eq_false (by decide), show ((30 : Int32) < 0 ∨ 40 ≤ (30 : Int32).toNatClampNeg) = False from eq_false (by decide), show ((31 : Int32) < 0 ∨ 40 ≤ (31 : Int32).toNatClampNeg) = False from eq_false (by decide), if_false]
  rfl
theorem in_c644 {q : Nat} {M : am_M} (h : am_len M q = 40) : fX10_init_644 53 q 53 M = fX10_init_684 53 q 53 (in_st q M 32 [0, 0, 0, 0, 0, 0, 0, 0]) := by
  unfold fX10_init_644
  simp only [am_len_pI, h, show ((32 : Int32) < 0 ∨ 40 ≤ (32 : Int32).toNatClampNeg) = False from eq_false (by decide), show ((33 : Int32) < 0 ∨ 40 ≤ (33 : Int32).toNatClampNeg) = False from eq_false (by decide), show ((34 : Int32) < 0 ∨ 40 ≤ (34 : Int32).toNatClampNeg) = False from eq_false (by decide), show ((35 : Int32) < 0 ∨ 40 ≤ (35 : Int32).toNatClampNeg) = False from eq_false (by decide), show ((36 : Int32) < 0 ∨ 40 ≤ (36 : Int32).toNatClampNeg) = False from eq_false (by decide), show ((37 : Int32) < 0 ∨ 40 ≤ (37 : Int32).toNatClampNeg) = False from eq_false (by decide), show ((38 : Int32) < 0 ∨ 40 ≤ (38 : Int32).toNatClampNeg) = False from eq_false (by decide), show ((39 : Int32) < 0 ∨ 40 ≤ (39 : Int32).toNatClampNeg) = False from eq_false (by decide), if_false]
  rfl
def in_v1 : List Int32 := [1, 0, 2, 3, 9, 8, 1, 1, 10, 9, 4, 0, 0, 0, 5, 5, 6, 12, 0, 0, 0, 0, 0, 0, 0, 0, 0, 0, 0, 0, 0, 0, 0, 0, 0, 0, 0, 0, 0, 0, 0, 0, 0, 0, 0, 0, 0, 0]
def in_v2 : List Int32 := [3, 10, 5, 0, 9, 3, 0, 0, 0, 0, 0, 0, 0, 0, 0, 0, 0, 0, 0, 0, 0, 0, 0, 0, 0, 0, 0, 0, 0, 0, 0, 0, 0, 0, 0, 0, 0, 0, 0, 0]
def in_v3 : List Int32 := [3, 10, 6, 15, 4, 3, 0, 0, 0, 0, 0, 0, 0, 0, 0, 0, 0, 0, 0, 0, 0, 0, 0, 0, 0, 0, 0, 0, 0, 0, 0, 0, 0, 0, 0, 0, 0, 0, 0, 0]
theorem in_st_app (q : Nat) : ∀ (vs ws : List Int32) (M : am_M) (o : Nat), in_st q (in_st q M o vs) (o + vs.length) ws = in_st q M o (vs ++ ws)
  | [], ws, M, o => rfl
  | v :: vs, ws, M, o => by
    show in_st q (in_st q (am_pI M q o v) (o + 1) vs) (o + (vs.length + 1)) ws = in_st q (am_pI M q o v) (o + 1) (vs ++ ws)
    rw [← in_st_app q vs ws, show o + (vs.length + 1) = o + 1 + vs.length by omega]
theorem in_s1 {q : Nat} {M : am_M} (h : am_len M q = 48) : fX10_init_29 53 q 53 M = fX10_init_269 53 q 53 (in_st q M 0 in_v1) := by
  rw [in_c29 h, in_c65 (by simp only [in_st_len]; exact h), in_c107 (by simp only [in_st_len]; exact h), in_c149 (by simp only [in_st_len]; exact h), in_c189 (by simp only [in_st_len]; exact h), in_c229 (by simp only [in_st_len]; exact h)]
  have e : (in_st q (in_st q (in_st q (in_st q (in_st q (in_st q M 0 [1, 0, 2, 3, 9, 8, 1, 1]) 8 [10, 9, 4, 0, 0, 0, 5, 5]) 16 [6, 12, 0, 0, 0, 0, 0, 0]) 24 [0, 0, 0, 0, 0, 0, 0, 0]) 32 [0, 0, 0, 0, 0, 0, 0, 0]) 40 [0, 0, 0, 0, 0, 0, 0, 0]) = in_st q M 0 in_v1 := by
    have e1 : in_st q (in_st q M 0 (in_v1.take 8)) 8 [10, 9, 4, 0, 0, 0, 5, 5] = in_st q M 0 (in_v1.take 16) := in_st_app q (in_v1.take 8) [10, 9, 4, 0, 0, 0, 5, 5] M 0
    have e2 : in_st q (in_st q M 0 (in_v1.take 16)) 16 [6, 12, 0, 0, 0, 0, 0, 0] = in_st q M 0 (in_v1.take 24) := in_st_app q (in_v1.take 16) [6, 12, 0, 0, 0, 0, 0, 0] M 0
    have e3 : in_st q (in_st q M 0 (in_v1.take 24)) 24 [0, 0, 0, 0, 0, 0, 0, 0] = in_st q M 0 (in_v1.take 32) := in_st_app q (in_v1.take 24) [0, 0, 0, 0, 0, 0, 0, 0] M 0
    have e4 : in_st q (in_st q M 0 (in_v1.take 32)) 32 [0, 0, 0, 0, 0, 0, 0, 0] = in_st q M 0 (in_v1.take 40) := in_st_app q (in_v1.take 32) [0, 0, 0, 0, 0, 0, 0, 0] M 0
    have e5 : in_st q (in_st q M 0 (in_v1.take 40)) 40 [0, 0, 0, 0, 0, 0, 0, 0] = in_st q M 0 (in_v1.take 48) := in_st_app q (in_v1.take 40) [0, 0, 0, 0, 0, 0, 0, 0] M 0
    show (in_st q (in_st q (in_st q (in_st q (in_st q (in_st q M 0 (in_v1.take 8)) 8 [10, 9, 4, 0, 0, 0, 5, 5]) 16 [6, 12, 0, 0, 0, 0, 0, 0]) 24 [0, 0, 0, 0, 0, 0, 0, 0]) 32 [0, 0, 0, 0, 0, 0, 0, 0]) 40 [0, 0, 0, 0, 0, 0, 0, 0]) = in_st q M 0 (in_v1.take 48)
    rw [e1, e2, e3, e4, e5]
  rw [e]
theorem in_s2 {q : Nat} {M : am_M} (h : am_len M q = 40) : fX10_init_283 53 q 53 M = fX10_init_479 53 q 53 (in_st q M 0 in_v2) := by
  rw [in_c283 h, in_c319 (by simp only [in_st_len]; exact h), in_c359 (by simp only [in_st_len]; exact h), in_c399 (by simp only [in_st_len]; exact h), in_c439 (by simp only [in_st_len]; exact h)]
  have e : (in_st q (in_st q (in_st q (in_st q (in_st q M 0 [3, 10, 5, 0, 9, 3, 0, 0]) 8 [0, 0, 0, 0, 0, 0, 0, 0]) 16 [0, 0, 0, 0, 0, 0, 0, 0]) 24 [0, 0, 0, 0, 0, 0, 0, 0]) 32 [0, 0, 0, 0, 0, 0, 0, 0]) = in_st q M 0 in_v2 := by
    have e1 : in_st q (in_st q M 0 (in_v2.take 8)) 8 [0, 0, 0, 0, 0, 0, 0, 0] = in_st q M 0 (in_v2.take 16) := in_st_app q (in_v2.take 8) [0, 0, 0, 0, 0, 0, 0, 0] M 0
    have e2 : in_st q (in_st q M 0 (in_v2.take 16)) 16 [0, 0, 0, 0, 0, 0, 0, 0] = in_st q M 0 (in_v2.take 24) := in_st_app q (in_v2.take 16) [0, 0, 0, 0, 0, 0, 0, 0] M 0
    have e3 : in_st q (in_st q M 0 (in_v2.take 24)) 24 [0, 0, 0, 0, 0, 0, 0, 0] = in_st q M 0 (in_v2.take 32) := in_st_app q (in_v2.take 24) [0, 0, 0, 0, 0, 0, 0, 0] M 0
    have e4 : in_st q (in_st q M 0 (in_v2.take 32)) 32 [0, 0, 0, 0, 0, 0, 0, 0] = in_st q M 0 (in_v2.take 40) := in_st_app q (in_v2.take 32) [0, 0, 0, 0, 0, 0, 0, 0] M 0
    show (in_st q (in_st q (in_st q (in_st q (in_st q M 0 (in_v2.take 8)) 8 [0, 0, 0, 0, 0, 0, 0, 0]) 16 [0, 0, 0, 0, 0, 0, 0, 0]) 24 [0, 0, 0, 0, 0, 0, 0, 0]) 32 [0, 0, 0, 0, 0, 0, 0, 0]) = in_st q M 0 (in_v2.take 40)
    rw [e1, e2, e3, e4]
  rw [e]
theorem in_s3 {q : Nat} {M : am_M} (h : am_len M q = 40) : fX10_init_487 53 q 53 M = fX10_init_684 53 q 53 (in_st q M 0 in_v3) := by
  rw [in_c487 h, in_c524 (by simp only [in_st_len]; exact h), in_c564 (by simp only [in_st_len]; exact h), in_c604 (by simp only [in_st_len]; exact h), in_c644 (by simp only [in_st_len]; exact h)]
  have e : (in_st q (in_st q (in_st q (in_st q (in_st q M 0 [3, 10, 6, 15, 4, 3, 0, 0]) 8 [0, 0, 0, 0, 0, 0, 0, 0]) 16 [0, 0, 0, 0, 0, 0, 0, 0]) 24 [0, 0, 0, 0, 0, 0, 0, 0]) 32 [0, 0, 0, 0, 0, 0, 0, 0]) = in_st q M 0 in_v3 := by
    have e1 : in_st q (in_st q M 0 (in_v3.take 8)) 8 [0, 0, 0, 0, 0, 0, 0, 0] = in_st q M 0 (in_v3.take 16) := in_st_app q (in_v3.take 8) [0, 0, 0, 0, 0, 0, 0, 0] M 0
    have e2 : in_st q (in_st q M 0 (in_v3.take 16)) 16 [0, 0, 0, 0, 0, 0, 0, 0] = in_st q M 0 (in_v3.take 24) := in_st_app q (in_v3.take 16) [0, 0, 0, 0, 0, 0, 0, 0] M 0
    have e3 : in_st q (in_st q M 0 (in_v3.take 24)) 24 [0, 0, 0, 0, 0, 0, 0, 0] = in_st q M 0 (in_v3.take 32) := in_st_app q (in_v3.take 24) [0, 0, 0, 0, 0, 0, 0, 0] M 0
    have e4 : in_st q (in_st q M 0 (in_v3.take 32)) 32 [0, 0, 0, 0, 0, 0, 0, 0] = in_st q M 0 (in_v3.take 40) := in_st_app q (in_v3.take 32) [0, 0, 0, 0, 0, 0, 0, 0] M 0
    show (in_st q (in_st q (in_st q (in_st q (in_st q M 0 (in_v3.take 8)) 8 [0, 0, 0, 0, 0, 0, 0, 0]) 16 [0, 0, 0, 0, 0, 0, 0, 0]) 24 [0, 0, 0, 0, 0, 0, 0, 0]) 32 [0, 0, 0, 0, 0, 0, 0, 0]) = in_st q M 0 (in_v3.take 40)
    rw [e1, e2, e3, e4]
  rw [e]
