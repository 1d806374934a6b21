/-! search, found -/
theorem px_pkey {s : ps_S} {pl : Nat} {M : am_M} (ho : ps_ok s) (hX : ps_X s pl M) {i : Nat} (hi : i < s.1 5) : fX5_pointKey pl (nI i) M = some (nI (ps_pk s i), M) := by
  obtain ⟨o1, o2, o3, -, -, -, o7, -, -, -, o11, -⟩ := id ho
  obtain ⟨p1, p2, p3, p4, p5, p6, p7, p8, p9, p10, p11, p12, p13, p14, p15, p16, p17, p18, p19⟩ := hX.pl
  obtain ⟨-, -, -, -, -, -, -, -, -, -, -, g6, g7, -⟩ := id hX
  have e : fX1_keyOf (nI (s.1 0)) (nI (s.1 1)) (nI (s.2 6 i)) (nI (s.2 7 i)) M = some (nI (ps_pk s i), M) := px_keyOf o3 o2 (o11 i hi).1 (o11 i hi).2 M
  unfold fX5_pointKey
  simp only [p9, am_bs, p11, p12, p15, p16, nm_cl (show i < 2147483648 by omega), am_ixc (show i < 40 by omega) (show 40 < 2147483648 by decide), if_false, p4, p5, (g7 i hi).1, (g7 i hi).2, e]
def ps_pin (s : ps_S) (i : Nat) : Bool := ps_in s (s.2 6 i) (s.2 7 i)
theorem px_pin {s : ps_S} {pl : Nat} {M : am_M} (ho : ps_ok s) (hX : ps_X s pl M) {i : Nat} (hi : i < s.1 5) : fX5_inShape pl (nI (s.2 6 i)) (nI (s.2 7 i)) M = some (if ps_pin s i = true then 1 else 0, M) := by
  have h := nz_p2 ho.2.1
  have h2 := ho.2.2.2.2.2.2.2.2.2.2.1 i hi
  exact px_in ho hX (by omega) (by omega)
theorem pm_pin {s : ps_S} {M : am_M} (ho : ps_ok s) (hM : ps_M s M) {i : Nat} (hi : i < s.1 5) : fX10_isFound 53 (nI i) M = some (if ps_pin s i = true then 1 else 0, M) := by
  have h := nz_p2 ho.2.1
  have h2 := ho.2.2.2.2.2.2.2.2.2.2.1 i hi
  have h5 := ho.2.2.2.2.2.2.1
  obtain ⟨r7, r8, -, -, -, -, -, -, l55, l56, -⟩ := hM.r
  obtain ⟨m1, m2, m3, m4, m5, m6, m7, m8, m9, m10, m11, m12, m13, m14⟩ := id hM
  have e : fX10_isShape 53 (nI (s.2 6 i)) (nI (s.2 7 i)) M = some (if ps_pin s i = true then 1 else 0, M) := pm_isShape ho hM (by omega) (by omega)
  unfold fX10_isFound
  simp only [r7, r8, am_bs, l55, l56, nm_cl (show i < 2147483648 by omega), am_ixc (show i < 40 by omega) (show 40 < 2147483648 by decide), if_false, (m12 i hi).1, (m12 i hi).2, e, nz_ifa]
theorem px_pinS {s : ps_S} {pl : Nat} {M : am_M} (ho : ps_ok s) (hX : ps_X s pl M) : fX5_pointsInShape pl M = some (nI (ps_ct (ps_pin s) 0 (s.1 5)), M) := by
  have h5 := ho.2.2.2.2.2.2.1
  obtain ⟨p1, p2, p3, p4, p5, p6, p7, p8, p9, p10, p11, p12, p13, p14, p15, p16, p17, p18, p19⟩ := hX.pl
  obtain ⟨-, -, -, -, -, -, -, -, -, -, -, g6, g7, -⟩ := id hX
  exact am_loop_inv (f := fX5_pointsInShape_4) (fun i st => st = (pl, nI (ps_ct (ps_pin s) 0 i), nI i, M)) (fun r => r = some (nI (ps_ct (ps_pin s) 0 (s.1 5)), M)) (s.1 5)
    (fun i st k hi e => by
      subst e
      refine Or.inl ⟨_, rfl, ?_⟩
      unfold fX5_pointsInShape_4 fX5_pointsInShape_43
      simp only [p9, am_bs, g6, nm_le (show s.1 5 < 2147483648 by omega) (show i < 2147483648 by omega), show (s.1 5 ≤ i) = False from eq_false (by omega), if_false, p11, p12, p15, p16, nm_cl (show i < 2147483648 by omega), am_ixc (show i < 40 by omega) (show 40 < 2147483648 by decide), (g7 i hi).1, (g7 i hi).2, px_pin ho hX hi, nm_if0, nI_1]
      rw [ps_ct, Nat.zero_add]
      cases ps_pin s i <;> rfl)
    (fun st k e => by
      subst e
      unfold fX5_pointsInShape_4
      simp only [p9, am_bs, g6, Int32.le_refl, if_true])
    100000 0 (pl, nI 0, nI 0, M) (Nat.zero_le _) (by omega) rfl
def ps_pco (s : ps_S) (i : Nat) : Bool := ps_cov s 0 (ps_pk s i)
theorem px_among {s : ps_S} {pl : Nat} {M : am_M} (ho : ps_ok s) (hX : ps_X s pl M) (hf : M.1 5 5 = nI 1) : fX5_pointsAmong pl 8 M = some (nI (ps_ct (ps_pco s) 0 (s.1 5)), M) := by
  have h5 := ho.2.2.2.2.2.2.1
  obtain ⟨p1, p2, p3, p4, p5, p6, p7, p8, p9, p10, p11, p12, p13, p14, p15, p16, p17, p18, p19⟩ := hX.pl
  have g6 := hX.2.2.2.2.2.2.2.2.2.2.2.1
  obtain ⟨⟨-, kq, -⟩, -, k2, -⟩ := hX.ks hf
  exact am_loop_inv (f := fX5_pointsAmong_4) (fun i st => st = (pl, 8, nI (ps_ct (ps_pco s) 0 i), nI i, M)) (fun r => r = some (nI (ps_ct (ps_pco s) 0 (s.1 5)), M)) (s.1 5)
    (fun i st k hi e => by
      subst e
      refine Or.inl ⟨_, rfl, ?_⟩
      unfold fX5_pointsAmong_4 fX5_pointsAmong_30
      simp only [p9, am_bs, g6, nm_le (show s.1 5 < 2147483648 by omega) (show i < 2147483648 by omega), show (s.1 5 ≤ i) = False from eq_false (by omega), if_false, px_pkey ho hX hi, ks_has kq k2 (ps_pk_lt ho i), nm_if0, nI_1]
      rw [ps_ct, Nat.zero_add]
      show (if ¬ ps_pco s i = true then _ else _) = _
      cases ps_pco s i <;> rfl)
    (fun st k e => by
      subst e
      unfold fX5_pointsAmong_4
      simp only [p9, am_bs, g6, Int32.le_refl, if_true])
    100000 0 (pl, 8, nI 0, nI 0, M) (Nat.zero_le _) (by omega) rfl
theorem op_search (a : Int32) : ps_op (fX9_search 0 a) (fX10_search 53 a) := by
  intro s ho
  obtain ⟨o1, o2, o3, -, -, -, h5, -⟩ := id ho
  by_cases hQ : a = 0 ∨ a = 1
  · obtain ⟨b, hb, rfl⟩ := nm_bits hQ
    have hb2 : b = 0 ∨ b = 1 := by omega
    refine ⟨nI (ps_ct (if b = 0 then ps_pco s else ps_pin s) 0 (s.1 5)), s, ho, fun pl M hX => ?_, fun M hM => ?_⟩
    · obtain ⟨p1, p2, p3, p4, p5, p6, p7, p8, p9, p10, p11, p12, p13, p14, p15, p16, p17, p18, p19⟩ := hX.pl
      have hbit : fX9_isBit (nI b) M = some (1, M) := by rw [px_bit, if_pos hQ]
      rcases hb2 with rfl | rfl
      · obtain ⟨T, t1, t2, t3, t4⟩ := px_refresh ho hX
        obtain ⟨-, u2, -, -, -, -, -, u8, -⟩ := t2.pl
        obtain ⟨-, -, -, -, -, q2, -⟩ := t2.ks t4
        refine ⟨pl, T, ?_, t2, t3⟩
        unfold fX9_search
        simp only [hbit, if_true, am_bs, nm_1f, if_false, show (nI 0 = (1 : Int32)) = False from eq_false (by decide), p8, p2, t1, u2, u8, q2, px_among ho t2 t4]
      · refine ⟨pl, M, ?_, hX, am_fx.rf M⟩
        unfold fX9_search
        simp only [hbit, if_true, am_bs, nm_1f, if_false, show (nI 1 = (1 : Int32)) = True from eq_true rfl, p2, px_pinS ho hX, show ((1 : Nat) = 0) = False from eq_false (by decide)]
    · obtain ⟨T, t1, t2, t3, t4⟩ := pm_setCover ho hM (w := 0) (by decide)
      obtain ⟨r7, r8, -, r22, -, -, -, -, l55, l56, -, l61, -⟩ := t2.1.r
      obtain ⟨m1, m2, m3, m4, m5, m6, m7, m8, m9, m10, m11, m12, m13, m14⟩ := id t2.1
      have hp4 := nz_p4 o2
      refine ⟨T, ?_, t2.1, t2.2⟩
      have L := am_loop_inv (f := fX10_search_20) (fun i st => st = (53, nI b, nI (ps_ct (if b = 0 then ps_pco s else ps_pin s) 0 i), nI i, T)) (fun r => r = some (nI (ps_ct (if b = 0 then ps_pco s else ps_pin s) 0 (s.1 5)), T)) (s.1 5)
        (fun i st k hi e => by
          subst e
          refine Or.inl ⟨_, rfl, ?_⟩
          have hk := cv_k_lt (s.1 1) (s.1 0) (s.2 6 i) (s.2 7 i)
          have hk2 : ps_pk s i < 4 ^ s.1 0 := hk
          have e4 := t4 _ hk2
          unfold fX10_search_20 fX10_search_70 fX10_search_83
          rcases hb2 with rfl | rfl
          · simp only [m8, nm_le (show s.1 5 < 2147483648 by omega) (show i < 2147483648 by omega), show (s.1 5 ≤ i) = False from eq_false (by omega), if_false, show (nI 0 = (0 : Int32)) = True from eq_true rfl, if_true, r22, r7, r8, am_bs, l55, l56, l61, nm_cl (show i < 2147483648 by omega), am_ixc (show i < 40 by omega) (show 40 < 2147483648 by decide), (m12 i hi).1, (m12 i hi).2, pm_pkey ho t2.1 hi, nm_cl (show ps_pk s i < 2147483648 by omega), am_ixc (show ps_pk s i < 4096 by omega) (show 4096 < 2147483648 by decide), e4, nI_1, nz_p0]
            rw [ps_ct, Nat.zero_add]
            show _ = k (53, nI 0, nI (_ + if ps_cov s 0 (ps_pk s i) = true then 1 else 0), nI (i + 1), T)
            cases ps_cov s 0 (ps_pk s i) <;> rfl
          · simp only [m8, nm_le (show s.1 5 < 2147483648 by omega) (show i < 2147483648 by omega), show (s.1 5 ≤ i) = False from eq_false (by omega), if_false, show (nI 1 = (0 : Int32)) = False from eq_false (by decide), show ((1 : Nat) = 0) = False from eq_false (by decide), pm_pin ho t2.1 hi, am_bs, nm_if0, nI_1, nz_p0]
            rw [ps_ct, Nat.zero_add]
            cases ps_pin s i <;> rfl)
        (fun st k e => by
          subst e
          unfold fX10_search_20
          simp only [m8, Int32.le_refl, if_true])
        100000 0 (53, nI b, nI 0, nI 0, T) (Nat.zero_le _) (by omega) rfl
      rw [← nm_0] at t1
      unfold fX10_search
      simp only [pm_bit, hQ, if_true, am_bs, nm_1f, if_false, t1]
      exact L
  · refine ⟨-1, s, ho, ps_ox.same (fun pl M hX => ?_), ps_om.same (fun M hM => ?_)⟩
    · unfold fX9_search
      simp only [px_bit, hQ, if_false, am_bs, if_true]
    · unfold fX10_search
      simp only [pm_bit, hQ, if_false, am_bs, if_true]
def ps_fd (s : ps_S) (o : Nat → Nat) (a : Int32) : Nat → Nat → Nat → Int32
  | 0, _, _ => -4
  | n + 1, u, c => if ps_pin s (o u) = true then (if nI c = a then nI (o u) else ps_fd s o a n (u + 1) (c + 1)) else ps_fd s o a n (u + 1) c
theorem px_fd {s : ps_S} {pl : Nat} {T : am_M} (ho : ps_ok s) (hX : ps_X s pl T) (hO : ps_ord s pl (s.1 5) T) {o : Nat → Nat} (hoo : ∀ u, u < s.1 5 → o u < s.1 5 ∧ ps_rk s (s.1 5) (o u) = u) (a : Int32) : ∀ (n u c N : Nat), u + n = s.1 5 → n < N → am_loop fX5_pointInShape_19 N (pl, a, nI c, nI u, T) = some (ps_fd s o a n u c, T)
  | 0, u, c, N + 1, hu, _ => by
    obtain ⟨p1, p2, p3, p4, p5, p6, p7, p8, p9, p10, p11, p12, p13, p14, p15, p16, p17, p18, p19⟩ := hX.pl
    have g6 := hX.2.2.2.2.2.2.2.2.2.2.2.1
    have e : u = s.1 5 := hu
    subst e
    show fX5_pointInShape_19 _ (pl, a, nI c, nI (s.1 5), T) = _
    unfold fX5_pointInShape_19
    simp only [p9, am_bs, g6, Int32.le_refl, if_true]
    rfl
  | n + 1, u, c, N + 1, hu, hN => by
    have h5 := ho.2.2.2.2.2.2.1
    obtain ⟨p1, p2, p3, p4, p5, p6, p7, p8, p9, p10, p11, p12, p13, p14, p15, p16, p17, p18, p19⟩ := hX.pl
    obtain ⟨-, -, -, -, -, -, -, -, -, -, -, g6, g7, -⟩ := id hX
    obtain ⟨w1, w2⟩ := hoo u (by omega)
    have e4 := hO.at w1
    rw [w2] at e4
    show fX5_pointInShape_19 (am_loop fX5_pointInShape_19 N) (pl, a, nI c, nI u, T) = _
    unfold fX5_pointInShape_19 fX5_pointInShape_79
    simp only [p9, am_bs, g6, nm_le (show s.1 5 < 2147483648 by omega) (show u < 2147483648 by omega), show (s.1 5 ≤ u) = False from eq_false (by omega), if_false, p13, p17, nm_cl (show u < 2147483648 by omega), am_ixc (show u < 40 by omega) (show 40 < 2147483648 by decide), e4, p11, p12, p15, p16, nm_cl (show o u < 2147483648 by omega), am_ixc (show o u < 40 by omega) (show 40 < 2147483648 by decide), (g7 _ w1).1, (g7 _ w1).2, px_pin ho hX w1, nm_if0, nI_1]
    rw [ps_fd]
    by_cases c1 : ps_pin s (o u) = true
    · rw [if_neg (not_not_intro c1), if_pos c1]
      by_cases c2 : nI c = a
      · rw [if_pos c2, if_pos c2]
      · rw [if_neg c2, if_neg c2]
        exact px_fd ho hX hO hoo a n (u + 1) (c + 1) N (by omega) (by omega)
    · rw [if_pos c1, if_neg c1]
      exact px_fd ho hX hO hoo a n (u + 1) c N (by omega) (by omega)
theorem pm_fd {s : ps_S} {M : am_M} (ho : ps_ok s) (hM : ps_M s M) {o : Nat → Nat} (hoo : ∀ u, u < s.1 5 → o u < s.1 5 ∧ ps_rk s (s.1 5) (o u) = u) (a : Int32) : ∀ (n u c N : Nat), u + n = s.1 5 → n < N → am_loop fX10_found_10 N (53, a, nI c, nI u, M) = some (ps_fd s o a n u c, M)
  | 0, u, c, N + 1, hu, _ => by
    have m8 := hM.2.2.2.2.2.2.2.1
    have e : u = s.1 5 := hu
    subst e
    show fX10_found_10 _ (53, a, nI c, nI (s.1 5), M) = _
    unfold fX10_found_10
    simp only [m8, Int32.le_refl, if_true]
    rfl
  | n + 1, u, c, N + 1, hu, hN => by
    have h5 := ho.2.2.2.2.2.2.1
    have m8 := hM.2.2.2.2.2.2.2.1
    obtain ⟨w1, w2⟩ := hoo u (by omega)
    have e4 := pm_ordAt ho hM w1
    rw [w2] at e4
    show fX10_found_10 (am_loop fX10_found_10 N) (53, a, nI c, nI u, M) = _
    unfold fX10_found_10 fX10_found_45
    simp only [m8, nm_le (show s.1 5 < 2147483648 by omega) (show u < 2147483648 by omega), show (s.1 5 ≤ u) = False from eq_false (by omega), if_false, e4, am_bs, pm_pin ho hM w1, nm_if0, nI_1]
    rw [ps_fd]
    by_cases c1 : ps_pin s (o u) = true
    · rw [if_neg (not_not_intro c1), if_pos c1]
      by_cases c2 : nI c = a
      · rw [if_pos c2, if_pos c2]
      · rw [if_neg c2, if_neg c2]
        exact pm_fd ho hM hoo a n (u + 1) (c + 1) N (by omega) (by omega)
    · rw [if_pos c1, if_neg c1]
      exact pm_fd ho hM hoo a n (u + 1) c N (by omega) (by omega)
theorem op_found (a : Int32) : ps_op (fX9_found 0 a) (fX10_found 53 a) := by
  intro s ho
  have h5 := ho.2.2.2.2.2.2.1
  by_cases h0 : 0 ≤ a
  · obtain ⟨o, hoo⟩ := ps_rk_sur s (s.1 5)
    refine ⟨ps_fd s o a (s.1 5) 0 0, s, ho, fun pl M hX => ?_, ps_om.same (fun M hM => ?_)⟩
    · obtain ⟨p1, p2, p3, p4, p5, p6, p7, p8, p9, p10, p11, p12, p13, p14, p15, p16, p17, p18, p19⟩ := hX.pl
      obtain ⟨T, t1, t2, t3⟩ := px_arrange ho hX
      obtain ⟨t4, t5⟩ := t2.X hX
      refine ⟨pl, T, ?_, t4, t5⟩
      have e := px_fd ho t4 t3 hoo a (s.1 5) 0 0 100000 (by omega) (by omega)
      rw [← nm_0] at e
      unfold fX9_found fX5_pointInShape
      simp only [h0, if_true, p2, am_bs, p9, p4, p5, t1, e]
    · have e := pm_fd ho hM hoo a (s.1 5) 0 0 100000 (by omega) (by omega)
      rw [← nm_0] at e
      unfold fX10_found
      simp only [h0, if_true, e]
  · refine ⟨-1, s, ho, ps_ox.same (fun pl M hX => ?_), ps_om.same (fun M hM => ?_)⟩
    · unfold fX9_found
      simp only [h0, if_false]
    · unfold fX10_found
      simp only [h0, if_false]
