/-! tile -/
def ps_ptl (s : ps_S) (a b i : Nat) : Bool := decide (ps_pk s i / 4 ^ (s.1 0 - a) = b)
theorem px_pointsIn {s : ps_S} {pl : Nat} {M : am_M} (ho : ps_ok s) (hX : ps_X s pl M) {a b : Nat} (ha : a ≤ s.1 0) (hb : b < 4 ^ a) : fX5_pointsIn pl (nI a) (nI b) M = some (nI (ps_ct (ps_ptl s a b) 0 (s.1 5)), M) := by
  obtain ⟨o1, o2, o3, -, -, -, h5, -⟩ := id ho
  obtain ⟨p1, p2, p3, p4, p5, p6, p7, p8, p9, p10, p11, p12, p13, p14, p15, p16, p17, p18, p19⟩ := hX.pl
  have g6 := hX.2.2.2.2.2.2.2.2.2.2.2.1
  have hp := nz_p4 (show a ≤ 6 by omega)
  exact am_loop_inv (f := fX5_pointsIn_5) (fun i st => st = (pl, nI a, nI b, nI (ps_ct (ps_ptl s a b) 0 i), nI i, M)) (fun r => r = some (nI (ps_ct (ps_ptl s a b) 0 (s.1 5)), M)) (s.1 5)
    (fun i st k hi e => by
      subst e
      refine Or.inl ⟨_, rfl, ?_⟩
      have b1 := ps_pk_lt ho i
      have b2 := Nat.div_le_self (ps_pk s i) (4 ^ (s.1 0 - a))
      unfold fX5_pointsIn_5 fX5_pointsIn_35
      simp only [p9, am_bs, g6, nm_le (show s.1 5 < 2147483648 by omega) (show i < 2147483648 by omega), show (s.1 5 ≤ i) = False from eq_false (by omega), if_false, px_pkey ho hX hi, px_around o2 ha (show ps_pk s i < 2147483648 by omega) p4, nm_eq (show ps_pk s i / 4 ^ (s.1 0 - a) < 2147483648 by omega) (show b < 2147483648 by omega), nI_1]
      rw [ps_ct, Nat.zero_add]
      unfold ps_ptl
      by_cases c : ps_pk s i / 4 ^ (s.1 0 - a) = b
      · rw [if_pos c, if_pos (decide_eq_true c)]
      · rw [if_neg c, if_neg (by rw [decide_eq_true_iff]; exact c)]; rfl)
    (fun st k e => by
      subst e
      unfold fX5_pointsIn_5
      simp only [p9, am_bs, g6, Int32.le_refl, if_true])
    100000 0 (pl, nI a, nI b, nI 0, nI 0, M) (Nat.zero_le _) (by omega) rfl
theorem pm_pointsIn {s : ps_S} {M : am_M} (ho : ps_ok s) (hM : ps_M s M) {a b : Nat} (ha : a ≤ s.1 0) (hb : b < 4 ^ a) : fX10_pointsIn 53 (nI a) (nI b) M = some (nI (ps_ct (ps_ptl s a b) 0 (s.1 5)), M) := by
  obtain ⟨o1, o2, o3, -, -, -, h5, -⟩ := id ho
  obtain ⟨r7, r8, -, -, -, -, -, -, l55, l56, -⟩ := hM.r
  obtain ⟨m1, m2, m3, m4, m5, m6, m7, m8, m9, m10, m11, m12, m13, m14⟩ := id hM
  have hp := nz_p4 (show a ≤ 6 by omega)
  have hz := nz_p4 (show s.1 0 - a ≤ 6 by omega)
  exact am_loop_inv (f := fX10_pointsIn_5) (fun i st => st = (53, nI a, nI b, nI (ps_ct (ps_ptl s a b) 0 i), nI i, M)) (fun r => r = some (nI (ps_ct (ps_ptl s a b) 0 (s.1 5)), M)) (s.1 5)
    (fun i st k hi e => by
      subst e
      refine Or.inl ⟨_, rfl, ?_⟩
      have b1 := ps_pk_lt ho i
      have b2 := Nat.div_le_self (ps_pk s i) (4 ^ (s.1 0 - a))
      unfold fX10_pointsIn_5 fX10_pointsIn_48
      simp only [m8, nm_le (show s.1 5 < 2147483648 by omega) (show i < 2147483648 by omega), show (s.1 5 ≤ i) = False from eq_false (by omega), if_false, r7, r8, am_bs, l55, l56, nm_cl (show i < 2147483648 by omega), am_ixc (show i < 40 by omega) (show 40 < 2147483648 by decide), (m12 i hi).1, (m12 i hi).2, pm_pkey ho hM hi, pm_size o2 ha m3, nz_eq0 (show 4 ^ (s.1 0 - a) < 2147483648 by omega), show (4 ^ (s.1 0 - a) = 0) = False from eq_false (by omega), nm_div (show ps_pk s i < 2147483648 by omega) hz.1 (show 4 ^ (s.1 0 - a) < 2147483648 by omega), nm_eq (show ps_pk s i / 4 ^ (s.1 0 - a) < 2147483648 by omega) (show b < 2147483648 by omega), nI_1, nz_p0]
      rw [ps_ct, Nat.zero_add]
      unfold ps_ptl
      by_cases c : ps_pk s i / 4 ^ (s.1 0 - a) = b
      · rw [if_pos c, if_pos (decide_eq_true c)]
      · rw [if_neg c, if_neg (by rw [decide_eq_true_iff]; exact c)]; rfl)
    (fun st k e => by
      subst e
      unfold fX10_pointsIn_5
      simp only [m8, Int32.le_refl, if_true])
    100000 0 (53, nI a, nI b, nI 0, nI 0, M) (Nat.zero_le _) (by omega) rfl
def ps_tl (s : ps_S) (a b v : Nat) : Nat := if v = 0 then (cv_p (s.1 1) a 0 0 0 b).1 * 2 ^ (s.1 0 - a) else if v = 1 then (cv_p (s.1 1) a 0 0 0 b).2 * 2 ^ (s.1 0 - a) else if v = 2 then 2 ^ (s.1 0 - a) else if v = 3 then b * 4 ^ (s.1 0 - a) else if v = 4 then b * 4 ^ (s.1 0 - a) + 4 ^ (s.1 0 - a) - 1 else if v = 5 then ps_ct (ps_sk s) (b * 4 ^ (s.1 0 - a)) (4 ^ (s.1 0 - a)) else ps_ct (ps_ptl s a b) 0 (s.1 5)
theorem nz_side {D l : Nat} (hD : D ≤ 6) (hl : l ≤ D) : (1 : Int32) <<< ((nI D - nI l) &&& 31) = nI (2 ^ (D - l)) := by
  rw [nm_sub hl, nm_1, nm_31, nm_shl1 (by omega)]
theorem px_tile {s : ps_S} (ho : ps_ok s) {a b v : Nat} (ha : a ≤ s.1 0) (hb : b < 4 ^ a) (ht : ps_tile s (nI a) (nI b)) (hv : v < 7) : ps_ox (fX9_tile 0 (nI a) (nI b) (nI v)) s (nI (ps_tl s a b v)) s := by
  intro pl M hX
  obtain ⟨o1, o2, o3, -, -, -, h5, -⟩ := id ho
  obtain ⟨p1, p2, p3, p4, p5, p6, p7, p8, p9, p10, p11, p12, p13, p14, p15, p16, p17, p18, p19⟩ := hX.pl
  have hp := nz_p4 (show a ≤ 6 by omega)
  have hz := nz_p4 (show s.1 0 - a ≤ 6 by omega)
  have hm : 4 ^ a * 4 ^ (s.1 0 - a) = 4 ^ s.1 0 := by rw [← Nat.pow_add, show a + (s.1 0 - a) = s.1 0 by omega]
  have hD := nz_p4 o2
  have hup : (b + 1) * 4 ^ (s.1 0 - a) ≤ 4 ^ a * 4 ^ (s.1 0 - a) := Nat.mul_le_mul_right _ hb
  rw [hm, Nat.succ_mul] at hup
  have c1 : (nI v < (0 : Int32)) = False := nz_lt0 (by omega)
  have c2 : (nI v ≤ (6 : Int32)) = True := by rw [nm_6, nm_le (by omega) (by decide)]; exact eq_true (by omega)
  have q1 := cv_p64 (c := s.1 1) (show a ≤ 6 by omega) b
  have hpl : fX1_placeOf (nI a) (nI (s.1 1)) (nI b) M = _ := px_placeOf o3 (show a ≤ 6 by omega) (show b < 4096 by omega) M
  have h0 := px_half0 q1.1 q1.2.1 M
  have h1 := px_half1 q1.1 q1.2.1 M
  rw [show (0 : Int32) = nI 0 from rfl] at h0
  rw [show (1 : Int32) = nI 1 from rfl] at h1
  unfold ps_tl
  by_cases c5 : v = 5
  · subst c5
    obtain ⟨T, t1, t2, t3, t4⟩ := px_refresh ho hX
    obtain ⟨⟨kq, -⟩, k1, -, -, q2, -⟩ := t2.ks t4
    obtain ⟨-, u2, -, -, -, -, -, u8, -⟩ := t2.pl
    have kc := ks_count kq k1 (e := s.1 0 - a) (t := b) (by omega) (by omega)
    refine ⟨pl, T, ?_, t2, t3⟩
    unfold fX9_tile
    simp only [p2, am_bs, px_tile_yes ho p4 ht, nm_1f, if_false, c1, c2, if_true, px_size o2 ha p4, show (nI 5 = (0 : Int32)) = False from eq_false (by decide), show (nI 5 = (1 : Int32)) = False from eq_false (by decide), show (nI 5 = (2 : Int32)) = False from eq_false (by decide), show (nI 5 = (3 : Int32)) = False from eq_false (by decide), show (nI 5 = (4 : Int32)) = False from eq_false (by decide), show (nI 5 = (5 : Int32)) = True from eq_true rfl, p8, t1, u8, q2, pk_mul, kc, show ((5 : Nat) = 0) = False from eq_false (by decide), show ((5 : Nat) = 1) = False from eq_false (by decide), show ((5 : Nat) = 2) = False from eq_false (by decide), show ((5 : Nat) = 3) = False from eq_false (by decide), show ((5 : Nat) = 4) = False from eq_false (by decide)]
  · refine ⟨pl, M, ?_, hX, am_fx.rf M⟩
    unfold fX9_tile
    rcases (show v = 0 ∨ v = 1 ∨ v = 2 ∨ v = 3 ∨ v = 4 ∨ v = 6 by omega) with rfl | rfl | rfl | rfl | rfl | rfl
    · simp only [p2, am_bs, px_tile_yes ho p4 ht, nm_1f, if_false, c1, c2, if_true, px_size o2 ha p4, show (nI 0 = (0 : Int32)) = True from eq_true rfl, p4, p5, hpl, h0, nz_side o2 ha, pk_mul]
    · simp only [p2, am_bs, px_tile_yes ho p4 ht, nm_1f, if_false, c1, c2, if_true, px_size o2 ha p4, show (nI 1 = (0 : Int32)) = False from eq_false (by decide), show (nI 1 = (1 : Int32)) = True from eq_true rfl, p4, p5, hpl, h1, nz_side o2 ha, pk_mul, show ((1 : Nat) = 0) = False from eq_false (by decide)]
    · simp only [p2, am_bs, px_tile_yes ho p4 ht, nm_1f, if_false, c1, c2, if_true, px_size o2 ha p4, show (nI 2 = (0 : Int32)) = False from eq_false (by decide), show (nI 2 = (1 : Int32)) = False from eq_false (by decide), show (nI 2 = (2 : Int32)) = True from eq_true rfl, p4, nz_side o2 ha, show ((2 : Nat) = 0) = False from eq_false (by decide), show ((2 : Nat) = 1) = False from eq_false (by decide)]
    · simp only [p2, am_bs, px_tile_yes ho p4 ht, nm_1f, if_false, c1, c2, if_true, px_size o2 ha p4, show (nI 3 = (0 : Int32)) = False from eq_false (by decide), show (nI 3 = (1 : Int32)) = False from eq_false (by decide), show (nI 3 = (2 : Int32)) = False from eq_false (by decide), show (nI 3 = (3 : Int32)) = True from eq_true rfl, pk_mul, show ((3 : Nat) = 0) = False from eq_false (by decide), show ((3 : Nat) = 1) = False from eq_false (by decide), show ((3 : Nat) = 2) = False from eq_false (by decide)]
    · have e4 : nI (b * 4 ^ (s.1 0 - a) + 4 ^ (s.1 0 - a)) - 1 = nI (b * 4 ^ (s.1 0 - a) + 4 ^ (s.1 0 - a) - 1) := nm_sub (b := 1) (by omega)
      simp only [p2, am_bs, px_tile_yes ho p4 ht, nm_1f, if_false, c1, c2, if_true, px_size o2 ha p4, show (nI 4 = (0 : Int32)) = False from eq_false (by decide), show (nI 4 = (1 : Int32)) = False from eq_false (by decide), show (nI 4 = (2 : Int32)) = False from eq_false (by decide), show (nI 4 = (3 : Int32)) = False from eq_false (by decide), show (nI 4 = (4 : Int32)) = True from eq_true rfl, pk_mul, nI_add, e4, show ((4 : Nat) = 0) = False from eq_false (by decide), show ((4 : Nat) = 1) = False from eq_false (by decide), show ((4 : Nat) = 2) = False from eq_false (by decide), show ((4 : Nat) = 3) = False from eq_false (by decide)]
    · simp only [p2, am_bs, px_tile_yes ho p4 ht, nm_1f, if_false, c1, c2, if_true, px_size o2 ha p4, show (nI 6 = (0 : Int32)) = False from eq_false (by decide), show (nI 6 = (1 : Int32)) = False from eq_false (by decide), show (nI 6 = (2 : Int32)) = False from eq_false (by decide), show (nI 6 = (3 : Int32)) = False from eq_false (by decide), show (nI 6 = (4 : Int32)) = False from eq_false (by decide), show (nI 6 = (5 : Int32)) = False from eq_false (by decide), px_pointsIn ho hX ha hb, show ((6 : Nat) = 0) = False from eq_false (by decide), show ((6 : Nat) = 1) = False from eq_false (by decide), show ((6 : Nat) = 2) = False from eq_false (by decide), show ((6 : Nat) = 3) = False from eq_false (by decide), show ((6 : Nat) = 4) = False from eq_false (by decide), show ((6 : Nat) = 5) = False from eq_false (by decide)]
theorem pm_tile1 {s : ps_S} (ho : ps_ok s) {a b v : Nat} (ha : a ≤ s.1 0) (hb : b < 4 ^ a) (ht : ps_tile s (nI a) (nI b)) (hv : v < 7) : ps_om (fX10_tile 53 (nI a) (nI b) (nI v)) s (nI (ps_tl s a b v)) s := by
  intro M hM
  obtain ⟨o1, o2, o3, -, -, -, h5, -⟩ := id ho
  have hp := nz_p4 (show a ≤ 6 by omega)
  have hz := nz_p4 (show s.1 0 - a ≤ 6 by omega)
  have hs := nz_p2 (show s.1 0 - a ≤ 6 by omega)
  have hm : 4 ^ a * 4 ^ (s.1 0 - a) = 4 ^ s.1 0 := by rw [← Nat.pow_add, show a + (s.1 0 - a) = s.1 0 by omega]
  have hD := nz_p4 o2
  have hup : (b + 1) * 4 ^ (s.1 0 - a) ≤ 4 ^ a * 4 ^ (s.1 0 - a) := Nat.mul_le_mul_right _ hb
  rw [hm, Nat.succ_mul] at hup
  have in6 : fX10_isIn (nI v) 0 6 M = some (if 0 ≤ nI v ∧ nI v < nI 7 then 1 else 0, M) := pm_in (n := 6) (by decide) (nI v) M
  have hv2 : 0 ≤ nI v ∧ nI v < nI 7 := ⟨nI_pos' (by omega), by rw [nm_lt (by omega) (by decide)]; exact hv⟩
  have pre := cv_p_pre (s.1 1) (l := a) (j := s.1 0 - a) hb
  rw [show a + (s.1 0 - a) = s.1 0 by omega] at pre
  have q1 := cv_p64 (c := s.1 1) o2 (b * 4 ^ (s.1 0 - a))
  have E1 := pm_setCell (a := 53) (g := b * 4 ^ (s.1 0 - a)) o3 o2 hM.2.2.1 hM.2.2.2.1 (by omega)
  have R1 := ((ps_R.rf hM).pI (k := 53) (j := 19) (by omega) (nI (cv_p (s.1 1) (s.1 0) 0 0 0 (b * 4 ^ (s.1 0 - a))).1)).pI (k := 53) (j := 20) (by omega) (nI (cv_p (s.1 1) (s.1 0) 0 0 0 (b * 4 ^ (s.1 0 - a))).2)
  have a1 : (am_pI (am_pI M 53 19 (nI (cv_p (s.1 1) (s.1 0) 0 0 0 (b * 4 ^ (s.1 0 - a))).1)) 53 20 (nI (cv_p (s.1 1) (s.1 0) 0 0 0 (b * 4 ^ (s.1 0 - a))).2)).1 53 19 = nI (cv_p (s.1 1) (s.1 0) 0 0 0 (b * 4 ^ (s.1 0 - a))).1 := by rw [am_pI_1, if_neg (by omega), am_pI_1, if_pos ⟨rfl, rfl⟩]
  have a2 : (am_pI (am_pI M 53 19 (nI (cv_p (s.1 1) (s.1 0) 0 0 0 (b * 4 ^ (s.1 0 - a))).1)) 53 20 (nI (cv_p (s.1 1) (s.1 0) 0 0 0 (b * 4 ^ (s.1 0 - a))).2)).1 53 20 = nI (cv_p (s.1 1) (s.1 0) 0 0 0 (b * 4 ^ (s.1 0 - a))).2 := by rw [am_pI_1, if_pos ⟨rfl, rfl⟩]
  generalize am_pI (am_pI M 53 19 (nI (cv_p (s.1 1) (s.1 0) 0 0 0 (b * 4 ^ (s.1 0 - a))).1)) 53 20 (nI (cv_p (s.1 1) (s.1 0) 0 0 0 (b * 4 ^ (s.1 0 - a))).2) = T at R1 E1 a1 a2
  generalize cv_p (s.1 1) (s.1 0) 0 0 0 (b * 4 ^ (s.1 0 - a)) = P at *
  generalize hPP : cv_p (s.1 1) a 0 0 0 b = PP at *
  have d0 := R1.1.2.2.1
  have hsd := pm_sideOf o2 ha d0
  have hsz := pm_size o2 ha d0
  have z1 : (nI (2 ^ (s.1 0 - a)) = 0) = False := by rw [nz_eq0 (by omega)]; exact eq_false (by omega)
  have v1 := nm_div (a := P.1) (d := 2 ^ (s.1 0 - a)) (by omega) hs.1 (by omega)
  have v2 := nm_div (a := P.2) (d := 2 ^ (s.1 0 - a)) (by omega) hs.1 (by omega)
  rw [pre.1] at v1
  rw [pre.2] at v2
  unfold ps_tl
  rw [hPP]
  by_cases c5 : v = 5
  · subst c5
    obtain ⟨U, t1, t2, t3⟩ := pm_setShape ho R1.1
    obtain ⟨-, -, r21, -, -, -, -, -, -, -, l60, -⟩ := t2.1.r
    refine ⟨U, ?_, t2.1, R1.2.tr t2.2⟩
    unfold fX10_tile
    simp only [(pm_tile ho hM.2.2.1 (nI a) (nI b)).1 ht, am_bs, nm_1f, if_false, in6, hv2, and_self, if_true, pm_size o2 ha hM.2.2.1, pk_mul, E1, show (nI 5 = (0 : Int32)) = False from eq_false (by decide), show (nI 5 = (1 : Int32)) = False from eq_false (by decide), show (nI 5 = (2 : Int32)) = False from eq_false (by decide), show (nI 5 = (3 : Int32)) = False from eq_false (by decide), show (nI 5 = (4 : Int32)) = False from eq_false (by decide), show (nI 5 = (5 : Int32)) = True from eq_true rfl, t1, pm_shapeIn o2 t2.1.2.2.1 r21 l60 t3 ha hb, show ((5 : Nat) = 0) = False from eq_false (by decide), show ((5 : Nat) = 1) = False from eq_false (by decide), show ((5 : Nat) = 2) = False from eq_false (by decide), show ((5 : Nat) = 3) = False from eq_false (by decide), show ((5 : Nat) = 4) = False from eq_false (by decide)]
  · refine ⟨T, ?_, R1.1, R1.2⟩
    unfold fX10_tile
    rcases (show v = 0 ∨ v = 1 ∨ v = 2 ∨ v = 3 ∨ v = 4 ∨ v = 6 by omega) with rfl | rfl | rfl | rfl | rfl | rfl
    · simp only [(pm_tile ho hM.2.2.1 (nI a) (nI b)).1 ht, am_bs, nm_1f, if_false, in6, hv2, and_self, if_true, pm_size o2 ha hM.2.2.1, pk_mul, E1, show (nI 0 = (0 : Int32)) = True from eq_true rfl, hsd, z1, a1, v1]
    · simp only [(pm_tile ho hM.2.2.1 (nI a) (nI b)).1 ht, am_bs, nm_1f, if_false, in6, hv2, and_self, if_true, pm_size o2 ha hM.2.2.1, pk_mul, E1, show (nI 1 = (0 : Int32)) = False from eq_false (by decide), show (nI 1 = (1 : Int32)) = True from eq_true rfl, hsd, z1, a2, v2, show ((1 : Nat) = 0) = False from eq_false (by decide)]
    · simp only [(pm_tile ho hM.2.2.1 (nI a) (nI b)).1 ht, am_bs, nm_1f, if_false, in6, hv2, and_self, if_true, pm_size o2 ha hM.2.2.1, pk_mul, E1, show (nI 2 = (0 : Int32)) = False from eq_false (by decide), show (nI 2 = (1 : Int32)) = False from eq_false (by decide), show (nI 2 = (2 : Int32)) = True from eq_true rfl, hsd, show ((2 : Nat) = 0) = False from eq_false (by decide), show ((2 : Nat) = 1) = False from eq_false (by decide)]
    · simp only [(pm_tile ho hM.2.2.1 (nI a) (nI b)).1 ht, am_bs, nm_1f, if_false, in6, hv2, and_self, if_true, pm_size o2 ha hM.2.2.1, pk_mul, E1, show (nI 3 = (0 : Int32)) = False from eq_false (by decide), show (nI 3 = (1 : Int32)) = False from eq_false (by decide), show (nI 3 = (2 : Int32)) = False from eq_false (by decide), show (nI 3 = (3 : Int32)) = True from eq_true rfl, hsz, show ((3 : Nat) = 0) = False from eq_false (by decide), show ((3 : Nat) = 1) = False from eq_false (by decide), show ((3 : Nat) = 2) = False from eq_false (by decide)]
    · have e4 : nI (b * 4 ^ (s.1 0 - a) + 4 ^ (s.1 0 - a)) - 1 = nI (b * 4 ^ (s.1 0 - a) + 4 ^ (s.1 0 - a) - 1) := nm_sub (b := 1) (by omega)
      simp only [(pm_tile ho hM.2.2.1 (nI a) (nI b)).1 ht, am_bs, nm_1f, if_false, in6, hv2, and_self, if_true, pm_size o2 ha hM.2.2.1, pk_mul, E1, show (nI 4 = (0 : Int32)) = False from eq_false (by decide), show (nI 4 = (1 : Int32)) = False from eq_false (by decide), show (nI 4 = (2 : Int32)) = False from eq_false (by decide), show (nI 4 = (3 : Int32)) = False from eq_false (by decide), show (nI 4 = (4 : Int32)) = True from eq_true rfl, hsz, nI_1, Nat.succ_mul, e4, show ((4 : Nat) = 0) = False from eq_false (by decide), show ((4 : Nat) = 1) = False from eq_false (by decide), show ((4 : Nat) = 2) = False from eq_false (by decide), show ((4 : Nat) = 3) = False from eq_false (by decide)]
    · simp only [(pm_tile ho hM.2.2.1 (nI a) (nI b)).1 ht, am_bs, nm_1f, if_false, in6, hv2, and_self, if_true, pm_size o2 ha hM.2.2.1, pk_mul, E1, show (nI 6 = (0 : Int32)) = False from eq_false (by decide), show (nI 6 = (1 : Int32)) = False from eq_false (by decide), show (nI 6 = (2 : Int32)) = False from eq_false (by decide), show (nI 6 = (3 : Int32)) = False from eq_false (by decide), show (nI 6 = (4 : Int32)) = False from eq_false (by decide), show (nI 6 = (5 : Int32)) = False from eq_false (by decide), pm_pointsIn ho R1.1 ha hb, show ((6 : Nat) = 0) = False from eq_false (by decide), show ((6 : Nat) = 1) = False from eq_false (by decide), show ((6 : Nat) = 2) = False from eq_false (by decide), show ((6 : Nat) = 3) = False from eq_false (by decide), show ((6 : Nat) = 4) = False from eq_false (by decide), show ((6 : Nat) = 5) = False from eq_false (by decide)]
theorem op_tile (l k w : Int32) : ps_op (fX9_tile 0 l k w) (fX10_tile 53 l k w) := by
  intro s ho
  by_cases hT : ps_tile s l k
  · obtain ⟨a, b, ha, hb, rfl, rfl⟩ := id hT
    by_cases hW : 0 ≤ w ∧ w < nI 7
    · obtain ⟨v, hv, rfl⟩ := nm_of (by decide) hW
      exact ⟨_, s, ho, px_tile ho ha hb hT hv, pm_tile1 ho ha hb hT hv⟩
    · have hW2 : w < 0 ∨ ¬ w ≤ 6 := by
        rcases nm_cut w 7 (by decide) with h | h | ⟨j, hj, rfl⟩
        · exact Or.inl h
        · exact Or.inr (nm_big (by decide) h (n := 6) (by decide)).2.2.2.1
        · exact absurd ⟨nI_pos' (by omega), by rw [nm_lt (by omega) (by decide)]; exact hj⟩ hW
      refine ⟨-1, s, ho, ps_ox.same (fun pl M hX => ?_), ps_om.same (fun M hM => ?_)⟩
      · obtain ⟨p1, p2, p3, p4, p5, p6, p7, p8, p9, p10, p11, p12, p13, p14, p15, p16, p17, p18, p19⟩ := hX.pl
        unfold fX9_tile
        simp only [p2, am_bs, px_tile_yes ho p4 hT, nm_1f, if_false]
        rcases hW2 with c | c
        · rw [if_pos c]
        · by_cases c0 : w < 0
          · rw [if_pos c0]
          · rw [if_neg c0, if_neg c]
      · have in6 : fX10_isIn w 0 6 M = some (if 0 ≤ w ∧ w < nI 7 then 1 else 0, M) := pm_in (n := 6) (by decide) w M
        unfold fX10_tile
        simp only [(pm_tile ho hM.2.2.1 (nI a) (nI b)).1 hT, am_bs, nm_1f, if_false, in6, hW, if_true]
  · refine ⟨-1, s, ho, ps_ox.same (fun pl M hX => ?_), ps_om.same (fun M hM => ?_)⟩
    · obtain ⟨p1, p2, p3, p4, p5, p6, p7, p8, p9, p10, p11, p12, p13, p14, p15, p16, p17, p18, p19⟩ := hX.pl
      unfold fX9_tile
      simp only [p2, am_bs, px_tile_no ho p4 hT, if_true]
    · unfold fX10_tile
      simp only [(pm_tile ho hM.2.2.1 l k).2 hT, am_bs, if_true]
