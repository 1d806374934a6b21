/-! joined: the reference, the operation -/
theorem nz_m0 (a : Nat) {t : Nat} (h : t + 1 ≤ a) : nI (a - t) + (-1) = nI (a - (t + 1)) := by
  rw [nm_m1 (by omega)]; rfl
theorem pm_jin {s : ps_S} {T : am_M} {f : Nat → Bool} (hM : ps_M s T) {G R P v : Nat} (hG : G ≤ 4096) (h29 : T.1 53 29 = nI G) (hrow : ∀ i, i < G → T.1 65 i = nI (jn_a f i 4096)) (hv : v < 4096) (hR : R ≤ 4096) (k41 : (Nat × Int32 × Int32 × Int32 × am_M) → Option (Int32 × am_M)) : am_loop (fX10_joined_57 k41) 100000 (53, nI R, nI P, nI v, 0, T) = k41 (53, nI (R - min R (ps_ct (fun i => decide (jn_a f i 4096 = v)) 0 G)), nI (P + v * min R (ps_ct (fun i => decide (jn_a f i 4096 = v)) 0 G)), nI (v + 1), T) := by
  obtain ⟨-, -, -, -, -, -, -, r28, -, -, -, -, -, -, -, l65⟩ := hM.r
  exact am_loop_inv (f := fX10_joined_57 k41) (fun i st => st = (53, nI (R - min R (ps_ct (fun i => decide (jn_a f i 4096 = v)) 0 i)), nI (P + v * min R (ps_ct (fun i => decide (jn_a f i 4096 = v)) 0 i)), nI v, nI i, T)) (fun r => r = k41 (53, nI (R - min R (ps_ct (fun i => decide (jn_a f i 4096 = v)) 0 G)), nI (P + v * min R (ps_ct (fun i => decide (jn_a f i 4096 = v)) 0 G)), nI (v + 1), T)) G
    (fun i st kk hi e => by
      subst e
      have hm := ct_mono (fun i => decide (jn_a f i 4096 = v)) (show i ≤ G by omega)
      have hs := ct_s (fun i => decide (jn_a f i 4096 = v)) i
      have ha := jn_a_lt f i 4096
      generalize ps_ct (fun i => decide (jn_a f i 4096 = v)) 0 i = t at *
      generalize ps_ct (fun i => decide (jn_a f i 4096 = v)) 0 G = tG at *
      have e3 : (nI (R - min R t) ≤ (0 : Int32)) = (R ≤ t) := by
        rw [nm_0, nm_le (by omega) (by decide)]
        apply propext; omega
      unfold fX10_joined_57 fX10_joined_92 fX10_joined_98
      simp only [h29, nm_le (show G < 2147483648 by omega) (show i < 2147483648 by omega), show (G ≤ i) = False from eq_false (by omega), if_false, e3, r28, am_bs, l65, nm_cl (show i < 2147483648 by omega), am_ixc (show i < 4096 by omega) (show 4096 < 2147483648 by decide), hrow i hi, nm_eq (show jn_a f i 4096 < 2147483648 by omega) (show v < 2147483648 by omega), nI_1]
      by_cases c1 : R ≤ t
      · right
        rw [if_pos c1, show min R t = R by omega, show min R tG = R by omega]
      · left
        rw [if_neg c1]
        by_cases c2 : jn_a f i 4096 = v
        · refine ⟨_, rfl, ?_⟩
          rw [if_pos (decide_eq_true c2)] at hs
          rw [if_pos c2, hs, show min R t = t by omega, show min R (t + 1) = t + 1 by omega, nz_m0 R (by omega), nI_add, Nat.mul_succ, Nat.add_assoc]
        · refine ⟨_, rfl, ?_⟩
          rw [if_neg (by rw [decide_eq_true_iff]; exact c2), show t + 0 = t from rfl] at hs
          rw [if_neg c2, hs])
    (fun st kk e => by
      subst e
      unfold fX10_joined_57 fX10_joined_98
      simp only [h29, Int32.le_refl, if_true, nI_1])
    100000 0 (53, nI R, nI P, nI v, 0, T) (Nat.zero_le _) (by omega) (by
      show (53, nI R, nI P, nI v, 0, T) = (53, nI (R - min R 0), nI (P + v * min R 0), nI v, nI 0, T)
      rw [show min R 0 = 0 by omega, Nat.sub_zero, Nat.mul_zero, Nat.add_zero]
      rfl)
theorem jt_r_le (f : Nat → Bool) (g : Nat) : ∀ v, jt_r f g v ≤ 4096
  | 0 => by
    have := rn_le f 4096
    show rn_B f 4096 - g ≤ 4096
    omega
  | v + 1 => by
    have := jt_r_le f g v
    show jt_r f g v - _ ≤ 4096
    omega
theorem rn_z_in {f : Nat → Bool} {n q : Nat} (hn : ∀ u, n ≤ u → f u = false) (h : jn_g f q = true) : rn_z f q < n := by
  have h1 := (rn_b_f (jn_g_t.mp h).1).1
  have h2 := rn_z_le f q
  rcases Nat.lt_or_ge q n with c | c
  · omega
  · rw [hn q c] at h1; exact absurd h1 (by decide)
theorem pm_jout {s : ps_S} {T : am_M} {f : Nat → Bool} {g : Nat} (ho : ps_ok s) (hM : ps_M s T) (f0 : ∀ k, 4 ^ s.1 0 ≤ k → f k = false) (h29 : T.1 53 29 = nI (rn_B f 4096 - 1)) (hrow : ∀ i, i < rn_B f 4096 - 1 → T.1 65 i = nI (jn_a f i 4096)) : am_loop fX10_joined_41 100000 (53, nI (rn_B f 4096) - nI g, 0, 1, T) = some (nI (js (fun u => u * jt f g u) 4096), T) ∨ 2147483648 ≤ g := by
  obtain ⟨o1, o2, -⟩ := id ho
  have hp4 := nz_p4 o2
  have hB := rn_le f 4096
  rcases Nat.lt_or_ge g 2147483648 with hg | hg
  · left
    have z0 : jt f g 0 = 0 := by unfold jt; rw [jn_c0]; omega
    have s1 : js (fun u => u * jt f g u) 1 = 0 := by
      show 0 + 0 * jt f g 0 = 0
      rw [Nat.zero_mul]
    by_cases c0 : rn_B f 4096 ≤ g
    · have e0 : jt_r f g 0 = 0 := by
        show rn_B f 4096 - g = 0
        omega
      have e1 : js (fun u => u * jt f g u) 4096 = 0 := by rw [← jt_stop (v := 0) (by decide) (Or.inl e0)]; rfl
      have e2 : (nI (rn_B f 4096) - nI g ≤ (0 : Int32)) = True := by
        by_cases c1 : rn_B f 4096 = g
        · rw [c1, Int32.sub_self]; exact eq_true (by decide)
        · exact eq_true (Int32.le_of_lt (nz_below (by omega) hg))
      rw [e1]
      show fX10_joined_41 _ (53, nI (rn_B f 4096) - nI g, 0, 1, T) = _
      unfold fX10_joined_41
      simp only [pm_cells o2 hM.2.2.1, am_bs, e2, if_true]
      by_cases c2 : nI (4 ^ s.1 0) ≤ 1
      · rw [if_pos c2]; rfl
      · rw [if_neg c2]; rfl
    · rw [nm_sub (by omega)]
      have L := am_loop_inv (f := fX10_joined_41) (fun v st => st = (53, nI (jt_r f g v), nI (js (fun u => u * jt f g u) v), nI v, T)) (fun r => r = some (nI (js (fun u => u * jt f g u) 4096), T)) (4 ^ s.1 0)
        (fun v st kk hv e => by
          subst e
          have b1 := jt_r_le f g v
          have e3 : (nI (jt_r f g v) ≤ (0 : Int32)) = (jt_r f g v ≤ 0) := by rw [nm_0, nm_le (by omega) (by decide)]
          unfold fX10_joined_41
          simp only [pm_cells o2 hM.2.2.1, am_bs, nm_le (show 4 ^ s.1 0 < 2147483648 by omega) (show v < 2147483648 by omega), show (4 ^ s.1 0 ≤ v) = False from eq_false (by omega), if_false, e3]
          by_cases c1 : jt_r f g v ≤ 0
          · right
            rw [if_pos c1, jt_stop (by omega) (Or.inl (by omega))]
          · left
            refine ⟨_, rfl, ?_⟩
            rw [if_neg c1, pm_jin (f := f) hM (by omega) h29 hrow (show v < 4096 by omega) b1 kk, jn_cnt]
            rfl)
        (fun st kk e => by
          subst e
          unfold fX10_joined_41
          simp only [pm_cells o2 hM.2.2.1, am_bs, Int32.le_refl, if_true]
          rw [jt_stop (by omega) (Or.inr (fun u hu => ps_ct_0 (fun i _ => ?_)))]
          rw [Nat.zero_add]
          cases h : jn_g f i with
          | false => rfl
          | true =>
            have := rn_z_in f0 h
            rw [decide_eq_false (by omega)]; rfl)
        100000 1 (53, nI (rn_B f 4096 - g), 0, 1, T) (by omega) (by omega) (by
          show (53, nI (rn_B f 4096 - g), (0 : Int32), (1 : Int32), T) = (53, nI (jt_r f g 1), nI (js (fun u => u * jt f g u) 1), nI 1, T)
          rw [s1]
          have : jt_r f g 1 = rn_B f 4096 - g := by
            show rn_B f 4096 - g - min _ (jn_c f 4096 0) = _
            rw [jn_c0]; omega
          rw [this]; rfl)
      exact L
  · exact Or.inr hg
theorem op_joined (w g : Int32) : ps_op (fX9_joined 0 w g) (fX10_joined 53 w g) := by
  intro s ho
  obtain ⟨o1, o2, -⟩ := id ho
  have hp4 := nz_p4 o2
  by_cases hw : w = 0 ∨ w = 1
  · by_cases hg : ¬ g < 1 ∧ g ≤ 99
    · obtain ⟨b, hb, rfl⟩ := nm_bits hw
      obtain ⟨n, hn, rfl⟩ : ∃ n, n < 100 ∧ g = nI n := by
        rcases nm_cut g 100 (by decide) with h | h | h
        · exact absurd (nm_neg h (n := 1) (by decide)).1 hg.1
        · exact absurd hg.2 (nm_big (by decide) h (n := 99) (by decide)).2.2.2.1
        · exact h
      have hn1 : 1 ≤ n := by
        have := hg.1
        rw [nm_1, nm_lt (by omega) (by decide)] at this
        omega
      have f0 : ∀ k, 4 ^ s.1 0 ≤ k → ps_cov s b k = false := fun k hk => ps_cov_end s b hk
      have eB : rn_B (ps_cov s b) 4096 = rn_B (ps_cov s b) (4 ^ s.1 0) := ct_end (fun k hk => rn_b_n (Or.inl (f0 k hk))) hp4.2
      refine ⟨nI (js (fun u => u * jt (ps_cov s b) n u) 4096), s, ho, fun pl M hX => ?_, fun M hM => ?_⟩
      · obtain ⟨-, p2, -, -, -, -, -, p8, -⟩ := hX.pl
        obtain ⟨T, t1, t2, t3, t4⟩ := px_refresh ho hX
        obtain ⟨v1, v2, v3⟩ := t2.kc t4 hb
        obtain ⟨-, u2, -, -, -, -, -, u8, -⟩ := t2.pl
        obtain ⟨-, -, -, -, -, -, -, q3, -⟩ := t2.ks t4
        obtain ⟨U, F, w1, w2, o, cF, c, -, -, w3, w4⟩ := px_filled v1 v2 (t2.2.2.2.2.1 12 0 13 (by decide) rfl) (am_len_SH t2.1 13) hn1 (show n ≤ 99 by omega)
        obtain ⟨x1, x2⟩ := w2.X t2
        rw [jt_sum w3] at w4
        rw [w4] at w1
        refine ⟨pl, U, ?_, x1, t3.tr x2⟩
        unfold fX9_joined
        simp only [px_bit, hw, hg.1, hg.2, if_true, am_bs, nm_1f, if_false, p8, p2, t1, u8, q3, v3, w1]
      · obtain ⟨T, t1, t2, t3, t4⟩ := pm_setCover ho hM hb
        obtain ⟨U, u1, u2⟩ := pm_spans ho t2 t4 (-4)
        obtain ⟨i1, i2, i3, i4, -⟩ := u2
        rw [← eB] at i3 u1
        have row := jn_row (f := ps_cov s b) (R := U.1 65) (k := 4096) (fun q hq a1 a2 => i4 q (by
          rcases Nat.lt_or_ge q (4 ^ s.1 0) with z | z
          · exact z
          · have := (rn_b_f a1).1
            rw [f0 q z] at this; exact absurd this (by decide)) a1 a2)
        rcases pm_jout (g := n) ho i1.1 f0 i3 row with L | L
        · refine ⟨U, ?_, i1.1, i1.2⟩
          have in1 : fX10_isIn (nI n) 1 99 M = some (1, M) := by
            unfold fX10_isIn
            rw [if_neg hg.1, if_neg (Int32.not_lt.mpr hg.2)]
          unfold fX10_joined
          simp only [pm_bit, hw, if_true, am_bs, nm_1f, if_false, in1, t1, u1]
          exact L
        · omega
    · refine ⟨-1, s, ho, ps_ox.same (fun pl M hX => ?_), ps_om.same (fun M hM => ?_)⟩
      · unfold fX9_joined
        simp only [px_bit, hw, if_true, am_bs, nm_1f, if_false]
        by_cases c : g < 1
        · rw [if_pos c]
        · rw [if_neg c, if_neg (fun q => hg ⟨c, q⟩)]
      · have in1 : fX10_isIn g 1 99 M = some (0, M) := by
          unfold fX10_isIn
          by_cases c : g < 1
          · rw [if_pos c]
          · rw [if_neg c, if_pos (Int32.not_le.mp (fun q => hg ⟨c, q⟩))]
        unfold fX10_joined
        simp only [pm_bit, hw, if_true, am_bs, nm_1f, if_false, in1]
  · refine ⟨-1, s, ho, ps_ox.same (fun pl M hX => ?_), ps_om.same (fun M hM => ?_)⟩
    · unfold fX9_joined
      simp only [px_bit, hw, if_true, am_bs, if_false]
    · unfold fX10_joined
      simp only [pm_bit, hw, if_true, am_bs, if_false]
