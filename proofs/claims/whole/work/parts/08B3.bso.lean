/-! best -/
def bm_I (s : ps_S) (M : am_M) (k : Nat) (T : am_M) : Prop := am_fy M T ∧ (∀ l, l < s.1 3 → ∀ t, t < 13 → T.1 62 (13 * l + t) = nI (bs_acc s (s.1 3 - l - 1) l (k / 4 ^ (s.1 3 - l)) (k / 4 ^ (s.1 3 - l - 1) % 4) t)) ∧ (k = 4 ^ s.1 3 → ∀ t, t < 13 → T.1 64 t = nI (bs_row s (s.1 3) 0 0 t))
def bm_J (s : ps_S) (M : am_M) (k e : Nat) (T : am_M) : Prop := am_fy M T ∧ k % 4 ^ e = 4 ^ e - 1 ∧ (∀ t, t < 13 → T.1 64 t = nI (bs_row s e (s.1 3 - e) (k / 4 ^ e) t)) ∧ (∀ l, l < s.1 3 - e → ∀ t, t < 13 → T.1 62 (13 * l + t) = nI (bs_acc s (s.1 3 - l - 1) l (k / 4 ^ (s.1 3 - l)) (k / 4 ^ (s.1 3 - l - 1) % 4) t)) ∧ ∀ l, s.1 3 - e ≤ l → l < s.1 3 → ∀ t, t < 13 → T.1 62 (13 * l + t) = nI 0
theorem bd_1 {k e : Nat} (h : k % 4 ^ e = 4 ^ e - 1) : k + 1 = 4 ^ e * (k / 4 ^ e + 1) := by
  have h4 : 0 < 4 ^ e := Nat.pow_pos (by decide)
  have := Nat.div_add_mod k (4 ^ e)
  rw [Nat.mul_add, Nat.mul_one]
  omega
theorem bd_2 {k e : Nat} (h : k % 4 ^ e = 4 ^ e - 1) : (k + 1) / 4 ^ e = k / 4 ^ e + 1 := by
  rw [bd_1 h, Nat.mul_div_cancel_left _ (Nat.pow_pos (by decide))]
theorem bd_div (k e d : Nat) : k / 4 ^ (e + d) = k / 4 ^ e / 4 ^ d := by rw [Nat.pow_add, Nat.div_div_eq_div_mul]
theorem bd_low {k e f : Nat} (h : k % 4 ^ e = 4 ^ e - 1) (hf : f < e) : (k + 1) / 4 ^ f % 4 = 0 := by
  obtain ⟨d, rfl⟩ : ∃ d, e = f + (d + 1) := ⟨e - f - 1, by omega⟩
  rw [bd_1 h, Nat.pow_add, Nat.mul_assoc, Nat.mul_div_cancel_left _ (Nat.pow_pos (by decide)), Nat.pow_succ, Nat.mul_comm (4 ^ d) 4, Nat.mul_assoc, Nat.mul_mod_right]
theorem bd_up {k e : Nat} (h : k % 4 ^ e = 4 ^ e - 1) (h3 : k / 4 ^ e % 4 < 3) (d : Nat) : (k + 1) / 4 ^ (e + (d + 1)) = k / 4 ^ (e + (d + 1)) := by
  have e4 : ∀ x : Nat, x / 4 ^ (d + 1) = x / 4 / 4 ^ d := fun x => by
    rw [Nat.pow_succ, Nat.mul_comm, ← Nat.div_div_eq_div_mul]
  rw [bd_div (k + 1) e (d + 1), bd_div k e (d + 1), bd_2 h, e4, e4]
  congr 1
  omega
theorem bd_roll {k e : Nat} (h : k % 4 ^ e = 4 ^ e - 1) (h3 : k / 4 ^ e % 4 = 3) : k % 4 ^ (e + 1) = 4 ^ (e + 1) - 1 := by
  have h4 : 0 < 4 ^ e := Nat.pow_pos (by decide)
  rw [Nat.pow_succ, Nat.mod_mul, h, h3]
  omega
theorem pm_bestIn {s : ps_S} {M T : am_M} (ho : ps_ok s) (hM : ps_M s M) (m : Int32) {k : Nat} (hk : k < 4 ^ s.1 3) (h : bm_J s M k 0 T) (k39 : (Nat × Int32 × Int32 × am_M) → Option (Int32 × am_M)) : ∃ st', (∃ T, st' = (53, m, nI (k + 1), T) ∧ bm_I s M (k + 1) T) ∧ am_loop (fX10_best_64 k39) 100000 (53, m, nI k, nI (s.1 3), nI k, T) = k39 st' := by
  obtain ⟨o1, o2, o3, o4, o5, -⟩ := id ho
  have hp3 := nz_p4 (show s.1 3 ≤ 6 by omega)
  exact am_loop_inv (f := fX10_best_64 k39) (fun e st => ∃ T, st = (53, m, nI k, nI (s.1 3 - e), nI (k / 4 ^ e), T) ∧ bm_J s M k e T) (fun r => ∃ st', (∃ T, st' = (53, m, nI (k + 1), T) ∧ bm_I s M (k + 1) T) ∧ r = k39 st') (s.1 3)
    (fun e st kk he ⟨T, est, h1, h2, h3, h4, h5⟩ => by
      subst est
      obtain ⟨l, hl⟩ : ∃ l, s.1 3 - e = l + 1 := ⟨s.1 3 - e - 1, by omega⟩
      have hR := h1.R hM
      have bK := Nat.div_le_self k (4 ^ e)
      have eK : k / 4 ^ (e + 1) = k / 4 ^ e / 4 := bd_div k e 1
      have e1 : s.1 3 - l - 1 = e := by omega
      have e2 : s.1 3 - l = e + 1 := by omega
      rw [hl] at h3 h4 h5 ⊢
      have hA := h4 l (by omega)
      rw [e1, e2, eK] at hA
      have gA := bs_acc_G s e l (k / 4 ^ e / 4) (k / 4 ^ e % 4)
      have gB := bs_row_G ho e (l + 1) (k / 4 ^ e)
      obtain ⟨T1, a1, a2, a3, a4, a5⟩ := pm_comes hR.1 (show l < 7 by omega) hA h3 gA.1 gB.1
      have hacc : ∀ t, bs_add (bs_acc s e l (k / 4 ^ e / 4) (k / 4 ^ e % 4)) (bs_row s e (l + 1) (k / 4 ^ e)) t = bs_acc s e l (k / 4 ^ e / 4) (k / 4 ^ e % 4 + 1) t := fun t => by
        rw [bs_acc, show 4 * (k / 4 ^ e / 4) + k / 4 ^ e % 4 = k / 4 ^ e by omega]
      have F1 : am_fy M T1 := h1.tr a2
      have em : nI (l + 1) + (-1) = nI l := by rw [nm_dn, nm_pr]
      have e0 : (nI (l + 1) ≤ (0 : Int32)) = False := by rw [nm_0, nm_le (by omega) (by decide)]; exact eq_false (by omega)
      have ed : nI (k / 4 ^ e) / 4 = nI (k / 4 ^ e / 4) := nm_div (d := 4) (by omega) (by decide) (by decide)
      have er : nI (k / 4 ^ e) - nI (k / 4 ^ e / 4) * 4 = nI (k / 4 ^ e % 4) := by rw [← ed]; exact nm_rem (d := 4) (by omega) (by decide) (by decide)
      have e3 : ((3 : Int32) ≤ nI (k / 4 ^ e % 4)) = (3 ≤ k / 4 ^ e % 4) := by rw [nm_3, nm_le (by decide) (by omega)]
      by_cases c : 3 ≤ k / 4 ^ e % 4
      · left
        have c3 : k / 4 ^ e % 4 = 3 := by omega
        obtain ⟨T2, b1, b2, b3, b4⟩ := pm_closes ho (F1.R hM).1 (show l ≤ s.1 3 by omega) (S := bs_acc s e l (k / 4 ^ e / 4) 4) (fun t ht => by rw [a4 t ht, hacc, c3]) (bs_acc_G s e l (k / 4 ^ e / 4) 4).1
        have F2 : am_fy M T2 := F1.tr (am_fy.one b2 b3 (Or.inr (Or.inr rfl)))
        obtain ⟨T3, d1, d2, d3, d4, d5⟩ := pm_clears (F2.R hM).1 (show l < 7 by omega)
        have F3 : am_fy M T3 := F2.tr (am_fy.one d2 d3 (Or.inl rfl))
        refine ⟨_, ⟨T3, rfl, F3, bd_roll h2 c3, fun t ht => ?_, fun l' hl' t ht => ?_, fun l' hl1 hl2 t ht => ?_⟩, ?_⟩
        · rw [d3 64 (by decide), b4 t ht, show s.1 3 - (e + 1) = l by omega, eK, bs_row_s ho]
        · rw [d5 l' (by omega) t ht, b3 62 (by decide), a5 l' (by omega) t ht]
          exact h4 l' (by omega) t ht
        · by_cases q : l' = l
          · rw [q]; exact d4 t ht
          · rw [d5 l' q t ht, b3 62 (by decide), a5 l' q t ht]
            exact h5 l' (by omega) hl2 t ht
        · unfold fX10_best_64
          simp only [e0, if_false, em, a1, am_bs, ed, er, e3, c, if_true, b1, d1]
          rw [show s.1 3 - (e + 1) = l by omega, eK]
      · right
        have c3 : k / 4 ^ e % 4 < 3 := by omega
        refine ⟨_, ⟨T1, rfl, F1, fun l' hl' t ht => ?_, fun q => ?_⟩, ?_⟩
        · rcases Nat.lt_trichotomy l' l with q | q | q
          · rw [a5 l' (by omega) t ht, h4 l' (by omega) t ht]
            obtain ⟨d, hd⟩ : ∃ d, s.1 3 - l' - 1 = e + (d + 1) := ⟨l - l' - 1, by omega⟩
            rw [show s.1 3 - l' = e + (d + 1 + 1) by omega, show e + (d + 1 + 1) - 1 = e + (d + 1) by omega, bd_up h2 c3, bd_up h2 c3]
          · subst q
            have ei : (k + 1) / 4 ^ (e + (0 + 1)) = k / 4 ^ (e + (0 + 1)) := bd_up h2 c3 0
            rw [a4 t ht, hacc, e1, e2, bd_2 h2]
            rw [show e + (0 + 1) = e + 1 from rfl, eK] at ei
            rw [ei, show (k / 4 ^ e + 1) % 4 = k / 4 ^ e % 4 + 1 by omega]
          · rw [a5 l' (by omega) t ht, h5 l' (by omega) hl' t ht, bd_low h2 (show s.1 3 - l' - 1 < e by omega)]
            rfl
        · exfalso
          have z := bd_2 h2
          rw [q, show s.1 3 = e + (l + 1) by omega, Nat.pow_add, Nat.mul_div_cancel_left _ (Nat.pow_pos (by decide)), Nat.pow_succ] at z
          omega
        · unfold fX10_best_64 fX10_best_106
          simp only [e0, if_false, em, a1, am_bs, ed, er, e3, c, nI_1])
    (fun st kk ⟨T, est, h1, h2, h3, h4, h5⟩ => by
      subst est
      have ek : k + 1 = 4 ^ s.1 3 := by
        rw [Nat.mod_eq_of_lt hk] at h2
        omega
      refine ⟨_, ⟨T, rfl, h1, fun l hl t ht => ?_, fun _ t ht => ?_⟩, ?_⟩
      · rw [h5 l (by omega) hl t ht, bd_low h2 (show s.1 3 - l - 1 < s.1 3 by omega)]
        rfl
      · rw [h3 t ht, Nat.sub_self, Nat.div_eq_of_lt hk]
      · unfold fX10_best_64 fX10_best_106
        simp only [show (nI (s.1 3 - s.1 3) ≤ (0 : Int32)) = True from by rw [Nat.sub_self]; exact eq_true (by decide), if_true, nI_1])
    100000 0 (53, m, nI k, nI (s.1 3), nI k, T) (Nat.zero_le _) (by omega) ⟨T, by rw [Nat.sub_zero, Nat.pow_zero, Nat.div_one], h⟩
theorem pm_best {s : ps_S} {M : am_M} (ho : ps_ok s) (hM : ps_M s M) {m : Nat} (hm : m < 13) : ∃ T, (fX10_setShape 53 M).bind (fun M9 => am_loop (fX10_best_18) 100000 (53, nI m, 0, M9)) = some (if bs_row s (s.1 3) 0 0 m < 1000000 then nI (bs_row s (s.1 3) 0 0 m) - nI (ps_ct (ps_sk s) 0 (4 ^ s.1 0)) else -4, T) ∧ ps_R s M T := by
  obtain ⟨o1, o2, o3, o4, o5, -⟩ := id ho
  have hp3 := nz_p4 (show s.1 3 ≤ 6 by omega)
  obtain ⟨T0, t1, t2, t3⟩ := pm_setShape ho hM
  have gr := (bs_row_G ho (s.1 3) 0 0).1 m
  have main : ∀ U : am_M, bm_I s T0 0 U → ∃ T, am_loop fX10_best_39 100000 (53, nI m, 0, U) = some (if bs_row s (s.1 3) 0 0 m < 1000000 then nI (bs_row s (s.1 3) 0 0 m) - nI (ps_ct (ps_sk s) 0 (4 ^ s.1 0)) else -4, T) ∧ ps_R s M T := fun U hU =>
    am_loop_inv (f := fX10_best_39) (fun k st => ∃ T, st = (53, nI m, nI k, T) ∧ bm_I s T0 k T) (fun r => ∃ T, r = some (if bs_row s (s.1 3) 0 0 m < 1000000 then nI (bs_row s (s.1 3) 0 0 m) - nI (ps_ct (ps_sk s) 0 (4 ^ s.1 0)) else -4, T) ∧ ps_R s M T) (4 ^ s.1 3)
      (fun k st kk hk ⟨T, e, hI⟩ => by
        subst e
        left
        have hT := hI.1.R t2.1
        have hrow : ps_row T 60 (4 ^ s.1 0) (ps_sk s) := t3.cg (hI.1.2 60 (by decide) (by decide) (by decide))
        obtain ⟨V, v1, v2, v3, v4⟩ := pm_setLeaf ho hT.1 hrow hk
        have FV : am_fy T0 V := hI.1.tr (am_fy.one v2 v3 (Or.inr (Or.inr rfl)))
        have hJ : bm_J s T0 k 0 V := ⟨FV, by rw [Nat.pow_zero, Nat.mod_one], fun t ht => by rw [v4 t ht, Nat.sub_zero, Nat.pow_zero, Nat.div_one], fun l hl t ht => by rw [v3 62 (by decide)]; exact hI.2.1 l (by omega) t ht, fun l h1 h2 => by omega⟩
        obtain ⟨st', q1, q2⟩ := pm_bestIn ho t2.1 (nI m) hk hJ kk
        refine ⟨st', q1, ?_⟩
        rw [← q2]
        have d3 := hT.1.2.2.2.2.2.1
        have d3V : V.1 53 3 = nI (s.1 3) := by rw [v3 53 (by decide)]; exact d3
        unfold fX10_best_39
        simp only [d3, nm_p4 (show s.1 3 ≤ 6 by omega), nm_le (show 4 ^ s.1 3 < 2147483648 by omega) (show k < 2147483648 by omega), show (4 ^ s.1 3 ≤ k) = False from eq_false (by omega), if_false, v1, am_bs, d3V])
      (fun st kk ⟨T, e, hI⟩ => by
        subst e
        have hT := hI.1.R t2.1
        have d3 := hT.1.2.2.2.2.2.1
        obtain ⟨-, -, r21, -, -, -, r27, -, -, -, l60, -, -, -, l64, -⟩ := hT.1.r
        have hrow : ps_row T 60 (4 ^ s.1 0) (ps_sk s) := t3.cg (hI.1.2 60 (by decide) (by decide) (by decide))
        have ev := hI.2.2 rfl m hm
        have eF : (nI (bs_row s (s.1 3) 0 0 m) < (1000000 : Int32)) = (bs_row s (s.1 3) 0 0 m < 1000000) := by rw [nm_1000000, nm_lt (by omega) (by decide)]
        refine ⟨T, ?_, t2.tr hT⟩
        unfold fX10_best_39
        simp only [d3, nm_p4 (show s.1 3 ≤ 6 by omega), Int32.le_refl, if_true, r27, am_bs, l64, nm_cl (show m < 2147483648 by omega), am_ixc (show m < 13 by omega) (show 13 < 2147483648 by decide), if_false, ev, eF, pm_all o2 hT.1.2.2.1 r21 l60 hrow]
        by_cases c : bs_row s (s.1 3) 0 0 m < 1000000
        · rw [if_pos c, if_pos c]
        · rw [if_neg c, if_neg c])
      100000 0 (53, nI m, 0, U) (Nat.zero_le _) (by omega) ⟨U, rfl, hU⟩
  rw [t1, am_bs]
  exact am_loop_inv (f := fX10_best_18) (fun i st => ∃ T, st = (53, nI m, nI i, T) ∧ am_fy T0 T ∧ ∀ l, l < i → ∀ t, t < 13 → T.1 62 (13 * l + t) = nI 0) (fun r => ∃ T, r = some (if bs_row s (s.1 3) 0 0 m < 1000000 then nI (bs_row s (s.1 3) 0 0 m) - nI (ps_ct (ps_sk s) 0 (4 ^ s.1 0)) else -4, T) ∧ ps_R s M T) (s.1 0 + 1)
    (fun i st kk hi ⟨T, e, h1, h2⟩ => by
      subst e
      have hT := h1.R t2.1
      obtain ⟨V, v1, v2, v3, v4, v5⟩ := pm_clears hT.1 (show i < 7 by omega)
      refine Or.inl ⟨_, ⟨V, rfl, h1.tr (am_fy.one v2 v3 (Or.inl rfl)), fun l hl t ht => ?_⟩, ?_⟩
      · by_cases q : l = i
        · rw [q]; exact v4 t ht
        · rw [v5 l q t ht]; exact h2 l (by omega) t ht
      · unfold fX10_best_18
        simp only [hT.1.2.2.1, nm_lt (show s.1 0 < 2147483648 by omega) (show i < 2147483648 by omega), show (s.1 0 < i) = False from eq_false (by omega), if_false, v1, am_bs, nI_1])
    (fun st kk ⟨T, e, h1, h2⟩ => by
      subst e
      have hT := h1.R t2.1
      obtain ⟨U, u1, u2⟩ := main T ⟨h1, fun l hl t ht => by rw [h2 l (by omega) t ht, Nat.zero_div, Nat.zero_div, Nat.zero_mod]; rfl, fun q => by omega⟩
      refine ⟨U, ?_, u2⟩
      unfold fX10_best_18
      simp only [hT.1.2.2.1, nm_lt (show s.1 0 < 2147483648 by omega) (show s.1 0 + 1 < 2147483648 by omega), show (s.1 0 < s.1 0 + 1) = True from eq_true (by omega), if_true]
      exact u1)
    100000 0 (53, nI m, 0, T0) (Nat.zero_le _) (by omega) ⟨T0, rfl, am_fy.rf T0, fun l hl => absurd hl (Nat.not_lt_zero l)⟩
theorem ps_X.wg {s : ps_S} {pl : Nat} {M T : am_M} (hX : ps_X s pl M) (hf : M.1 5 5 = nI 1) (h : am_fw 0 M T) (hr : ∀ t, t < 13 → T.1 16 t = nI (bs_row s (s.1 3) 0 0 t)) : ps_X s pl (am_pI T 5 6 (nI 1)) ∧ am_fx M (am_pI T 5 6 (nI 1)) := by
  obtain ⟨h1, h2, h3, h4, h5, h6, g1, g2, g3, g4, g5, g6, g7, g8, g9, g10, g11, g12, g13, g14⟩ := hX
  have r0 : ∀ k, k ≠ 5 → (k < 16 ∨ 22 < k) → (am_pI T 5 6 (nI 1)).1 k = M.1 k := fun k hk hk2 => by rw [am_pI_r _ _ _ _ hk]; exact h.2 k (by omega)
  have e2 : (am_pI T 5 6 (nI 1)).2 = M.2 := h.1
  refine ⟨⟨by rw [e2]; exact h1, h2, by rw [e2]; exact h3, by rw [e2]; exact h4, by rw [e2]; exact h5, by rw [e2]; exact h6, ?_⟩, by rw [e2], fun k hk => ⟨r0 k (by omega) (by omega), by rw [e2]⟩⟩
  have e5 : (am_pI T 5 6 (nI 1)).1 5 5 = nI 1 := by rw [am_pI_1, if_neg (by omega), h.2 5 (by omega)]; exact hf
  have e6 : (am_pI T 5 6 (nI 1)).1 5 6 = nI 1 := by rw [am_pI_1, if_pos ⟨rfl, rfl⟩]
  have e16 : (am_pI T 5 6 (nI 1)).1 16 = T.1 16 := am_pI_r _ _ _ _ (by decide)
  rw [r0 pl (by omega) (by omega), r0 (pl + 1) (by omega) (by omega), r0 (pl + 2) (by omega) (by omega), r0 (pl + 3) (by omega) (by omega), r0 1 (by decide) (by decide), r0 2 (by decide) (by decide), r0 4 (by decide) (by decide), e2]
  refine ⟨g1, g2, g3, g4, g5, g6, g7, fun i hi => ?_, g9, g10, g11, g12, Or.inr ⟨e5, ?_⟩, Or.inr ⟨e6, e5, fun t ht => by rw [e16]; exact hr t ht⟩⟩
  · obtain ⟨q, q1, q2, q3, q4⟩ := g8 i hi
    exact ⟨q, q1, q2, q3, fun j hj => by rw [r0 q (by omega) (by omega)]; exact q4 j hj⟩
  · rcases g13 with g | ⟨g, k1, k2, k3⟩
    · rw [g] at hf; exact absurd hf (by decide)
    · exact ⟨k1.fr (by rw [e2]), k2.fr (by rw [e2]), k3.fr (by rw [e2])⟩
theorem px_least {s : ps_S} {pl : Nat} {M : am_M} (ho : ps_ok s) (hX : ps_X s pl M) (hf : M.1 5 5 = nI 1) {m : Nat} (hm : m < 13) : ∃ T, fX0_leastCells 5 pl (nI m) M = some (nI (bs_row s (s.1 3) 0 0 m), T) ∧ ps_X s pl T ∧ am_fx M T ∧ T.1 5 5 = nI 1 := by
  obtain ⟨o1, o2, o3, o4, o5, -⟩ := id ho
  have last : ∀ T : am_M, ps_X s pl T → (∀ t, t < 13 → T.1 16 t = nI (bs_row s (s.1 3) 0 0 t)) → fX0_leastCells_24 5 (nI m) T = some (nI (bs_row s (s.1 3) 0 0 m), T) := fun T hT hr => by
    have r4 := hT.2.2.2.2.1 5 4 14 (by decide) rfl
    have r14 := hT.2.2.2.2.1 14 0 15 (by decide) rfl
    have r15 := hT.2.2.2.2.1 15 0 16 (by decide) rfl
    have l15 : am_len T 15 = 7 := am_len_SH hT.1 15
    have l16 : am_len T 16 = 13 := am_len_SH hT.1 16
    have e12 : ((12 : Int32) < nI m) = False := by rw [nm_12, nm_lt (by decide) (by omega)]; exact eq_false (by omega)
    unfold fX0_leastCells_24 fX8_leastOf
    simp only [r4, am_bs, nz_lt0 (show m < 2147483648 by omega), if_false, e12, r14, show (0 : Int32).toNatClampNeg = 0 from rfl, l15, show ((0 : Int32) < 0) = False from eq_false (by decide), false_or, show (7 ≤ 0) = False from eq_false (by decide), r15, l16, nm_cl (show m < 2147483648 by omega), show (13 ≤ m) = False from eq_false (by omega), hr m hm]
  obtain ⟨-, -, -, -, -, -, g1, g2, g3, g4, g5, g6, g7, g8, g9, g10, g11, g12, g13, g14⟩ := id hX
  obtain ⟨⟨kq, -, -⟩, k1, -, -, q0, -, -, -, q4⟩ := hX.ks hf
  rcases g14 with g | ⟨g, ga, gb⟩
  · obtain ⟨-, -, -, p4, -, p6, p7, -⟩ := hX.pl
    have hR : wt_R s pl M := by
      refine ⟨p4, p7, p6, by have := hX.2.1; omega, kq, k1, fun l hl => ?_, am_len_SH hX.1 15, fun l hl => ?_⟩
      · rcases (show l = 0 ∨ l = 1 ∨ l = 2 ∨ l = 3 ∨ l = 4 ∨ l = 5 ∨ l = 6 by omega) with rfl | rfl | rfl | rfl | rfl | rfl | rfl
        · exact hX.2.2.2.2.1 15 0 16 (by decide) rfl
        · exact hX.2.2.2.2.1 15 1 17 (by decide) rfl
        · exact hX.2.2.2.2.1 15 2 18 (by decide) rfl
        · exact hX.2.2.2.2.1 15 3 19 (by decide) rfl
        · exact hX.2.2.2.2.1 15 4 20 (by decide) rfl
        · exact hX.2.2.2.2.1 15 5 21 (by decide) rfl
        · exact hX.2.2.2.2.1 15 6 22 (by decide) rfl
      · rcases (show l = 0 ∨ l = 1 ∨ l = 2 ∨ l = 3 ∨ l = 4 ∨ l = 5 ∨ l = 6 by omega) with rfl | rfl | rfl | rfl | rfl | rfl | rfl
        · exact am_len_SH hX.1 16
        · exact am_len_SH hX.1 17
        · exact am_len_SH hX.1 18
        · exact am_len_SH hX.1 19
        · exact am_len_SH hX.1 20
        · exact am_len_SH hX.1 21
        · exact am_len_SH hX.1 22
    obtain ⟨T, t1, t2, t3⟩ := px_weigh (pl := pl) ho (s.1 3) 0 0 12 M (by omega) (by omega) (by decide) hR
    obtain ⟨x1, x2⟩ := hX.wg hf t2 t3
    have r14 := hX.2.2.2.2.1 14 0 15 (by decide) rfl
    have e16 : (am_pI T 5 6 (nI 1)).1 16 = T.1 16 := am_pI_r _ _ _ _ (by decide)
    refine ⟨am_pI T 5 6 (nI 1), ?_, x1, x2, by rw [am_pI_1, if_neg (by omega), t2.2 5 (by omega)]; exact hf⟩
    have L := last _ x1 (fun t ht => by rw [e16]; exact t3 t ht)
    have e0 : (M.1 5 6 = 0) = True := eq_true g
    have t1' : gX8_weighTile 12 15 pl 6 0 0 M = some T := t1
    unfold fX0_leastCells fX8_weighWorld fX8_weighTile
    simp only [e0, if_true, q4, q0, am_bs, r14, t1']
    exact L
  · refine ⟨M, ?_, hX, am_fx.rf M, hf⟩
    have e0 : (M.1 5 6 = 0) = False := by rw [g]; exact eq_false (by decide)
    unfold fX0_leastCells
    simp only [e0, if_false]
    exact last M hX gb
theorem op_best (a : Int32) : ps_op (fX9_best 0 a) (fX10_best 53 a) := by
  intro s ho
  obtain ⟨o1, o2, o3, o4, o5, -⟩ := id ho
  by_cases hg : ¬ a < 1 ∧ a ≤ 12
  · obtain ⟨m, hm, rfl⟩ : ∃ n, n < 13 ∧ a = nI n := by
      rcases nm_cut a 13 (by decide) with h | h | h
      · exact absurd (nm_neg h (n := 1) (by decide)).1 hg.1
      · exact absurd hg.2 (nm_big (by decide) h (n := 12) (by decide)).2.2.2.1
      · exact h
    refine ⟨if bs_row s (s.1 3) 0 0 m < 1000000 then nI (bs_row s (s.1 3) 0 0 m) - nI (ps_ct (ps_sk s) 0 (4 ^ s.1 0)) else -4, s, ho, fun pl M hX => ?_, fun M hM => ?_⟩
    · obtain ⟨-, p2, -, -, -, -, -, p8, -⟩ := hX.pl
      obtain ⟨T, t1, t2, t3, t4⟩ := px_refresh ho hX
      obtain ⟨-, u2, -, -, -, -, -, u8, -⟩ := t2.pl
      obtain ⟨U, w1, w2, w3, w4⟩ := px_least ho t2 t4 hm
      obtain ⟨⟨kq, -⟩, k1, -, -, q0, -⟩ := w2.ks w4
      obtain ⟨-, v2, -, v4, -, -, -, v8, -⟩ := w2.pl
      have gr := (bs_row_G ho (s.1 3) 0 0).1 m
      have eF : (nI (bs_row s (s.1 3) 0 0 m) < (1000000 : Int32)) = (bs_row s (s.1 3) 0 0 m < 1000000) := by rw [nm_1000000, nm_lt (by omega) (by decide)]
      refine ⟨pl, U, ?_, w2, t3.tr w3⟩
      unfold fX9_best
      simp only [hg.1, hg.2, if_true, if_false, p8, p2, am_bs, t1, u8, u2, w1, eF, v8, v2, q0, px_size0 o2 v4, ks_all kq k1 o2]
      by_cases c : bs_row s (s.1 3) 0 0 m < 1000000
      · rw [if_pos c, if_pos c]
      · rw [if_neg c, if_neg c]
    · obtain ⟨T, t1, t2⟩ := pm_best ho hM hm
      refine ⟨T, ?_, t2.1, t2.2⟩
      have in1 : fX10_isIn (nI m) 1 12 M = some (1, M) := by
        unfold fX10_isIn
        rw [if_neg hg.1, if_neg (Int32.not_lt.mpr hg.2)]
      unfold fX10_best
      simp only [in1, am_bs, nm_1f, if_false]
      exact t1
  · refine ⟨-1, s, ho, ps_ox.same (fun pl M hX => ?_), ps_om.same (fun M hM => ?_)⟩
    · unfold fX9_best
      by_cases c : a < 1
      · rw [if_pos c]
      · rw [if_neg c, if_neg (fun q => hg ⟨c, q⟩)]
    · have in1 : fX10_isIn a 1 12 M = some (0, M) := by
        unfold fX10_isIn
        by_cases c : a < 1
        · rw [if_pos c]
        · rw [if_neg c, if_pos (Int32.not_le.mp (fun q => hg ⟨c, q⟩))]
      unfold fX10_best
      simp only [in1, am_bs, if_true]
