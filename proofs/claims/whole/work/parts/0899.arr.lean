/-! ===== the class's order of points ===== -/
def am_fo (pl : Nat) (M T : am_M) : Prop := T.2 = M.2 ∧ ∀ k, k ≠ pl + 4 → k ≠ pl + 5 → T.1 k = M.1 k
theorem am_fo.rf (pl : Nat) (M : am_M) : am_fo pl M M := ⟨rfl, fun _ _ _ => rfl⟩
theorem am_fo.pI {pl : Nat} {M T : am_M} (h : am_fo pl M T) {k : Nat} (hk : k = pl + 4 ∨ k = pl + 5) (j : Nat) (x : Int32) : am_fo pl M (am_pI T k j x) := ⟨h.1, fun a h4 h5 => (am_pI_r _ _ _ _ (by omega)).trans (h.2 a h4 h5)⟩
def ps_ord (s : ps_S) (pl i : Nat) (T : am_M) : Prop := (∀ j, j < i → T.1 (pl + 5) j = nI (ps_pk s j)) ∧ ∃ o : Nat → Nat, (∀ u, u < i → o u < i ∧ ps_rk s i (o u) = u) ∧ ∀ u, u < i → T.1 (pl + 4) u = nI (o u)
theorem ps_pk_lt {s : ps_S} (ho : ps_ok s) (i : Nat) : ps_pk s i < 4096 := by
  have h := cv_k_lt (s.1 1) (s.1 0) (s.2 6 i) (s.2 7 i)
  have h2 := nz_p4 ho.2.1
  unfold ps_pk
  omega
theorem px_put {s : ps_S} {pl i t : Nat} {M T : am_M} (k : (Nat × Int32 × Int32 × Int32 × am_M) → Option am_M) (x1 x2 : Int32) (h13 : M.2.2.1 (pl + 1) 2 = some (pl + 4)) (h17 : am_len M (pl + 4) = 40) (hi : i < 40) (ht : t ≤ i) (hf : am_fo pl M T) (hk : ∀ j, j < i + 1 → T.1 (pl + 5) j = nI (ps_pk s j)) {o : Nat → Nat} (hoo : ∀ u, u < i → o u < i ∧ ps_rk s i (o u) = u) (h1 : ∀ u, u < t → T.1 (pl + 4) u = nI (o u)) (h2 : ∀ u, t < u → u ≤ i → T.1 (pl + 4) u = nI (o (u - 1))) (h3 : ∀ u, t ≤ u → u < i → ps_pk s i < ps_pk s (o u)) (h4 : t = 0 ∨ ps_pk s (o (t - 1)) ≤ ps_pk s i) :
    ∃ st', (∃ T, st' = (pl + 1, x1, x2, nI (i + 1), T) ∧ am_fo pl M T ∧ ps_ord s pl (i + 1) T) ∧ fX6_arrange_86 k (pl + 1) x1 x2 (nI i) (nI t) T = k st' := by
  have hl : am_len T (pl + 4) = 40 := by
    have : am_len T (pl + 4) = am_len M (pl + 4) := by unfold am_len; rw [hf.1]
    rw [this, h17]
  have hr : T.2.2.1 (pl + 1) 2 = some (pl + 4) := by rw [hf.1]; exact h13
  refine ⟨_, ⟨am_pI T (pl + 4) t (nI i), rfl, hf.pI (Or.inl rfl) _ _, fun j hj => ?_, fun u => if u < t then o u else if u = t then i else o (u - 1), ps_ins hoo ht h4 h3, fun u hu => ?_⟩, ?_⟩
  · rw [am_pI_r _ _ _ _ (by omega)]; exact hk j hj
  · show _ = nI (if u < t then o u else if u = t then i else o (u - 1))
    rw [am_pI_1]
    rcases Nat.lt_trichotomy u t with c | c | c
    · rw [if_neg (fun q => by omega), if_pos c]; exact h1 u c
    · rw [if_pos ⟨rfl, c⟩, if_neg (by omega), if_pos c]
    · rw [if_neg (fun q => by omega), if_neg (by omega), if_neg (by omega)]; exact h2 u c (by omega)
  · unfold fX6_arrange_86
    simp only [hr, am_bs, hl, nm_cl (show t < 2147483648 by omega), am_ixc (show t < 40 by omega) (show 40 < 2147483648 by decide), if_false, nI_1]
theorem px_arrange {s : ps_S} {pl : Nat} {M : am_M} (ho : ps_ok s) (hX : ps_X s pl M) : ∃ T, fX6_arrange (pl + 1) (nI (s.1 0)) (nI (s.1 1)) M = some T ∧ am_fo pl M T ∧ ps_ord s pl (s.1 5) T := by
  obtain ⟨o1, o2, o3, -, -, -, o7, -, -, -, o11, -⟩ := id ho
  obtain ⟨p1, p2, p3, p4, p5, p6, p7, p8, p9, p10, p11, p12, p13, p14, p15, p16, p17, p18, p19⟩ := hX.pl
  obtain ⟨-, -, -, -, -, -, -, -, -, -, -, g6, g7, -⟩ := id hX
  have hln : ∀ {T : am_M} (q : Nat), am_fo pl M T → am_len T q = am_len M q := fun {T} q h => by unfold am_len; rw [h.1]
  exact am_loop_inv (f := fX6_arrange_2) (fun i st => ∃ T, st = (pl + 1, nI (s.1 0), nI (s.1 1), nI i, T) ∧ am_fo pl M T ∧ ps_ord s pl i T) (fun r => ∃ T, r = some T ∧ am_fo pl M T ∧ ps_ord s pl (s.1 5) T) (s.1 5)
    (fun i st k hi ⟨T, e, h1, h2, o, h3, h4⟩ => by
      subst e
      left
      have e2 : T.2.2.1 = M.2.2.1 := by rw [h1.1]
      have r6 : T.1 (pl + 1) 4 = nI (s.1 5) := by rw [h1.2 _ (by omega) (by omega)]; exact g6
      have r7 : T.1 (pl + 2) i = nI (s.2 6 i) := by rw [h1.2 _ (by omega) (by omega)]; exact (g7 i hi).1
      have r8 : T.1 (pl + 3) i = nI (s.2 7 i) := by rw [h1.2 _ (by omega) (by omega)]; exact (g7 i hi).2
      have hpk := ps_pk_lt ho
      have hkey : fX1_keyOf (nI (s.1 0)) (nI (s.1 1)) (nI (s.2 6 i)) (nI (s.2 7 i)) T = some (nI (ps_pk s i), T) := px_keyOf o3 o2 (o11 i hi).1 (o11 i hi).2 T
      have hk0 : ∀ j, j < i + 1 → (am_pI T (pl + 5) i (nI (ps_pk s i))).1 (pl + 5) j = nI (ps_pk s j) := fun j hj => by
        rw [am_pI_1]
        by_cases c : j = i
        · rw [if_pos ⟨rfl, c⟩, c]
        · rw [if_neg (fun q => c q.2)]; exact h2 j (by omega)
      have K := am_loop_inv (f := fX6_arrange_36 k) (fun c st => ∃ T2, st = (pl + 1, nI (s.1 0), nI (s.1 1), nI i, nI (i - c), T2) ∧ am_fo pl M T2 ∧ (∀ j, j < i + 1 → T2.1 (pl + 5) j = nI (ps_pk s j)) ∧ (∀ u, u < i - c → T2.1 (pl + 4) u = nI (o u)) ∧ (∀ u, i - c < u → u ≤ i → T2.1 (pl + 4) u = nI (o (u - 1))) ∧ (∀ u, i - c ≤ u → u < i → ps_pk s i < ps_pk s (o u)))
        (fun r => ∃ st', (∃ T, st' = (pl + 1, nI (s.1 0), nI (s.1 1), nI (i + 1), T) ∧ am_fo pl M T ∧ ps_ord s pl (i + 1) T) ∧ r = k st') i
        (fun c st k2 hc ⟨T2, e, q1, q2, q3, q4, q5⟩ => by
          subst e
          obtain ⟨t, ht⟩ : ∃ t, i - c = t + 1 := ⟨i - c - 1, by omega⟩
          rw [ht] at q3 q4 q5 ⊢
          have e3 : T2.2.2.1 = M.2.2.1 := by rw [q1.1]
          have w := (h3 t (by omega)).1
          have v1 := q3 t (by omega)
          have v2 := q2 (o t) (by omega)
          have v3 := q2 i (by omega)
          have b1 := hpk (o t)
          have b2 := hpk i
          by_cases cc : ps_pk s (o t) ≤ ps_pk s i
          · right
            obtain ⟨st', z1, z2⟩ := px_put (t := t + 1) k (nI (s.1 0)) (nI (s.1 1)) p13 p17 (by omega) (by omega) q1 q2 h3 q3 q4 q5 (Or.inr cc)
            refine ⟨st', z1, ?_⟩
            rw [← z2]
            unfold fX6_arrange_36
            simp only [nm_0, nm_le (show t + 1 < 2147483648 by omega) (show 0 < 2147483648 by decide), show (t + 1 ≤ 0) = False from eq_false (by omega), if_false, e3, p13, p14, am_bs, nm_pr, hln _ q1, p17, p18, nm_cl (show t < 2147483648 by omega), nm_lt (show t < 2147483648 by omega) (show 0 < 2147483648 by decide), Nat.not_lt_zero, false_or, show (40 ≤ t) = False from eq_false (by omega), v1, nm_cl (show o t < 2147483648 by omega), nm_lt (show o t < 2147483648 by omega) (show 0 < 2147483648 by decide), show (40 ≤ o t) = False from eq_false (by omega), nm_cl (show i < 2147483648 by omega), nm_lt (show i < 2147483648 by omega) (show 0 < 2147483648 by decide), show (40 ≤ i) = False from eq_false (by omega), v2, v3, nm_le (show ps_pk s (o t) < 2147483648 by omega) (show ps_pk s i < 2147483648 by omega), cc, if_true]
          · refine Or.inl ⟨_, ⟨am_pI T2 (pl + 4) (t + 1) (nI (o t)), rfl, q1.pI (Or.inl rfl) _ _, fun j hj => ?_, fun u hu => ?_, fun u hu hu2 => ?_, fun u hu hu2 => ?_⟩, ?_⟩
            · rw [am_pI_r _ _ _ _ (by omega)]; exact q2 j hj
            · rw [am_pI_1, if_neg (fun q => by omega)]; exact q3 u (by omega)
            · rw [am_pI_1]
              by_cases c2 : u = t + 1
              · rw [if_pos ⟨rfl, c2⟩, c2]; rfl
              · rw [if_neg (fun q => c2 q.2)]; exact q4 u (by omega) hu2
            · by_cases c2 : u = t
              · rw [c2]; omega
              · exact q5 u (by omega) hu2
            · unfold fX6_arrange_36
              simp only [nm_0, nm_le (show t + 1 < 2147483648 by omega) (show 0 < 2147483648 by decide), show (t + 1 ≤ 0) = False from eq_false (by omega), if_false, e3, p13, p14, am_bs, nm_dn, nm_pr, hln _ q1, p17, p18, nm_cl (show t < 2147483648 by omega), nm_lt (show t < 2147483648 by omega) (show 0 < 2147483648 by decide), Nat.not_lt_zero, false_or, show (40 ≤ t) = False from eq_false (by omega), v1, nm_cl (show o t < 2147483648 by omega), nm_lt (show o t < 2147483648 by omega) (show 0 < 2147483648 by decide), show (40 ≤ o t) = False from eq_false (by omega), nm_cl (show i < 2147483648 by omega), nm_lt (show i < 2147483648 by omega) (show 0 < 2147483648 by decide), show (40 ≤ i) = False from eq_false (by omega), v2, v3, nm_le (show ps_pk s (o t) < 2147483648 by omega) (show ps_pk s i < 2147483648 by omega), cc, nm_cl (show t + 1 < 2147483648 by omega), nm_lt (show t + 1 < 2147483648 by omega) (show 0 < 2147483648 by decide), show (40 ≤ t + 1) = False from eq_false (by omega), show i - (c + 1) = t by omega])
        (fun st k2 ⟨T2, e, q1, q2, q3, q4, q5⟩ => by
          subst e
          rw [Nat.sub_self] at q3 q4 q5 ⊢
          obtain ⟨st', z1, z2⟩ := px_put (t := 0) k (nI (s.1 0)) (nI (s.1 1)) p13 p17 (by omega) (by omega) q1 q2 h3 q3 q4 q5 (Or.inl rfl)
          refine ⟨st', z1, ?_⟩
          rw [← z2]
          unfold fX6_arrange_36
          simp only [show (nI 0 ≤ (0 : Int32)) = True from eq_true (by decide), if_true])
        100000 0 (pl + 1, nI (s.1 0), nI (s.1 1), nI i, nI i, am_pI T (pl + 5) i (nI (ps_pk s i))) (Nat.zero_le _) (by omega) ⟨_, rfl, h1.pI (Or.inr rfl) _ _, hk0, fun u hu => by rw [am_pI_r _ _ _ _ (by omega)]; exact h4 u hu, fun u h1 h2 => by omega, fun u h1 h2 => by omega⟩
      obtain ⟨st', q1, q2⟩ := K
      refine ⟨st', q1, ?_⟩
      rw [← q2]
      unfold fX6_arrange_2
      simp only [r6, nm_le (show s.1 5 < 2147483648 by omega) (show i < 2147483648 by omega), show (s.1 5 ≤ i) = False from eq_false (by omega), if_false, e2, p14, p11, p12, am_bs, hln _ h1, p15, p16, p18, nm_cl (show i < 2147483648 by omega), am_ixc (show i < 40 by omega) (show 40 < 2147483648 by decide), r7, r8, hkey])
    (fun st k ⟨T, e, h1, h2⟩ => by
      subst e
      refine ⟨T, ?_, h1, h2⟩
      have r6 : T.1 (pl + 1) 4 = nI (s.1 5) := by rw [h1.2 _ (by omega) (by omega)]; exact g6
      unfold fX6_arrange_2
      simp only [r6, Int32.le_refl, if_true])
    100000 0 (pl + 1, nI (s.1 0), nI (s.1 1), nI 0, M) (Nat.zero_le _) (by omega) ⟨M, rfl, am_fo.rf pl M, fun j hj => absurd hj (Nat.not_lt_zero j), fun _ => 0, fun u hu => absurd hu (Nat.not_lt_zero u), fun u hu => absurd hu (Nat.not_lt_zero u)⟩
theorem am_fo.X {s : ps_S} {pl : Nat} {M T : am_M} (hX : ps_X s pl M) (h : am_fo pl M T) : ps_X s pl T ∧ am_fx M T := by
  have hp := hX.2.1
  obtain ⟨-, -, -, -, -, -, -, -, -, -, -, g6, g7, -⟩ := id hX
  refine ⟨hX.pts (fun _ _ => rfl) (fun _ _ _ => rfl) (by rw [h.1]) (by rw [h.1]) (by rw [h.1]) (fun k hk => h.2 k (by omega) (by omega)) (by rw [h.2 _ (by omega) (by omega)]; exact g6) (fun i hi => ⟨by rw [h.2 _ (by omega) (by omega)]; exact (g7 i hi).1, by rw [h.2 _ (by omega) (by omega)]; exact (g7 i hi).2⟩), by rw [h.1], fun k hk => ⟨h.2 k (by omega) (by omega), by rw [h.1]⟩⟩
/-- the point of a rank -/
theorem ps_ord.at {s : ps_S} {pl n : Nat} {T : am_M} (h : ps_ord s pl n T) {j : Nat} (hj : j < n) : T.1 (pl + 4) (ps_rk s n j) = nI j := by
  obtain ⟨-, o, h1, h2⟩ := h
  have b := ps_rk_bd (s := s) hj
  have q := h1 _ b
  rw [h2 _ b, ps_rk_inj q.1 hj q.2]
theorem ps_ord.get {s : ps_S} {pl n : Nat} {T : am_M} (h : ps_ord s pl n T) {u : Nat} (hu : u < n) : ∃ j, j < n ∧ ps_rk s n j = u ∧ T.1 (pl + 4) u = nI j := by
  obtain ⟨-, o, h1, h2⟩ := h
  exact ⟨o u, (h1 u hu).1, (h1 u hu).2, h2 u hu⟩
