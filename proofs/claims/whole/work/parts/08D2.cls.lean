/-! the class's object as it begins -/
def in_0 : ps_S := ps_n in_d10 6 0
theorem in_0_ok : ps_ok in_0 := by
  have h := (tx_R_ok in_s_ok).1
  rw [in_R] at h
  exact h.n6
def in_F (M : am_M) : Prop := M.2.2.1 0 2 = some 23 ∧ M.2.2.1 0 3 = some 38 ∧ (∀ k j q, k < 53 → am_rf k j = some q → M.2.2.1 k j = some q) ∧ (∀ p, p = 23 ∨ p = 38 → ∃ pi : Nat → Nat, (∀ i, i < 8 → pi i < 8 ∧ M.2.2.1 (p + 6) i = some (p + 7 + pi i)) ∧ ∀ i j, i < 8 → j < 8 → pi i = pi j → i = j) ∧ M.2.2.2 = in_SH
theorem in_F.fr {M T : am_M} (h : in_F M) (e : T.2 = M.2) : in_F T := by
  unfold in_F
  rw [e]
  exact h
theorem in_len {M : am_M} (h : M.2.2.2 = in_SH) (q : Nat) : am_len M q = match in_SH[q]? with | some z => z.2 | none => 0 := by
  unfold am_len
  rw [h]
  rfl
theorem in_F.S {M : am_M} (h : in_F M) : tx_S 23 M := by
  obtain ⟨h3, h4, h5, h6, h1⟩ := h
  exact ⟨h5 1 0 2 (by decide) rfl, h5 1 1 3 (by decide) rfl, h5 1 2 4 (by decide) rfl, in_len h1 2, in_len h1 3, in_len h1 4, h5 23 0 24 (by decide) rfl, h5 23 1 29 (by decide) rfl, h5 24 0 25 (by decide) rfl, h5 24 1 26 (by decide) rfl, in_len h1 25, in_len h1 26, in_len h1 29, by decide, by decide, h6 23 (Or.inl rfl)⟩
theorem in_made : ∃ Mc, fX9_init 0 in_1 = am_loop fX9_init_50 100000 (0, 0, Mc) ∧ in_F Mc ∧ Mc.1 1 3 = nI 0 ∧ Mc.1 5 5 = nI 0 ∧ Mc.1 5 6 = nI 0 := by
  obtain ⟨T1, t1, ⟨a1, a2, a3, a4, a5, a6, a7⟩, a8, a9⟩ := in_plan (q := 23) (M := in_24) rfl
  have n1 : am_n T1 = 38 := by
    show T1.2.2.2.length = 38
    rw [a9]; rfl
  have nA : am_n (am_new (am_pR T1 0 2 (some 23)) 9 7) = 39 := by rw [am_n_new, am_n_pR, n1]
  obtain ⟨T2, t2, ⟨b1, b2, b3, b4, b5, b6, b7⟩, b8, b9⟩ := in_plan (q := 38) (M := am_new (am_pR T1 0 2 (some 23)) 9 7) nA
  have rA : ∀ k j, k < 38 → ¬ (k = 0 ∧ j = 2) → T2.2.2.1 k j = T1.2.2.1 k j := fun k j hk h => by
    rw [(b1 k hk).2, am_new_r, if_neg (by rw [am_n_pR, n1]; omega), am_pR_r, if_neg h]
  have rC : ∀ k j, k < 38 → ¬ (k = 0 ∧ (j = 2 ∨ j = 3)) → (am_pR T2 0 3 (some 38)).2.2.1 k j = T1.2.2.1 k j := fun k j hk h => by
    rw [am_pR_r, if_neg (fun z => h ⟨z.1, Or.inr z.2⟩), rA k j hk (fun z => h ⟨z.1, Or.inl z.2⟩)]
  have rB : ∀ k j, ¬ k = 0 → (am_pR T2 0 3 (some 38)).2.2.1 k j = T2.2.2.1 k j := fun k j hk => by
    rw [am_pR_r, if_neg (fun z => hk z.1)]
  have iA : ∀ k, k < 23 → (am_pR T2 0 3 (some 38)).1 k = in_24.1 k := fun k hk => by
    show T2.1 k = _
    rw [(b1 k (by omega)).1]
    funext j
    rw [am_new_i, if_neg (by rw [am_n_pR, n1]; omega)]
    show T1.1 k j = _
    rw [(a1 k hk).1]
  refine ⟨am_pR T2 0 3 (some 38), ?_, ⟨?_, ?_, fun k j q hk hq => ?_, fun p hp => ?_, ?_⟩, ?_, ?_, ?_⟩
  · rw [in_x9, t1, am_bs, am_n_pR, n1]
    have e : fX9_init_41 0 38 0 (am_new (am_pR T1 0 2 (some 23)) (5 + 4) (am_N 4)) = (fX5_init 38 (am_new (am_pR T1 0 2 (some 23)) 9 7)).bind fun M17 => am_loop fX9_init_50 100000 (0, 0, am_pR M17 0 3 (some 38)) := rfl
    rw [e, t2, am_bs]
  · rw [am_pR_r, if_neg (by decide), (b1 0 (by decide)).2, am_new_r, if_neg (by rw [am_n_pR, n1]; decide), am_pR_r, if_pos ⟨rfl, rfl⟩]
  · rw [am_pR_r, if_pos ⟨rfl, rfl⟩]
  · have hx := in_Rf_in hq
    by_cases c : k < 23
    · obtain ⟨w1, w2⟩ := in_Rf_lo _ hx c
      rw [rC k j (by omega) w2, (a1 k c).2]
      exact w1
    · rcases in_Rf_hi _ hx hk c with z | z | z | z | z | z | z | z | z | z | z | z <;> cases z
      · rw [rC 23 0 (by decide) (by decide)]; exact a2
      · rw [rC 23 1 (by decide) (by decide)]; exact a3
      · rw [rC 24 0 (by decide) (by decide)]; exact a4
      · rw [rC 24 1 (by decide) (by decide)]; exact a5
      · rw [rC 24 2 (by decide) (by decide)]; exact a6
      · rw [rC 24 3 (by decide) (by decide)]; exact a7
      · rw [rB 38 0 (by decide)]; exact b2
      · rw [rB 38 1 (by decide)]; exact b3
      · rw [rB 39 0 (by decide)]; exact b4
      · rw [rB 39 1 (by decide)]; exact b5
      · rw [rB 39 2 (by decide)]; exact b6
      · rw [rB 39 3 (by decide)]; exact b7
  · refine ⟨fun i => i, fun i hi => ⟨hi, ?_⟩, fun i j _ _ h => h⟩
    rcases hp with rfl | rfl
    · rw [rC 29 i (by decide) (by omega)]; exact a8 i hi
    · rw [rB 44 i (by decide)]; exact b8 i hi
  · show T2.2.2.2 = in_SH
    rw [b9]
    show T1.2.2.2 ++ [(9, 7)] ++ _ ++ _ = in_SH
    rw [a9]
    rfl
  · rw [iA 1 (by decide)]; rfl
  · rw [iA 5 (by decide)]; rfl
  · rw [iA 5 (by decide)]; rfl
theorem in_cls : ∃ M, fX9_init 0 in_1 = some M ∧ in_F M ∧ ps_P in_d10 23 M ∧ M.1 1 3 = nI 0 ∧ M.1 1 4 = nI 0 ∧ M.1 5 5 = nI 0 ∧ M.1 5 6 = nI 0 := by
  obtain ⟨Mc, c1, c2, c3, c4, c5⟩ := in_made
  rw [c1]
  have hS := c2.S
  obtain ⟨s1, s2, s3, s4, -⟩ := id hS
  have r00 := c2.2.2.1 0 0 1 (by decide) rfl
  have r02 := c2.1
  exact am_loop_inv (f := fX9_init_50) (fun i st => ∃ T, st = (0, nI i, T) ∧ T.2 = Mc.2 ∧ (∀ k, k ≠ 1 → k ≠ 2 → T.1 k = Mc.1 k) ∧ T.1 1 3 = nI i ∧ ∀ j, j < i → T.1 2 j = nI (in_L.getD j 0)) (fun r => ∃ M, r = some M ∧ in_F M ∧ ps_P in_d10 23 M ∧ M.1 1 3 = nI 0 ∧ M.1 1 4 = nI 0 ∧ M.1 5 5 = nI 0 ∧ M.1 5 6 = nI 0) 68
    (fun i st kk hi ⟨T, e, h1, h2, h3, h4⟩ => by
      subst e
      have hc := in_chr ⟨i, hi⟩
      have hb := in_chr_le ⟨i, hi⟩
      have hc : am_chr2 (nI i) = nI (in_L.getD i 0) := hc
      have hb : 32 ≤ in_L.getD i 0 ∧ in_L.getD i 0 ≤ 126 := hb
      have r1 : T.2.2.1 0 0 = some 1 := by rw [h1]; exact r00
      have r10 : T.2.2.1 1 0 = some 2 := by rw [h1]; exact s1
      have l2 : am_len T 2 = 200 := by
        have : am_len T 2 = am_len Mc 2 := by unfold am_len; rw [h1]
        rw [this, s4]
      have e68 : ((68 : Int32) ≤ nI i) = False := by rw [nm_68, nm_le (by decide) (by omega)]; exact eq_false (by omega)
      have e68' : (nI i < (68 : Int32)) = True := by rw [nm_68, nm_lt (by omega) (by decide)]; exact eq_true hi
      have e200 : (nI i < (200 : Int32)) = True := by rw [nm_200, nm_lt (by omega) (by decide)]; exact eq_true (by omega)
      have e13 : (am_pI T 2 i (nI (in_L.getD i 0))).1 1 3 + 1 = nI (i + 1) := by rw [am_pI_r _ _ _ _ (by decide), h3, nI_1]
      refine Or.inl ⟨_, ⟨am_pI (am_pI T 2 i (nI (in_L.getD i 0))) 1 3 (nI (i + 1)), rfl, h1, fun k a b => by rw [am_pI_r _ _ _ _ a, am_pI_r _ _ _ _ b]; exact h2 k a b, by rw [am_pI_1, if_pos ⟨rfl, rfl⟩], fun j hj => ?_⟩, ?_⟩
      · rw [am_pI_r _ _ _ _ (by decide), am_pI_1]
        by_cases z : j = i
        · rw [if_pos ⟨rfl, z⟩, z]
        · rw [if_neg (fun w => z w.2)]; exact h4 j (by omega)
      · unfold fX9_init_50 fJ0_length fJ0_charAt fX7_append
        simp only [am_bs, e68, if_false, r1, nz_lt0 (show i < 2147483648 by omega), e68', if_true, hc, h3, e200, r10, l2, nm_cl (show i < 2147483648 by omega), false_or, show (200 ≤ i) = False from eq_false (by omega), nm_nar (show in_L.getD i 0 < 65536 by omega), e13, nI_1])
    (fun st kk ⟨T, e, h1, h2, h3, h4⟩ => by
      subst e
      have F := c2.fr h1
      obtain ⟨U, u1, u2, u3, u4⟩ := px_readInto (s := in_s) (q := 23) in_s_ok F.S h3 (fun i hi => h4 i hi)
      rw [in_R] at u1 u3
      obtain ⟨u5, u6⟩ := u3 rfl
      have FU := F.fr u2.1
      have r1 : T.2.2.1 0 0 = some 1 := by rw [h1]; exact r00
      have r2 : T.2.2.1 0 2 = some 23 := by rw [h1]; exact r02
      have rU : U.2.2.1 0 0 = some 1 := by rw [u2.1]; exact r1
      refine ⟨am_pI U 1 3 (nI 0), ?_, FU, ps_P.fr (M := U) u5 rfl (fun k k1 k2 => am_pI_r _ _ _ _ (by omega)), by rw [am_pI_1, if_pos ⟨rfl, rfl⟩], by rw [am_pI_1, if_neg (by decide)]; exact u6, ?_, ?_⟩
      · unfold fX9_init_50 fJ0_length fX7_clear
        simp only [am_bs, show ((68 : Int32) ≤ nI 68) = True from eq_true (by decide), if_true, r1, r2, u1, rU]
        rfl
      · rw [am_pI_r _ _ _ _ (by decide), u2.2.1 5 (by decide) (by decide) (by decide) (by decide), h2 5 (by decide) (by decide)]; exact c4
      · rw [am_pI_r _ _ _ _ (by decide), u2.2.1 5 (by decide) (by decide) (by decide) (by decide), h2 5 (by decide) (by decide)]; exact c5)
    100000 0 (0, 0, Mc) (Nat.zero_le _) (by decide) ⟨Mc, rfl, rfl, fun _ _ _ => rfl, c3, fun j hj => absurd hj (Nat.not_lt_zero j)⟩
