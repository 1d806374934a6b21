/-! ===== what of the state the shape hangs on ===== -/
theorem ps_has_cg {s s' : ps_S} (hr : ∀ r, r < 6 → s'.2 r = s.2 r) (i x y : Nat) : ps_has s' i x y = ps_has s i x y := by
  unfold ps_has
  rw [hr 1 (by decide), hr 2 (by decide), hr 3 (by decide), hr 4 (by decide), hr 5 (by decide)]
theorem ps_scan_cg {s s' : ps_S} (hr : ∀ r, r < 6 → s'.2 r = s.2 r) (x y : Nat) : ∀ n, ps_scan s' x y n = ps_scan s x y n
  | 0 => rfl
  | n + 1 => by rw [ps_scan, ps_scan, ps_has_cg hr, ps_scan_cg hr x y n, hr 0 (by decide)]
theorem ps_sk_cg {s s' : ps_S} (hs : ∀ k, k < 5 → s'.1 k = s.1 k) (hr : ∀ r, r < 6 → s'.2 r = s.2 r) : ps_sk s' = ps_sk s := by
  funext k
  unfold ps_sk ps_in
  rw [hs 0 (by decide), hs 1 (by decide), hs 4 (by decide), ps_scan_cg hr]
theorem ps_cov_cg {s s' : ps_S} (hs : ∀ k, k < 5 → s'.1 k = s.1 k) (hr : ∀ r, r < 6 → s'.2 r = s.2 r) : ps_cov s' = ps_cov s := by
  funext w k
  unfold ps_cov ps_sz
  rw [ps_sk_cg hs hr, hs 0 (by decide), hs 3 (by decide)]
theorem bs_row_cg {s s' : ps_S} (hs : ∀ k, k < 5 → s'.1 k = s.1 k) (hr : ∀ r, r < 6 → s'.2 r = s.2 r) : ∀ n, bs_row s' n = bs_row s n
  | 0 => by
    funext l k t
    rw [bs_row, bs_row]
    unfold ps_sz
    rw [ps_sk_cg hs hr, hs 0 (by decide)]
  | n + 1 => by
    funext l k t
    rw [bs_row, bs_row, bs_row_cg hs hr n, hs 2 (by decide)]
    unfold ps_sz
    rw [hs 0 (by decide)]
/-- the text has changed alone -/
theorem ps_X.text {s s' : ps_S} {pl : Nat} {M M1 : am_M} (h : ps_X s pl M) (hs : ∀ k, k < 6 → s'.1 k = s.1 k) (hr : ∀ r, r < 8 → s'.2 r = s.2 r)
    (f1 : M1.2.2.2 = M.2.2.2) (f2 : M1.2.1 = M.2.1) (f3 : M1.2.2.1 = M.2.2.1) (f4 : ∀ k, k < 1 ∨ 4 < k → M1.1 k = M.1 k)
    (t1 : M1.1 1 3 = nI (s'.1 6)) (t2 : M1.1 1 4 = nI (s'.1 7)) (t3 : ∀ i, i < s'.1 6 → M1.1 2 i = nI (s'.2 8 i)) (t4 : ∀ i, i < s'.1 7 → M1.1 4 i = nI (s'.2 9 i)) : ps_X s' pl M1 := by
  obtain ⟨h1, h2, h3, h4, h5, h6, g1, g2, g3, g4, g5, g6, g7, g8, g9, g10, g11, g12, g13, g14⟩ := h
  have hs5 : ∀ k, k < 5 → s'.1 k = s.1 k := fun k hk => hs k (by omega)
  have hr6 : ∀ r, r < 6 → s'.2 r = s.2 r := fun r hk => hr r (by omega)
  refine ⟨f1.trans h1, h2, by rw [f3]; exact h3, by rw [f3]; exact h4, by rw [f3]; exact h5, by rw [f3]; exact h6, ?_⟩
  rw [f4 pl (by omega), f4 (pl + 1) (by omega), f4 (pl + 2) (by omega), f4 (pl + 3) (by omega), f4 5 (by omega), f4 16 (by omega), f3, hs 0 (by decide), hs 1 (by decide), hs 2 (by decide), hs 3 (by decide), hs 4 (by decide), hs 5 (by decide), hr 6 (by decide), hr 7 (by decide), ps_sk_cg hs5 hr6, ps_cov_cg hs5 hr6, bs_row_cg hs5 hr6]
  refine ⟨g1, g2, g3, g4, g5, g6, g7, fun i hi => ?_, t1, t2, t3, t4, ?_, g14⟩
  · obtain ⟨q, q1, q2, q3, q4⟩ := g8 i hi
    exact ⟨q, q1, q2, q3, fun j hj => by rw [f4 q (by omega), hr j (by omega)]; exact q4 j hj⟩
  · rcases g13 with g | ⟨g, k1, k2, k3⟩
    · exact Or.inl g
    · exact Or.inr ⟨g, k1.fr (by rw [f2]), k2.fr (by rw [f2]), k3.fr (by rw [f2])⟩
/-- the points have changed alone: rows of the plan's points -/
theorem ps_X.pts {s s' : ps_S} {pl : Nat} {M M1 : am_M} (h : ps_X s pl M) (hs : ∀ k, k ≠ 5 → s'.1 k = s.1 k) (hr : ∀ r, r ≠ 6 → r ≠ 7 → s'.2 r = s.2 r)
    (f1 : M1.2.2.2 = M.2.2.2) (f2 : M1.2.1 = M.2.1) (f3 : M1.2.2.1 = M.2.2.1) (f4 : ∀ k, k < pl + 1 ∨ pl + 5 < k → M1.1 k = M.1 k)
    (t1 : M1.1 (pl + 1) 4 = nI (s'.1 5)) (t2 : ∀ i, i < s'.1 5 → M1.1 (pl + 2) i = nI (s'.2 6 i) ∧ M1.1 (pl + 3) i = nI (s'.2 7 i)) : ps_X s' pl M1 := by
  obtain ⟨h1, h2, h3, h4, h5, h6, g1, g2, g3, g4, g5, g6, g7, g8, g9, g10, g11, g12, g13, g14⟩ := h
  have hs5 : ∀ k, k < 5 → s'.1 k = s.1 k := fun k hk => hs k (by omega)
  have hr6 : ∀ r, r < 6 → s'.2 r = s.2 r := fun r hk => hr r (by omega) (by omega)
  refine ⟨f1.trans h1, h2, by rw [f3]; exact h3, by rw [f3]; exact h4, by rw [f3]; exact h5, by rw [f3]; exact h6, ?_⟩
  rw [f4 pl (by omega), f4 1 (by omega), f4 2 (by omega), f4 4 (by omega), f4 5 (by omega), f4 16 (by omega), f3, hs 0 (by decide), hs 1 (by decide), hs 2 (by decide), hs 3 (by decide), hs 4 (by decide), hs 6 (by decide), hs 7 (by decide), hr 8 (by decide) (by decide), hr 9 (by decide) (by decide), ps_sk_cg hs5 hr6, ps_cov_cg hs5 hr6, bs_row_cg hs5 hr6]
  refine ⟨g1, g2, g3, g4, g5, t1, t2, fun i hi => ?_, g9, g10, g11, g12, ?_, g14⟩
  · obtain ⟨q, q1, q2, q3, q4⟩ := g8 i hi
    exact ⟨q, q1, q2, q3, fun j hj => by rw [f4 q (by omega), hr6 j hj]; exact q4 j hj⟩
  · rcases g13 with g | ⟨g, k1, k2, k3⟩
    · exact Or.inl g
    · exact Or.inr ⟨g, k1.fr (by rw [f2]), k2.fr (by rw [f2]), k3.fr (by rw [f2])⟩
/-- the plan has changed, the covers are forgotten: rows of the plan and its parts, fields 5 and 6 of the covers -/
theorem ps_X.plan {s s' : ps_S} {pl : Nat} {M M1 : am_M} (h : ps_X s pl M) (hs : ∀ k, 4 < k → s'.1 k = s.1 k) (hr : ∀ r, 5 < r → s'.2 r = s.2 r)
    (f1 : M1.2.2.2 = M.2.2.2) (f3 : ∀ k, k ≠ pl + 6 → M1.2.2.1 k = M.2.2.1 k) (f4 : ∀ k, k ≠ 5 → k ≠ pl → (k < pl + 7 ∨ pl + 14 < k) → M1.1 k = M.1 k)
    (h6 : ∃ pi : Nat → Nat, (∀ i, i < 8 → pi i < 8 ∧ M1.2.2.1 (pl + 6) i = some (pl + 7 + pi i)) ∧ ∀ i j, i < 8 → j < 8 → pi i = pi j → i = j)
    (t1 : M1.1 pl 2 = nI (s'.1 4)) (t2 : M1.1 pl 3 = nI (s'.1 0)) (t3 : M1.1 pl 4 = nI (s'.1 1)) (t4 : M1.1 pl 5 = nI (s'.1 2)) (t5 : M1.1 pl 6 = nI (s'.1 3))
    (t6 : ∀ i, i < s'.1 4 → ∃ q, M1.2.2.1 (pl + 6) i = some q ∧ pl + 7 ≤ q ∧ q < pl + 15 ∧ ∀ j, j < 6 → M1.1 q j = nI (s'.2 j i))
    (t7 : M1.1 5 5 = nI 0) (t8 : M1.1 5 6 = nI 0) : ps_X s' pl M1 := by
  obtain ⟨h1, h2, h3, h4, h5, h6', g1, g2, g3, g4, g5, g6, g7, g8, g9, g10, g11, g12, g13, g14⟩ := h
  refine ⟨f1.trans h1, h2, by rw [f3 0 (by omega)]; exact h3, by rw [f3 0 (by omega)]; exact h4, fun k j q hk hq => ?_, fun p hp => ?_, t1, t2, t3, t4, t5, ?_⟩
  · have hne : k ≠ pl + 6 := by
      rintro rfl
      have e29 : am_rf (23 + 6) j = none := rfl
      have e44 : am_rf (38 + 6) j = none := rfl
      rcases h2 with rfl | rfl
      · rw [e29] at hq; cases hq
      · rw [e44] at hq; cases hq
    rw [f3 k hne]
    exact h5 k j q hk hq
  · by_cases e : p = pl
    · subst e; exact h6
    · obtain ⟨pi, a, b⟩ := h6' p hp
      exact ⟨pi, fun i hi => by rw [f3 (p + 6) (by omega)]; exact a i hi, b⟩
  · rw [f4 (pl + 1) (by omega) (by omega) (by omega), f4 (pl + 2) (by omega) (by omega) (by omega), f4 (pl + 3) (by omega) (by omega) (by omega), f4 1 (by decide) (by omega) (by omega), f4 2 (by decide) (by omega) (by omega), f4 4 (by decide) (by omega) (by omega), hs 5 (by decide), hs 6 (by decide), hs 7 (by decide), hr 6 (by decide), hr 7 (by decide), hr 8 (by decide), hr 9 (by decide)]
    exact ⟨g6, g7, t6, g9, g10, g11, g12, Or.inl t7, Or.inl t8⟩
/-! reading -/
theorem am_pI_1 (M : am_M) (k j : Nat) (x : Int32) (a i : Nat) : (am_pI M k j x).1 a i = if a = k ∧ i = j then x else M.1 a i := rfl
theorem am_pI_2 (M : am_M) (k j : Nat) (x : Int32) : (am_pI M k j x).2 = M.2 := rfl
theorem am_pI_r (M : am_M) (k j : Nat) (x : Int32) {a : Nat} (h : a ≠ k) : (am_pI M k j x).1 a = M.1 a := am_up_ne _ j x h
theorem am_len_pI (M : am_M) (k j : Nat) (x : Int32) (q : Nat) : am_len (am_pI M k j x) q = am_len M q := rfl
theorem am_len_SH {M : am_M} (h : M.2.2.2 = am_SH) (q : Nat) : am_len M q = match am_SH[q]? with | some z => z.2 | none => 0 := by
  unfold am_len
  rw [h]
  rfl
theorem am_ixn {j n : Nat} (hj : j < n) (hn : n < 2147483648) : ¬ (nI j < 0 ∨ n ≤ (nI j).toNatClampNeg) := by
  rw [nm_0, nm_lt (by omega) (by omega), nm_cl (by omega)]
  omega
theorem am_ix {α : Type} {j n : Nat} (hj : j < n) (hn : n < 2147483648) (X : Option α) : (if nI j < 0 ∨ n ≤ (nI j).toNatClampNeg then none else X) = X := if_neg (am_ixn hj hn)
