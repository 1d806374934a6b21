/-! ===== the reference's best ===== -/
def am_fy (M T : am_M) : Prop := T.2 = M.2 ∧ ∀ k, k ≠ 62 → k ≠ 63 → k ≠ 64 → T.1 k = M.1 k
theorem am_fy.rf (M : am_M) : am_fy M M := ⟨rfl, fun _ _ _ _ => rfl⟩
theorem am_fy.tr {M T U : am_M} (h : am_fy M T) (h' : am_fy T U) : am_fy M U := ⟨h'.1.trans h.1, fun k a b c => (h'.2 k a b c).trans (h.2 k a b c)⟩
theorem am_fy.one {r : Nat} {M T : am_M} (h2 : T.2 = M.2) (h1 : ∀ k, k ≠ r → T.1 k = M.1 k) (hr : r = 62 ∨ r = 63 ∨ r = 64) : am_fy M T := ⟨h2, fun k a b c => h1 k (by omega)⟩
theorem am_fy.R {s : ps_S} {M T : am_M} (hM : ps_M s M) (h : am_fy M T) : ps_R s M T := by
  obtain ⟨m1, m2, m3, m4, m5, m6, m7, m8, m9, m10, m11, m12, m13, m14⟩ := hM
  have r : ∀ k, k < 62 → T.1 k = M.1 k := fun k hk => h.2 k (by omega) (by omega) (by omega)
  refine ⟨⟨by rw [h.1]; exact m1, by rw [h.1]; exact m2, ?_⟩, by rw [h.1], fun k hk => ⟨r k (by omega), by rw [h.1], by rw [h.1]⟩⟩
  rw [r 53 (by decide), r 54 (by decide), r 55 (by decide), r 56 (by decide), r 57 (by decide), r 58 (by decide)]
  exact ⟨m3, m4, m5, m6, m7, m8, m9, m10, m11, m12, m13, m14⟩
theorem nz_13 (l m : Nat) : (13 : Int32) * nI l + nI m = nI (13 * l + m) := by rw [nm_13, pk_mul, nI_add]
theorem nz_13le {m : Nat} (h : m < 2147483648) : ((13 : Int32) ≤ nI m) = (13 ≤ m) := by rw [nm_13, nm_le (by decide) h]
theorem pm_clears {s : ps_S} {M : am_M} (hM : ps_M s M) {l : Nat} (hl : l < 7) : ∃ T, fX10_clears 53 (nI l) M = some T ∧ T.2 = M.2 ∧ (∀ k, k ≠ 62 → T.1 k = M.1 k) ∧ (∀ t, t < 13 → T.1 62 (13 * l + t) = nI 0) ∧ ∀ l', l' ≠ l → ∀ t, t < 13 → T.1 62 (13 * l' + t) = M.1 62 (13 * l' + t) := by
  obtain ⟨-, -, -, -, r25, -, -, -, -, -, -, -, l62, -⟩ := hM.r
  exact am_loop_inv (f := fX10_clears_2) (fun i st => ∃ T, st = (53, nI l, nI i, T) ∧ T.2 = M.2 ∧ (∀ k, k ≠ 62 → T.1 k = M.1 k) ∧ (∀ t, t < i → T.1 62 (13 * l + t) = nI 0) ∧ ∀ l', l' ≠ l → ∀ t, t < 13 → T.1 62 (13 * l' + t) = M.1 62 (13 * l' + t)) (fun r => ∃ T, r = some T ∧ T.2 = M.2 ∧ (∀ k, k ≠ 62 → T.1 k = M.1 k) ∧ (∀ t, t < 13 → T.1 62 (13 * l + t) = nI 0) ∧ ∀ l', l' ≠ l → ∀ t, t < 13 → T.1 62 (13 * l' + t) = M.1 62 (13 * l' + t)) 13
    (fun i st kk hi ⟨T, e, h1, h2, h3, h4⟩ => by
      subst e
      have el : am_len T 62 = 91 := by
        have : am_len T 62 = am_len M 62 := by unfold am_len; rw [h1]
        rw [this, l62]
      have er : T.2.2.1 53 25 = some 62 := by rw [h1]; exact r25
      refine Or.inl ⟨_, ⟨am_pI T 62 (13 * l + i) (nI 0), rfl, h1, fun k hk => (am_pI_r _ _ _ _ hk).trans (h2 k hk), fun t ht => ?_, fun l' hl' t ht => ?_⟩, ?_⟩
      · rw [am_pI_1]
        by_cases e : t = i
        · rw [if_pos ⟨rfl, by rw [e]⟩]
        · rw [if_neg (fun q => by omega)]; exact h3 t (by omega)
      · rw [am_pI_1, if_neg (fun q => by omega)]; exact h4 l' hl' t ht
      · unfold fX10_clears_2
        simp only [nz_13le (show i < 2147483648 by omega), show (13 ≤ i) = False from eq_false (by omega), nz_lt0 (show i < 2147483648 by omega), or_self, if_false, er, am_bs, nz_13, el, nm_cl (show 13 * l + i < 2147483648 by omega), am_ixc (show 13 * l + i < 91 by omega) (show 91 < 2147483648 by decide), nI_1]
        rfl)
    (fun st kk ⟨T, e, h⟩ => by
      subst e
      refine ⟨T, ?_, h⟩
      unfold fX10_clears_2
      simp only [show ((13 : Int32) ≤ nI 13) = True from eq_true (by decide), if_true])
    100000 0 (53, nI l, 0, M) (by decide) (by decide) ⟨M, rfl, rfl, fun _ _ => rfl, fun t ht => absurd ht (Nat.not_lt_zero t), fun _ _ _ _ => rfl⟩
theorem pm_comeIn {s : ps_S} {M : am_M} (hM : ps_M s M) {l m : Nat} (hl : l < 7) (hm : m < 13) {A B : Nat → Nat} (hA : ∀ t, t < 13 → M.1 62 (13 * l + t) = nI (A t)) (hB : ∀ t, t < 13 → M.1 64 t = nI (B t)) (cA : ∀ t, A t ≤ 1000000) (cB : ∀ t, B t ≤ 1000000) (k2 : (Nat × Int32 × Int32 × am_M) → Option am_M) : ∃ T, am_loop (fX10_comes_18 k2) 100000 (53, nI l, nI m, 0, am_pI M 63 m 1000000) = k2 (53, nI l, nI (m + 1), T) ∧ T.2 = M.2 ∧ (∀ k, k ≠ 63 → T.1 k = M.1 k) ∧ (∀ t, t ≠ m → T.1 63 t = M.1 63 t) ∧ T.1 63 m = nI (bs_add B A m) := by
  obtain ⟨-, -, -, -, r25, r26, r27, -, -, -, -, -, l62, l63, l64, -⟩ := hM.r
  exact am_loop_inv (f := fX10_comes_18 k2) (fun j st => ∃ T, st = (53, nI l, nI m, nI j, T) ∧ T.2 = M.2 ∧ (∀ k, k ≠ 63 → T.1 k = M.1 k) ∧ (∀ t, t ≠ m → T.1 63 t = M.1 63 t) ∧ T.1 63 m = nI (bs_pm (fun j => B (m - j) + A j) j)) (fun r => ∃ T, r = k2 (53, nI l, nI (m + 1), T) ∧ T.2 = M.2 ∧ (∀ k, k ≠ 63 → T.1 k = M.1 k) ∧ (∀ t, t ≠ m → T.1 63 t = M.1 63 t) ∧ T.1 63 m = nI (bs_add B A m)) (m + 1)
    (fun j st kk hj ⟨T, e, h1, h2, h3, h4⟩ => by
      subst e
      have el : ∀ q, am_len T q = am_len M q := fun q => by unfold am_len; rw [h1]
      have er : T.2.2.1 = M.2.2.1 := by rw [h1]
      have b1 := bs_pm_le (fun j => B (m - j) + A j) j
      have b2 := cA j
      have b3 := cB (m - j)
      have eA : T.1 62 (13 * l + j) = nI (A j) := by rw [h2 62 (by decide)]; exact hA j (by omega)
      have eB : T.1 64 (m - j) = nI (B (m - j)) := by rw [h2 64 (by decide)]; exact hB (m - j) (by omega)
      refine Or.inl ⟨_, ⟨am_pI T 63 m (nI (bs_pm (fun j => B (m - j) + A j) (j + 1))), rfl, h1, fun k hk => (am_pI_r _ _ _ _ hk).trans (h2 k hk), fun t ht => by rw [am_pI_1, if_neg (fun q => ht q.2)]; exact h3 t ht, by rw [am_pI_1, if_pos ⟨rfl, rfl⟩]⟩, ?_⟩
      unfold fX10_comes_18 fX10_comes_72
      simp only [nm_lt (show m < 2147483648 by omega) (show j < 2147483648 by omega), show (m < j) = False from eq_false (by omega), if_false, er, r25, r26, r27, am_bs, el, l62, l63, l64, nz_13, nm_cl (show 13 * l + j < 2147483648 by omega), am_ixc (show 13 * l + j < 91 by omega) (show 91 < 2147483648 by decide), nm_sub (show j ≤ m by omega), nm_cl (show m - j < 2147483648 by omega), am_ixc (show m - j < 13 by omega) (show 13 < 2147483648 by decide), nm_cl (show m < 2147483648 by omega), am_ixc (show m < 13 by omega) (show 13 < 2147483648 by decide), eA, eB, h4, nI_add, nI_1]
      rw [bs_pm_s]
      generalize bs_pm (fun j => B (m - j) + A j) j = P at *
      simp only [nm_le (show P < 2147483648 by omega) (show A j + B (m - j) < 2147483648 by omega)]
      by_cases c : P ≤ A j + B (m - j)
      · rw [if_pos c, show min P (B (m - j) + A j) = P by omega]
      · rw [if_neg c, show min P (B (m - j) + A j) = A j + B (m - j) by omega])
    (fun st kk ⟨T, e, h1, h2, h3, h4⟩ => by
      subst e
      refine ⟨T, ?_, h1, h2, h3, h4⟩
      unfold fX10_comes_18
      simp only [nm_lt (show m < 2147483648 by omega) (show m + 1 < 2147483648 by omega), show (m < m + 1) = True from eq_true (by omega), if_true, nI_1])
    100000 0 (53, nI l, nI m, 0, am_pI M 63 m 1000000) (Nat.zero_le _) (by omega) ⟨_, rfl, rfl, fun k hk => am_pI_r _ _ _ _ hk, fun t ht => by rw [am_pI_1, if_neg (fun q => ht q.2)], by rw [am_pI_1, if_pos ⟨rfl, rfl⟩]; rfl⟩
theorem pm_comes {s : ps_S} {M : am_M} (hM : ps_M s M) {l : Nat} (hl : l < 7) {A B : Nat → Nat} (hA : ∀ t, t < 13 → M.1 62 (13 * l + t) = nI (A t)) (hB : ∀ t, t < 13 → M.1 64 t = nI (B t)) (cA : ∀ t, A t ≤ 1000000) (cB : ∀ t, B t ≤ 1000000) : ∃ T, fX10_comes 53 (nI l) M = some T ∧ am_fy M T ∧ T.1 64 = M.1 64 ∧ (∀ t, t < 13 → T.1 62 (13 * l + t) = nI (bs_add A B t)) ∧ ∀ l', l' ≠ l → ∀ t, t < 13 → T.1 62 (13 * l' + t) = M.1 62 (13 * l' + t) := by
  obtain ⟨-, -, -, -, r25, r26, r27, -, -, -, -, -, l62, l63, l64, -⟩ := hM.r
  have part2 : ∀ U : am_M, am_fy M U → U.1 64 = M.1 64 → U.1 62 = M.1 62 → (∀ t, t < 13 → U.1 63 t = nI (bs_add B A t)) → ∃ T, am_loop fX10_comes_87 100000 (53, nI l, 0, U) = some T ∧ am_fy M T ∧ T.1 64 = M.1 64 ∧ (∀ t, t < 13 → T.1 62 (13 * l + t) = nI (bs_add A B t)) ∧ ∀ l', l' ≠ l → ∀ t, t < 13 → T.1 62 (13 * l' + t) = M.1 62 (13 * l' + t) := fun U u1 u2 u3 u4 =>
    am_loop_inv (f := fX10_comes_87) (fun i st => ∃ T, st = (53, nI l, nI i, T) ∧ T.2 = U.2 ∧ (∀ k, k ≠ 62 → T.1 k = U.1 k) ∧ (∀ t, t < i → T.1 62 (13 * l + t) = nI (bs_add A B t)) ∧ ∀ l', l' ≠ l → ∀ t, t < 13 → T.1 62 (13 * l' + t) = U.1 62 (13 * l' + t)) (fun r => ∃ T, r = some T ∧ am_fy M T ∧ T.1 64 = M.1 64 ∧ (∀ t, t < 13 → T.1 62 (13 * l + t) = nI (bs_add A B t)) ∧ ∀ l', l' ≠ l → ∀ t, t < 13 → T.1 62 (13 * l' + t) = M.1 62 (13 * l' + t)) 13
      (fun i st kk hi ⟨T, e, h1, h2, h3, h4⟩ => by
        subst e
        have el : ∀ q, am_len T q = am_len M q := fun q => by unfold am_len; rw [h1, u1.1]
        have er : T.2.2.1 = M.2.2.1 := by rw [h1, u1.1]
        have eS : T.1 63 i = nI (bs_add A B i) := by rw [h2 63 (by decide), u4 i hi, bs_comm]
        have b1 := bs_min_cap (fun j => A (i - j) + B j) i
        have b2 : bs_add A B i ≤ 1000000 := b1
        have eF : ((1000000 : Int32) ≤ nI (bs_add A B i)) = (1000000 ≤ bs_add A B i) := by rw [nm_1000000, nm_le (by decide) (by omega)]
        refine Or.inl ⟨_, ⟨am_pI T 62 (13 * l + i) (nI (bs_add A B i)), rfl, h1, fun k hk => (am_pI_r _ _ _ _ hk).trans (h2 k hk), fun t ht => ?_, fun l' hl' t ht => ?_⟩, ?_⟩
        · rw [am_pI_1]
          by_cases e : t = i
          · rw [if_pos ⟨rfl, by rw [e]⟩, e]
          · rw [if_neg (fun q => by omega)]; exact h3 t (by omega)
        · rw [am_pI_1, if_neg (fun q => by omega)]; exact h4 l' hl' t ht
        · unfold fX10_comes_87 fX10_comes_125
          simp only [nz_13le (show i < 2147483648 by omega), show (13 ≤ i) = False from eq_false (by omega), nz_lt0 (show i < 2147483648 by omega), or_self, if_false, er, r25, r26, am_bs, nz_13, el, l62, l63, nm_cl (show i < 2147483648 by omega), am_ixc (show i < 13 by omega) (show 13 < 2147483648 by decide), nm_cl (show 13 * l + i < 2147483648 by omega), am_ixc (show 13 * l + i < 91 by omega) (show 91 < 2147483648 by decide), eS, eF, nI_1]
          by_cases c : 1000000 ≤ bs_add A B i
          · rw [if_pos c, show bs_add A B i = 1000000 by omega]; rfl
          · rw [if_neg c])
      (fun st kk ⟨T, e, h1, h2, h3, h4⟩ => by
        subst e
        refine ⟨T, ?_, u1.tr (am_fy.one h1 h2 (Or.inl rfl)), by rw [h2 64 (by decide), u2], h3, fun l' hl' t ht => by rw [h4 l' hl' t ht, u3]⟩
        unfold fX10_comes_87
        simp only [show ((13 : Int32) ≤ nI 13) = True from eq_true (by decide), if_true])
      100000 0 (53, nI l, 0, U) (by decide) (by decide) ⟨U, rfl, rfl, fun _ _ => rfl, fun t ht => absurd ht (Nat.not_lt_zero t), fun _ _ _ _ => rfl⟩
  exact am_loop_inv (f := fX10_comes_2) (fun m st => ∃ T, st = (53, nI l, nI m, T) ∧ T.2 = M.2 ∧ (∀ k, k ≠ 63 → T.1 k = M.1 k) ∧ ∀ t, t < m → T.1 63 t = nI (bs_add B A t)) (fun r => ∃ T, r = some T ∧ am_fy M T ∧ T.1 64 = M.1 64 ∧ (∀ t, t < 13 → T.1 62 (13 * l + t) = nI (bs_add A B t)) ∧ ∀ l', l' ≠ l → ∀ t, t < 13 → T.1 62 (13 * l' + t) = M.1 62 (13 * l' + t)) 13
    (fun m st kk hm ⟨T, e, h1, h2, h3⟩ => by
      subst e
      have fT : am_fy M T := am_fy.one h1 h2 (Or.inr (Or.inl rfl))
      have hMT := (fT.R hM).1
      have el : ∀ q, am_len T q = am_len M q := fun q => by unfold am_len; rw [h1]
      have er : T.2.2.1 = M.2.2.1 := by rw [h1]
      obtain ⟨U, u1, u2, u3, u4, u5⟩ := pm_comeIn hMT hl hm (A := A) (B := B) (fun t ht => by rw [h2 62 (by decide)]; exact hA t ht) (fun t ht => by rw [h2 64 (by decide)]; exact hB t ht) cA cB kk
      refine Or.inl ⟨_, ⟨U, rfl, u2.trans h1, fun k hk => (u3 k hk).trans (h2 k hk), fun t ht => ?_⟩, ?_⟩
      · by_cases e : t = m
        · rw [e]; exact u5
        · rw [u4 t e]; exact h3 t (by omega)
      · unfold fX10_comes_2
        simp only [nz_13le (show m < 2147483648 by omega), show (13 ≤ m) = False from eq_false (by omega), nz_lt0 (show m < 2147483648 by omega), or_self, if_false, er, r26, am_bs, el, l63, nm_cl (show m < 2147483648 by omega), am_ixc (show m < 13 by omega) (show 13 < 2147483648 by decide)]
        exact u1)
    (fun st kk ⟨T, e, h1, h2, h3⟩ => by
      subst e
      obtain ⟨U, u1, u2⟩ := part2 T (am_fy.one h1 h2 (Or.inr (Or.inl rfl))) (h2 64 (by decide)) (h2 62 (by decide)) h3
      refine ⟨U, ?_, u2⟩
      unfold fX10_comes_2
      simp only [show ((13 : Int32) ≤ nI 13) = True from eq_true (by decide), if_true]
      exact u1)
    100000 0 (53, nI l, 0, M) (by decide) (by decide) ⟨M, rfl, rfl, fun _ _ => rfl, fun t ht => absurd ht (Nat.not_lt_zero t)⟩
theorem pm_closes {s : ps_S} {M : am_M} (ho : ps_ok s) (hM : ps_M s M) {l : Nat} (hl : l ≤ s.1 3) {S : Nat → Nat} (hS : ∀ t, t < 13 → M.1 62 (13 * l + t) = nI (S t)) (cS : ∀ t, S t ≤ 1000000) : ∃ T, fX10_closes 53 (nI l) M = some T ∧ T.2 = M.2 ∧ (∀ k, k ≠ 64 → T.1 k = M.1 k) ∧ ∀ t, t < 13 → T.1 64 t = nI (if s.1 2 ≤ l ∧ 1 ≤ t then min (S t) (ps_sz s l) else S t) := by
  obtain ⟨o1, o2, o3, o4, o5, -⟩ := id ho
  obtain ⟨-, -, -, -, r25, r26, r27, -, -, -, -, -, l62, l63, l64, -⟩ := hM.r
  have hz := ps_sz_le ho l
  exact am_loop_inv (f := fX10_closes_2) (fun i st => ∃ T, st = (53, nI l, nI i, T) ∧ T.2 = M.2 ∧ (∀ k, k ≠ 64 → T.1 k = M.1 k) ∧ ∀ t, t < i → T.1 64 t = nI (if s.1 2 ≤ l ∧ 1 ≤ t then min (S t) (ps_sz s l) else S t)) (fun r => ∃ T, r = some T ∧ T.2 = M.2 ∧ (∀ k, k ≠ 64 → T.1 k = M.1 k) ∧ ∀ t, t < 13 → T.1 64 t = nI (if s.1 2 ≤ l ∧ 1 ≤ t then min (S t) (ps_sz s l) else S t)) 13
    (fun i st kk hi ⟨T, e, h1, h2, h3⟩ => by
      subst e
      have el : ∀ q, am_len T q = am_len M q := fun q => by unfold am_len; rw [h1]
      have er : T.2.2.1 = M.2.2.1 := by rw [h1]
      have e62 : T.1 62 (13 * l + i) = nI (S i) := by rw [h2 62 (by decide)]; exact hS i hi
      have e2 : T.1 53 2 = nI (s.1 2) := by rw [h2 53 (by decide)]; exact hM.2.2.2.2.1
      have esz : fX10_sizeOf 53 (nI l) T = some (nI (ps_sz s l), T) := pm_size o2 (by omega) (by rw [h2 53 (by decide)]; exact hM.2.2.1)
      have b := cS i
      have e0 : (nI i ≤ (0 : Int32)) = (i ≤ 0) := by rw [nm_0, nm_le (by omega) (by decide)]
      refine Or.inl ⟨_, ⟨am_pI T 64 i (nI (if s.1 2 ≤ l ∧ 1 ≤ i then min (S i) (ps_sz s l) else S i)), rfl, h1, fun k hk => (am_pI_r _ _ _ _ hk).trans (h2 k hk), fun t ht => ?_⟩, ?_⟩
      · rw [am_pI_1]
        by_cases e : t = i
        · rw [if_pos ⟨rfl, e⟩, e]
        · rw [if_neg (fun q => e q.2)]; exact h3 t (by omega)
      · unfold fX10_closes_2 fX10_closes_45 fX10_closes_46 fX10_closes_67
        simp only [nz_13le (show i < 2147483648 by omega), show (13 ≤ i) = False from eq_false (by omega), nz_lt0 (show i < 2147483648 by omega), or_self, if_false, er, r25, r27, am_bs, nz_13, el, l62, l64, nm_cl (show 13 * l + i < 2147483648 by omega), am_ixc (show 13 * l + i < 91 by omega) (show 91 < 2147483648 by decide), nm_cl (show i < 2147483648 by omega), am_ixc (show i < 13 by omega) (show 13 < 2147483648 by decide), e62, e2, nm_lt (show l < 2147483648 by omega) (show s.1 2 < 2147483648 by omega), e0, esz, nm_le (show S i < 2147483648 by omega) (show ps_sz s l < 2147483648 by omega), if_true, nm_1f, nI_1]
        by_cases c1 : l < s.1 2
        · rw [if_pos c1, if_neg (fun q => by omega)]
        · rw [if_neg c1]
          by_cases c2 : i ≤ 0
          · rw [if_pos c2, if_neg (fun q => by omega)]
          · rw [if_neg c2, if_pos (c := s.1 2 ≤ l ∧ 1 ≤ i) ⟨by omega, by omega⟩]
            by_cases c3 : S i ≤ ps_sz s l
            · rw [if_pos c3, show min (S i) (ps_sz s l) = S i by omega]
            · rw [if_neg c3, show min (S i) (ps_sz s l) = ps_sz s l by omega])
    (fun st kk ⟨T, e, h1, h2, h3⟩ => by
      subst e
      refine ⟨T, ?_, h1, h2, h3⟩
      unfold fX10_closes_2
      simp only [show ((13 : Int32) ≤ nI 13) = True from eq_true (by decide), if_true])
    100000 0 (53, nI l, 0, M) (by decide) (by decide) ⟨M, rfl, rfl, fun _ _ => rfl, fun t ht => absurd ht (Nat.not_lt_zero t)⟩
theorem pm_setLeaf {s : ps_S} {M : am_M} (ho : ps_ok s) (hM : ps_M s M) (hrow : ps_row M 60 (4 ^ s.1 0) (ps_sk s)) {k : Nat} (hk : k < 4 ^ s.1 3) : ∃ T, fX10_setLeaf 53 (nI k) M = some T ∧ T.2 = M.2 ∧ (∀ k, k ≠ 64 → T.1 k = M.1 k) ∧ ∀ t, t < 13 → T.1 64 t = nI (bs_row s 0 (s.1 3) k t) := by
  obtain ⟨o1, o2, o3, o4, o5, -⟩ := id ho
  obtain ⟨-, -, r21, -, r25, r26, r27, -, -, -, l60, -, l62, l63, l64, -⟩ := hM.r
  have hz := ps_sz_le ho (s.1 3)
  have d3 := hM.2.2.2.2.2.1
  have esh : fX10_shapeIn 53 (nI (s.1 3)) (nI k) M = some (nI (ps_ct (ps_sk s) (k * ps_sz s (s.1 3)) (ps_sz s (s.1 3))), M) := pm_shapeIn o2 hM.2.2.1 r21 l60 hrow o5 hk
  have bc := ps_ct_le (ps_sk s) (k * ps_sz s (s.1 3)) (ps_sz s (s.1 3))
  have hr : ∀ t, bs_row s 0 (s.1 3) k t = if ps_ct (ps_sk s) (k * ps_sz s (s.1 3)) (ps_sz s (s.1 3)) = 0 then 0 else if t = 0 then 1000000 else ps_sz s (s.1 3) := fun t => rfl
  generalize ps_ct (ps_sk s) (k * ps_sz s (s.1 3)) (ps_sz s (s.1 3)) = C at *
  have go : ∀ b : Nat, b ≤ 1 → (b = 0 ↔ C = 0) → ∃ T, fX10_setLeaf_17 53 (nI b) M = some T ∧ T.2 = M.2 ∧ (∀ k, k ≠ 64 → T.1 k = M.1 k) ∧ ∀ t, t < 13 → T.1 64 t = nI (bs_row s 0 (s.1 3) k t) := fun b hb hbc =>
    am_loop_inv (f := fX10_setLeaf_20) (fun i st => ∃ T, st = (53, nI b, nI i, T) ∧ T.2 = M.2 ∧ (∀ k, k ≠ 64 → T.1 k = M.1 k) ∧ ∀ t, t < i → T.1 64 t = nI (bs_row s 0 (s.1 3) k t)) (fun r => ∃ T, r = some T ∧ T.2 = M.2 ∧ (∀ k, k ≠ 64 → T.1 k = M.1 k) ∧ ∀ t, t < 13 → T.1 64 t = nI (bs_row s 0 (s.1 3) k t)) 13
      (fun i st kk hi ⟨T, e, h1, h2, h3⟩ => by
        subst e
        have el : ∀ q, am_len T q = am_len M q := fun q => by unfold am_len; rw [h1]
        have er : T.2.2.1 = M.2.2.1 := by rw [h1]
        have e3 : T.1 53 3 = nI (s.1 3) := by rw [h2 53 (by decide)]; exact d3
        have esz : fX10_sizeOf 53 (nI (s.1 3)) T = some (nI (ps_sz s (s.1 3)), T) := pm_size o2 o5 (by rw [h2 53 (by decide)]; exact hM.2.2.1)
        have e0 : (nI i ≤ (0 : Int32)) = (i = 0) := by rw [nm_0, nm_le (by omega) (by decide)]; apply propext; omega
        refine Or.inl ⟨_, ⟨am_pI T 64 i (nI (bs_row s 0 (s.1 3) k i)), rfl, h1, fun k hk => (am_pI_r _ _ _ _ hk).trans (h2 k hk), fun t ht => ?_⟩, ?_⟩
        · rw [am_pI_1]
          by_cases e : t = i
          · rw [if_pos ⟨rfl, e⟩, e]
          · rw [if_neg (fun q => e q.2)]; exact h3 t (by omega)
        · rw [hr]
          unfold fX10_setLeaf_20 fX10_setLeaf_56
          simp only [nz_13le (show i < 2147483648 by omega), show (13 ≤ i) = False from eq_false (by omega), nz_lt0 (show i < 2147483648 by omega), or_self, if_false, er, r27, am_bs, el, l64, nm_cl (show i < 2147483648 by omega), am_ixc (show i < 13 by omega) (show 13 < 2147483648 by decide), nz_eq0 (show b < 2147483648 by omega), hbc, e0, e3, esz, nI_1]
          by_cases c1 : C = 0
          · rw [if_pos c1, if_pos c1]; rfl
          · rw [if_neg c1, if_neg c1]
            by_cases c2 : i = 0
            · rw [if_pos c2, if_pos c2]; rfl
            · rw [if_neg c2, if_neg c2])
      (fun st kk ⟨T, e, h1, h2, h3⟩ => by
        subst e
        refine ⟨T, ?_, h1, h2, h3⟩
        unfold fX10_setLeaf_20
        simp only [show ((13 : Int32) ≤ nI 13) = True from eq_true (by decide), if_true])
      100000 0 (53, nI b, 0, M) (by decide) (by decide) ⟨M, rfl, rfl, fun _ _ => rfl, fun t ht => absurd ht (Nat.not_lt_zero t)⟩
  unfold fX10_setLeaf
  simp only [d3, esh, am_bs, show (nI C ≤ (0 : Int32)) = (C = 0) from by rw [nm_0, nm_le (by omega) (by decide)]; apply propext; omega]
  by_cases c : C = 0
  · rw [if_pos c]; exact go 0 (by decide) ⟨fun _ => c, fun _ => rfl⟩
  · rw [if_neg c]; exact go 1 (by decide) ⟨fun q => absurd q (by decide), fun q => absurd q c⟩
