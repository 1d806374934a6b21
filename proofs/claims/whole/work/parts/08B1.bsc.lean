/-! ===== the class's weigher ===== -/
def am_fw (l : Nat) (M T : am_M) : Prop := T.2 = M.2 ∧ ∀ k, (k < 16 + l ∨ 22 < k) → T.1 k = M.1 k
theorem am_fw.rf (l : Nat) (M : am_M) : am_fw l M M := ⟨rfl, fun _ _ => rfl⟩
theorem am_fw.tr {l : Nat} {M T U : am_M} (h : am_fw l M T) (h' : am_fw l T U) : am_fw l M U := ⟨h'.1.trans h.1, fun k hk => (h'.2 k hk).trans (h.2 k hk)⟩
theorem am_fw.mono {l l' : Nat} {M T : am_M} (h : am_fw l' M T) (hl : l ≤ l') : am_fw l M T := ⟨h.1, fun k hk => h.2 k (by omega)⟩
theorem am_fw.one {l r : Nat} {M T : am_M} (h2 : T.2 = M.2) (h1 : ∀ k, k ≠ r → T.1 k = M.1 k) (hr : 16 + l ≤ r) (hr2 : r ≤ 22) : am_fw l M T := ⟨h2, fun k hk => h1 k (by omega)⟩
def wt_R (s : ps_S) (pl : Nat) (M : am_M) : Prop := M.1 pl 3 = nI (s.1 0) ∧ M.1 pl 6 = nI (s.1 3) ∧ M.1 pl 5 = nI (s.1 2) ∧ 22 < pl ∧ ps_kq M 6 7 ∧ ps_ks M 7 (ps_sk s) ∧ (∀ l, l < 7 → M.2.2.1 15 l = some (16 + l)) ∧ am_len M 15 = 7 ∧ ∀ l, l < 7 → am_len M (16 + l) = 13
theorem wt_R.fw {s : ps_S} {pl l : Nat} {M T : am_M} (h : wt_R s pl M) (f : am_fw l M T) : wt_R s pl T := by
  obtain ⟨h1, h2, h3, h4, h5, h6, h7, h8, h9⟩ := h
  have el : ∀ q, am_len T q = am_len M q := fun q => by unfold am_len; rw [f.1]
  refine ⟨by rw [f.2 pl (by omega)]; exact h1, by rw [f.2 pl (by omega)]; exact h2, by rw [f.2 pl (by omega)]; exact h3, h4, ?_, h6.fr (by rw [f.1]), by rw [f.1]; exact h7, by rw [el]; exact h8, fun l hl => by rw [el]; exact h9 l hl⟩
  unfold ps_kq
  rw [el, f.1]
  exact h5
theorem px_fillr {M : am_M} {r : Nat} (x : Int32) (hl : am_len M r = 13) : ∃ T, fJ7_fill_53178 r x M = some T ∧ T.2 = M.2 ∧ (∀ k, k ≠ r → T.1 k = M.1 k) ∧ ∀ j, j < 13 → T.1 r j = x := by
  have L := am_loop_inv (f := fJ7_fill_53178_5) (fun i st => ∃ T, st = (r, x, nI i, nI 13, T) ∧ T.2 = M.2 ∧ (∀ k, k ≠ r → T.1 k = M.1 k) ∧ ∀ j, j < i → T.1 r j = x) (fun q => ∃ T, q = some T ∧ T.2 = M.2 ∧ (∀ k, k ≠ r → T.1 k = M.1 k) ∧ ∀ j, j < 13 → T.1 r j = x) 13
    (fun i st k hi ⟨T, e, h1, h2, h3⟩ => by
      subst e
      refine Or.inl ⟨_, ⟨am_pI T r i x, rfl, h1, fun k hk => (am_pI_r _ _ _ _ hk).trans (h2 k hk), fun j hj => ?_⟩, ?_⟩
      · rw [am_pI_1]
        by_cases e : j = i
        · rw [if_pos ⟨rfl, e⟩]
        · rw [if_neg (fun c => e c.2)]; exact h3 j (by omega)
      · have hl' : am_len T r = 13 := by
          have : am_len T r = am_len M r := by unfold am_len; rw [h1]
          rw [this, hl]
        unfold fJ7_fill_53178_5
        simp only [nm_le (show 13 < 2147483648 by omega) (show i < 2147483648 by omega), show (13 ≤ i) = False from eq_false (by omega), if_false, hl', nm_cl (show i < 2147483648 by omega), nz_lt0 (show i < 2147483648 by omega), or_self, nI_1])
    (fun st k ⟨T, e, h1, h2, h3⟩ => by
      subst e
      refine ⟨T, ?_, h1, h2, h3⟩
      unfold fJ7_fill_53178_5
      simp only [Int32.le_refl, if_true])
    100000 0 (r, x, nI 0, nI 13, M) (by decide) (by decide) ⟨M, rfl, rfl, fun _ _ => rfl, fun j hj => absurd hj (Nat.not_lt_zero j)⟩
  obtain ⟨T, e, h⟩ := L
  refine ⟨T, ?_, h⟩
  unfold fJ7_fill_53178
  rw [hl]
  exact e
def bs_pm (f : Nat → Nat) : Nat → Nat
  | 0 => 1000000
  | j + 1 => bs_min f j
theorem bs_pm_s (f : Nat → Nat) : ∀ j, bs_pm f (j + 1) = min (bs_pm f j) (f j)
  | 0 => rfl
  | _ + 1 => rfl
theorem bs_pm_le (f : Nat → Nat) : ∀ j, bs_pm f j ≤ 1000000
  | 0 => Nat.le_refl _
  | j + 1 => bs_min_cap f j
theorem nz_min {a b : Nat} (ha : a < 2147483648) (hb : b < 2147483648) : (if nI a < nI b then nI a else nI b) = nI (min b a) := by
  simp only [nm_lt ha hb]
  by_cases c : a < b
  · rw [if_pos c]; congr 1; omega
  · rw [if_neg c]; congr 1; omega
theorem px_addIn {a b n : Nat} {T : am_M} {A B : Nat → Nat} (hn : n < 13) (la : am_len T a = 13) (lb : am_len T b = 13) (hA : ∀ t, t ≤ n → T.1 a t = nI (A t)) (hB : ∀ t, t ≤ n → T.1 b t = nI (B t)) (cA : ∀ t, A t ≤ 1000000) (cB : ∀ t, B t ≤ 1000000) (k3 : (Nat × Nat × Int32 × am_M) → Option am_M) : am_loop (fX8_addRow_13 k3) 100000 (a, b, nI n, 1000000, 0, T) = k3 (a, b, nI n - 1, am_pI T a n (nI (bs_add A B n))) :=
  am_loop_inv (f := fX8_addRow_13 k3) (fun j st => st = (a, b, nI n, nI (bs_pm (fun j => A (n - j) + B j) j), nI j, T)) (fun r => r = k3 (a, b, nI n - 1, am_pI T a n (nI (bs_add A B n)))) (n + 1)
    (fun j st kk hj e => by
      subst e
      refine Or.inl ⟨_, rfl, ?_⟩
      have b1 := bs_pm_le (fun j => A (n - j) + B j) j
      have b2 := cA (n - j)
      have b3 := cB j
      unfold fX8_addRow_13
      simp only [nm_lt (show n < 2147483648 by omega) (show j < 2147483648 by omega), show (n < j) = False from eq_false (by omega), if_false, nm_sub (show j ≤ n by omega), la, lb, nm_cl (show n - j < 2147483648 by omega), am_ixc (show n - j < 13 by omega) (show 13 < 2147483648 by decide), nm_cl (show j < 2147483648 by omega), am_ixc (show j < 13 by omega) (show 13 < 2147483648 by decide), hA (n - j) (by omega), hB j (by omega), nI_add, nI_1, nz_min (show A (n - j) + B j < 2147483648 by omega) (show bs_pm (fun j => A (n - j) + B j) j < 2147483648 by omega), bs_pm_s])
    (fun st kk e => by
      subst e
      unfold fX8_addRow_13
      simp only [nm_lt (show n < 2147483648 by omega) (show n + 1 < 2147483648 by omega), show (n < n + 1) = True from eq_true (by omega), if_true, la, nm_cl (show n < 2147483648 by omega), am_ixc (show n < 13 by omega) (show 13 < 2147483648 by decide), if_false, nm_dn]
      rfl)
    100000 0 (a, b, nI n, 1000000, 0, T) (Nat.zero_le _) (by omega) rfl
theorem px_addRow {M : am_M} {a b : Nat} {A B : Nat → Nat} (hne : b ≠ a) (la : am_len M a = 13) (lb : am_len M b = 13) (hA : ∀ t, t < 13 → M.1 a t = nI (A t)) (hB : ∀ t, t < 13 → M.1 b t = nI (B t)) (cA : ∀ t, A t ≤ 1000000) (cB : ∀ t, B t ≤ 1000000) : ∃ T, fX8_addRow a b M = some T ∧ T.2 = M.2 ∧ (∀ k, k ≠ a → T.1 k = M.1 k) ∧ ∀ t, t < 13 → T.1 a t = nI (bs_add A B t) := by
  exact am_loop_inv (f := fX8_addRow_3) (fun c st => ∃ T, st = (a, b, nI (13 - c) - 1, T) ∧ T.2 = M.2 ∧ (∀ k, k ≠ a → T.1 k = M.1 k) ∧ ∀ t, t < 13 → T.1 a t = nI (if t < 13 - c then A t else bs_add A B t)) (fun r => ∃ T, r = some T ∧ T.2 = M.2 ∧ (∀ k, k ≠ a → T.1 k = M.1 k) ∧ ∀ t, t < 13 → T.1 a t = nI (bs_add A B t)) 13
    (fun c st kk hc ⟨T, e, h1, h2, h3⟩ => by
      subst e
      obtain ⟨n, hn⟩ : ∃ n, 13 - c = n + 1 := ⟨12 - c, by omega⟩
      have el : ∀ q, am_len T q = am_len M q := fun q => by unfold am_len; rw [h1]
      rw [hn] at h3 ⊢
      refine Or.inl ⟨_, ⟨am_pI T a n (nI (bs_add A B n)), rfl, h1, fun k hk => (am_pI_r _ _ _ _ hk).trans (h2 k hk), fun t ht => ?_⟩, ?_⟩
      · rw [am_pI_1]
        by_cases e : t = n
        · rw [if_pos ⟨rfl, e⟩, if_neg (by omega), e]
        · rw [if_neg (fun q => e q.2), h3 t ht]
          by_cases c2 : t < n
          · rw [if_pos (by omega), if_pos (by omega)]
          · rw [if_neg (by omega), if_neg (by omega)]
      · unfold fX8_addRow_3
        simp only [nm_pr, nz_lt0 (show n < 2147483648 by omega), if_false]
        rw [px_addIn (by omega) (by rw [el]; exact la) (by rw [el]; exact lb) (fun t ht => by rw [h3 t (by omega), if_pos (by omega)]) (fun t ht => by rw [h2 b hne]; exact hB t (by omega)) cA cB, show 13 - (c + 1) = n by omega])
    (fun st kk ⟨T, e, h1, h2, h3⟩ => by
      subst e
      refine ⟨T, ?_, h1, h2, fun t ht => ?_⟩
      · unfold fX8_addRow_3
        simp only [show (nI (13 - 13) - 1 < (0 : Int32)) = True from eq_true (by decide), if_true]
      · rw [h3 t ht, if_neg (by omega)])
    100000 0 (a, b, 12, M) (Nat.zero_le _) (by omega) ⟨M, rfl, rfl, fun _ _ => rfl, fun t ht => by rw [if_pos (by omega)]; exact hA t ht⟩
theorem px_take {M : am_M} {a z : Nat} {S : Nat → Nat} (la : am_len M a = 13) (hz : z < 2147483648) (hS : ∀ t, t < 13 → M.1 a t = nI (S t)) (cS : ∀ t, S t ≤ 1000000) : ∃ T, fX8_takeWhole a (nI z) M = some T ∧ T.2 = M.2 ∧ (∀ k, k ≠ a → T.1 k = M.1 k) ∧ ∀ t, t < 13 → T.1 a t = nI (if 1 ≤ t then min (S t) z else S t) := by
  exact am_loop_inv (f := fX8_takeWhole_2) (fun i st => 1 ≤ i ∧ ∃ T, st = (a, nI z, nI i, T) ∧ T.2 = M.2 ∧ (∀ k, k ≠ a → T.1 k = M.1 k) ∧ ∀ t, t < 13 → T.1 a t = nI (if 1 ≤ t ∧ t < i then min (S t) z else S t)) (fun r => ∃ T, r = some T ∧ T.2 = M.2 ∧ (∀ k, k ≠ a → T.1 k = M.1 k) ∧ ∀ t, t < 13 → T.1 a t = nI (if 1 ≤ t then min (S t) z else S t)) 13
    (fun i st kk hi ⟨c0, T, e, h1, h2, h3⟩ => by
      subst e
      have el : am_len T a = 13 := by
        have : am_len T a = am_len M a := by unfold am_len; rw [h1]
        rw [this, la]
      refine Or.inl ⟨_, ⟨by omega, am_pI T a i (nI (min (S i) z)), rfl, h1, fun k hk => (am_pI_r _ _ _ _ hk).trans (h2 k hk), fun t ht => ?_⟩, ?_⟩
      · rw [am_pI_1]
        by_cases e : t = i
        · rw [if_pos ⟨rfl, e⟩, if_pos (by omega), e]
        · rw [if_neg (fun q => e q.2), h3 t ht]
          by_cases c2 : 1 ≤ t ∧ t < i
          · rw [if_pos c2, if_pos (by omega)]
          · rw [if_neg c2, if_neg (by omega)]
      · have e3 := h3 i hi
        rw [if_neg (by omega)] at e3
        have b1 := cS i
        have e12 : ((12 : Int32) < nI i) = False := by rw [nm_12, nm_lt (by decide) (by omega)]; exact eq_false (by omega)
        unfold fX8_takeWhole_2
        simp only [e12, if_false, el, nm_cl (show i < 2147483648 by omega), am_ixc (show i < 13 by omega) (show 13 < 2147483648 by decide), e3, nz_min hz (show S i < 2147483648 by omega), nI_1])
    (fun st kk ⟨c0, T, e, h1, h2, h3⟩ => by
      subst e
      refine ⟨T, ?_, h1, h2, fun t ht => ?_⟩
      · unfold fX8_takeWhole_2
        simp only [show ((12 : Int32) < nI 13) = True from eq_true (by decide), if_true]
      · rw [h3 t ht]
        by_cases c : 1 ≤ t
        · rw [if_pos ⟨c, ht⟩, if_pos c]
        · rw [if_neg (fun q => c q.1), if_neg c])
    100000 1 (a, nI z, 1, M) (by omega) (by omega) ⟨Nat.le_refl 1, M, rfl, rfl, fun _ _ => rfl, fun t ht => by rw [if_neg (by omega)]; exact hS t ht⟩
/-- what closes a tile -/
theorem px_150 {s : ps_S} {pl l : Nat} {T : am_M} (ho : ps_ok s) (hR : wt_R s pl T) (hl : l ≤ s.1 3) {S : Nat → Nat} (hS : ∀ t, t < 13 → T.1 (16 + l) t = nI (S t)) (cS : ∀ t, S t ≤ 1000000) (slf : Nat → Nat → Nat → Int32 → Int32 → am_M → Option am_M) : ∃ U, fX8_weighTile_150 slf pl (nI l) (nI (ps_sz s l)) (16 + l) T = some U ∧ am_fw l T U ∧ ∀ t, t < 13 → U.1 (16 + l) t = nI (if s.1 2 ≤ l ∧ 1 ≤ t then min (S t) (ps_sz s l) else S t) := by
  obtain ⟨o1, o2, o3, o4, o5, -⟩ := id ho
  obtain ⟨h1, h2, h3, h4, h5, h6, h7, h8, h9⟩ := hR
  have hz := ps_sz_le ho l
  unfold fX8_weighTile_150
  rw [h3]
  simp only [nm_lt (show l < 2147483648 by omega) (show s.1 2 < 2147483648 by omega)]
  by_cases c : l < s.1 2
  · refine ⟨T, by rw [if_pos c], am_fw.rf l T, fun t ht => ?_⟩
    rw [if_neg (fun q => by omega)]; exact hS t ht
  · obtain ⟨U, u1, u2, u3, u4⟩ := px_take (h9 l (by omega)) (show ps_sz s l < 2147483648 by omega) hS cS
    refine ⟨U, by rw [if_neg c, u1, am_bs], am_fw.one u2 u3 (Nat.le_refl _) (by omega), fun t ht => ?_⟩
    rw [u4 t ht]
    by_cases c1 : 1 ≤ t
    · rw [if_pos c1, if_pos ⟨by omega, c1⟩]
    · rw [if_neg c1, if_neg (fun q => c1 q.2)]
/-- the class weighs a tile -/
theorem px_weigh {s : ps_S} {pl : Nat} (ho : ps_ok s) : ∀ (n l k N : Nat) (M : am_M), l + n = s.1 3 → n < N → k < 4 ^ l → wt_R s pl M → ∃ T, gX8_weighTile N 15 pl 6 (nI l) (nI k) M = some T ∧ am_fw l M T ∧ ∀ t, t < 13 → T.1 (16 + l) t = nI (bs_row s n l k t)
  | n, l, k, N + 1, M, hl, hN, hk, hR => by
    obtain ⟨o1, o2, o3, o4, o5, -⟩ := id ho
    obtain ⟨h1, h2, h3, h4, h5, h6, h7, h8, h9⟩ := id hR
    have hz := ps_sz_le ho l
    have hp4 := nz_p4 o2
    have hpl := nz_p4 (show l ≤ 6 by omega)
    have hm : 4 ^ l * ps_sz s l = 4 ^ s.1 0 := by
      unfold ps_sz
      rw [← Nat.pow_add, show l + (s.1 0 - l) = s.1 0 by omega]
    have hup : (k + 1) * ps_sz s l ≤ 4 ^ l * ps_sz s l := Nat.mul_le_mul_right _ hk
    rw [hm, Nat.succ_mul] at hup
    have hsz : fX5_tileSize pl (nI l) M = some (nI (ps_sz s l), M) := px_size o2 (by omega) h1
    have kc : fX3_countIn 6 (nI (k * ps_sz s l)) (nI (ps_sz s l)) M = some (nI (ps_ct (ps_sk s) (k * ps_sz s l) (ps_sz s l)), M) := ks_count h5 h6 (e := s.1 0 - l) (t := k) (by omega) (show k * ps_sz s l + ps_sz s l ≤ 4096 by omega)
    have bc := ps_ct_le (ps_sk s) (k * ps_sz s l) (ps_sz s l)
    obtain ⟨T0, a1, a2, a3, a4⟩ := px_fillr (M := M) (r := 16 + l) 0 (h9 l (by omega))
    have F0 : am_fw l M T0 := am_fw.one a2 a3 (Nat.le_refl _) (by omega)
    have R0 := hR.fw F0
    have e6 : (nI l ≤ (6 : Int32)) = True := by rw [nm_6, nm_le (by omega) (by decide)]; exact eq_true (by omega)
    have body : gX8_weighTile (N + 1) 15 pl 6 (nI l) (nI k) M = if nI (ps_ct (ps_sk s) (k * ps_sz s l) (ps_sz s l)) = 0 then some T0 else if nI l = T0.1 pl 6 then fX8_weighTile_75 (gX8_weighTile N) 15 pl 6 (nI l) (nI k) (nI (ps_sz s l)) (16 + l) T0 else if nI (ps_ct (ps_sk s) (k * ps_sz s l) (ps_sz s l)) = nI (ps_sz s l) then if nI l < T0.1 pl 5 then fX8_weighTile_79 (gX8_weighTile N) 15 pl 6 (nI l) (nI k) (nI (ps_sz s l)) (16 + l) T0 else fX8_weighTile_75 (gX8_weighTile N) 15 pl 6 (nI l) (nI k) (nI (ps_sz s l)) (16 + l) T0 else fX8_weighTile_79 (gX8_weighTile N) 15 pl 6 (nI l) (nI k) (nI (ps_sz s l)) (16 + l) T0 := by
      show fX8_weighTile_b (gX8_weighTile N) 15 pl 6 (nI l) (nI k) M = _
      unfold fX8_weighTile_b
      simp only [h2, nm_lt (show s.1 3 < 2147483648 by omega) (show l < 2147483648 by omega), show (s.1 3 < l) = False from eq_false (by omega), if_false, e6, if_true, hsz, am_bs, pk_mul, kc, h8, nm_cl (show l < 2147483648 by omega), am_ixc (show l < 7 by omega) (show 7 < 2147483648 by decide), h7 l (show l < 7 by omega), a1]
    rw [body]
    have whole : (s.1 2 ≤ l) → 0 < ps_ct (ps_sk s) (k * ps_sz s l) (ps_sz s l) → (∀ t, bs_row s n l k t = if 1 ≤ t then ps_sz s l else 1000000) → ∃ T, fX8_weighTile_75 (gX8_weighTile N) 15 pl 6 (nI l) (nI k) (nI (ps_sz s l)) (16 + l) T0 = some T ∧ am_fw l M T ∧ ∀ t, t < 13 → T.1 (16 + l) t = nI (bs_row s n l k t) := fun w1 w2 w3 => by
      obtain ⟨T1, b1, b2, b3, b4⟩ := px_fillr (M := T0) (r := 16 + l) 1000000 (R0.2.2.2.2.2.2.2.2 l (by omega))
      have F1 : am_fw l T0 T1 := am_fw.one b2 b3 (Nat.le_refl _) (by omega)
      obtain ⟨U, u1, u2, u3⟩ := px_150 ho (R0.fw F1) (show l ≤ s.1 3 by omega) (S := fun _ => 1000000) (fun t ht => b4 t ht) (fun _ => Nat.le_refl _) (gX8_weighTile N)
      refine ⟨U, ?_, (F0.tr F1).tr u2, fun t ht => ?_⟩
      · unfold fX8_weighTile_75 fX8_weighTile_80 fX8_weighTile_94
        simp only [nm_1f, if_false, b1, am_bs]
        show fX8_weighTile_97 (gX8_weighTile N) _ (15, pl, 6, nI l, nI k, nI (ps_sz s l), 16 + l, 1, 0, T1) = some U
        unfold fX8_weighTile_97
        simp only [show ((4 : Int32) ≤ 0) = False from eq_false (by decide), if_false, nm_1f, u1]
      · rw [u3 t ht, w3 t]
        by_cases c1 : 1 ≤ t
        · rw [if_pos ⟨w1, c1⟩, if_pos c1]; congr 1; omega
        · rw [if_neg (fun q => c1 q.2), if_neg c1]
    by_cases c0 : ps_ct (ps_sk s) (k * ps_sz s l) (ps_sz s l) = 0
    · refine ⟨T0, by rw [c0, if_pos (show nI 0 = (0 : Int32) from rfl)], F0, fun t ht => ?_⟩
      rw [a4 t ht, bs_row_z n l k t (by omega) c0]; rfl
    · rw [if_neg (by rw [nz_eq0 (by omega)]; exact c0), R0.2.1, R0.2.2.1]
      simp only [nm_eq (show l < 2147483648 by omega) (show s.1 3 < 2147483648 by omega), nm_eq (show ps_ct (ps_sk s) (k * ps_sz s l) (ps_sz s l) < 2147483648 by omega) (show ps_sz s l < 2147483648 by omega), nm_lt (show l < 2147483648 by omega) (show s.1 2 < 2147483648 by omega)]
      cases n with
      | zero =>
        have e : l = s.1 3 := hl
        rw [if_pos e]
        refine whole (by omega) (by omega) (fun t => ?_)
        rw [bs_row, if_neg c0]
        by_cases c1 : t = 0
        · rw [if_pos c1, if_neg (by omega)]
        · rw [if_neg c1, if_pos (by omega)]
      | succ n =>
        rw [if_neg (show ¬ l = s.1 3 by omega)]
        by_cases cw : ps_ct (ps_sk s) (k * ps_sz s l) (ps_sz s l) = ps_sz s l ∧ s.1 2 ≤ l
        · rw [if_pos cw.1, if_neg (by omega)]
          exact whole cw.2 (by omega) (fun t => bs_row_w ho (by omega) cw.2 cw.1)
        · have e79 : (if ps_ct (ps_sk s) (k * ps_sz s l) (ps_sz s l) = ps_sz s l then if l < s.1 2 then fX8_weighTile_79 (gX8_weighTile N) 15 pl 6 (nI l) (nI k) (nI (ps_sz s l)) (16 + l) T0 else fX8_weighTile_75 (gX8_weighTile N) 15 pl 6 (nI l) (nI k) (nI (ps_sz s l)) (16 + l) T0 else fX8_weighTile_79 (gX8_weighTile N) 15 pl 6 (nI l) (nI k) (nI (ps_sz s l)) (16 + l) T0) = am_loop (fX8_weighTile_97 (gX8_weighTile N)) 100000 (15, pl, 6, nI l, nI k, nI (ps_sz s l), 16 + l, 0, 0, T0) := by
            have e : fX8_weighTile_79 (gX8_weighTile N) 15 pl 6 (nI l) (nI k) (nI (ps_sz s l)) (16 + l) T0 = am_loop (fX8_weighTile_97 (gX8_weighTile N)) 100000 (15, pl, 6, nI l, nI k, nI (ps_sz s l), 16 + l, 0, 0, T0) := by
              unfold fX8_weighTile_79 fX8_weighTile_80 fX8_weighTile_94
              rw [if_pos rfl]
            rw [e]
            by_cases q : ps_ct (ps_sk s) (k * ps_sz s l) (ps_sz s l) = ps_sz s l
            · rw [if_pos q, if_pos (by omega)]
            · rw [if_neg q]
          rw [e79]
          have close : ∀ T : am_M, am_fw l M T → (∀ t, t < 13 → T.1 (16 + l) t = nI (bs_acc s n l k 4 t)) → ∃ U, fX8_weighTile_150 (gX8_weighTile N) pl (nI l) (nI (ps_sz s l)) (16 + l) T = some U ∧ am_fw l M U ∧ ∀ t, t < 13 → U.1 (16 + l) t = nI (bs_row s (n + 1) l k t) := fun T f1 f2 => by
            obtain ⟨U, u1, u2, u3⟩ := px_150 ho (hR.fw f1) (show l ≤ s.1 3 by omega) f2 (bs_acc_G s n l k 4).1 (gX8_weighTile N)
            exact ⟨U, u1, f1.tr u2, fun t ht => by rw [u3 t ht, bs_row_s ho]⟩
          exact am_loop_inv (f := fX8_weighTile_97 (gX8_weighTile N)) (fun q st => ∃ T, st = (15, pl, 6, nI l, nI k, nI (ps_sz s l), 16 + l, 0, nI q, T) ∧ am_fw l M T ∧ ∀ t, t < 13 → T.1 (16 + l) t = nI (bs_acc s n l k q t)) (fun r => ∃ U, r = some U ∧ am_fw l M U ∧ ∀ t, t < 13 → U.1 (16 + l) t = nI (bs_row s (n + 1) l k t)) 4
            (fun q st kk hq ⟨T, e, f1, f2⟩ => by
              subst e
              have RT := hR.fw f1
              have e4 : ((4 : Int32) ≤ nI q) = False := by rw [nm_4, nm_le (by decide) (by omega)]; exact eq_false (by omega)
              have g := bs_acc_G s n l k q
              have g12 := g.1 12
              have l16 := RT.2.2.2.2.2.2.2.2 l (by omega)
              have e12 : (12 : Int32).toNatClampNeg = 12 := rfl
              have eF : ((1000000 : Int32) ≤ nI (bs_acc s n l k q 12)) = (1000000 ≤ bs_acc s n l k q 12) := by rw [nm_1000000, nm_le (by decide) (by omega)]
              by_cases cf : 1000000 ≤ bs_acc s n l k q 12
              · right
                obtain ⟨U, u1, u2, u3⟩ := close T f1 (fun t ht => by
                  have z := bs_acc_far cf (4 - q) t (by omega)
                  rw [show q + (4 - q) = 4 by omega] at z
                  have z2 := bs_acc_far cf 0 t (by omega)
                  rw [f2 t ht, z]
                  exact congrArg nI z2)
                refine ⟨U, ?_, u2, u3⟩
                unfold fX8_weighTile_97
                simp only [e4, if_false, if_true, e12, l16, show ((12 : Int32) < 0) = False from eq_false (by decide), false_or, show (13 ≤ 12) = False from eq_false (by decide), f2 12 (by decide), eF, cf, u1]
              · left
                have e4k : (4 : Int32) * nI k + nI q = nI (4 * k + q) := by rw [nm_4, pk_mul, nI_add]
                have hk4 : 4 * k + q < 4 ^ (l + 1) := by rw [Nat.pow_succ]; omega
                obtain ⟨T1, t1, t2, t3⟩ := px_weigh (pl := pl) ho n (l + 1) (4 * k + q) N T (by omega) (by omega) hk4 RT
                have R1 := RT.fw t2
                have rA : ∀ t, t < 13 → T1.1 (16 + l) t = nI (bs_acc s n l k q t) := fun t ht => by rw [t2.2 (16 + l) (by omega)]; exact f2 t ht
                obtain ⟨T2, v1, v2, v3, v4⟩ := px_addRow (M := T1) (a := 16 + l) (b := 16 + (l + 1)) (A := bs_acc s n l k q) (B := bs_row s n (l + 1) (4 * k + q)) (by omega) (R1.2.2.2.2.2.2.2.2 l (by omega)) (R1.2.2.2.2.2.2.2.2 (l + 1) (by omega)) rA t3 g.1 (bs_row_G ho n (l + 1) (4 * k + q)).1
                refine ⟨_, ⟨T2, rfl, (f1.tr (t2.mono (by omega))).tr (am_fw.one v2 v3 (Nat.le_refl _) (by omega)), v4⟩, ?_⟩
                unfold fX8_weighTile_97
                simp only [e4, if_false, if_true, e12, l16, show ((12 : Int32) < 0) = False from eq_false (by decide), false_or, show (13 ≤ 12) = False from eq_false (by decide), f2 12 (by decide), eF, cf, nI_1, e4k, t1, am_bs, R1.2.2.2.2.2.2.2.1, nm_cl (show l + 1 < 2147483648 by omega), am_ixc (show l + 1 < 7 by omega) (show 7 < 2147483648 by decide), R1.2.2.2.2.2.2.1 (l + 1) (by omega), v1])
            (fun st kk ⟨T, e, f1, f2⟩ => by
              subst e
              obtain ⟨U, u1, u2, u3⟩ := close T f1 f2
              refine ⟨U, ?_, u2, u3⟩
              unfold fX8_weighTile_97
              simp only [show ((4 : Int32) ≤ nI 4) = True from eq_true (by decide), if_true, u1])
            100000 0 (15, pl, 6, nI l, nI k, nI (ps_sz s l), 16 + l, 0, 0, T0) (by decide) (by decide) ⟨T0, rfl, F0, a4⟩
