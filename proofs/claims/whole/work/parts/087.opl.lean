/-! tools: loops by what stays true, changes of the reference's scratch rows -/
theorem am_loop_inv {σ β : Type} {f : (σ → Option β) → σ → Option β} (I : Nat → σ → Prop) (Q : Option β → Prop) (n : Nat) (hs : ∀ (i : Nat) (st : σ) (k : σ → Option β), i < n → I i st → (∃ st', I (i + 1) st' ∧ f k st = k st') ∨ Q (f k st)) (he : ∀ (st : σ) (k : σ → Option β), I n st → Q (f k st)) : ∀ (N i : Nat) (st : σ), i ≤ n → n - i < N → I i st → Q (am_loop f N st)
  | 0, i, _, _, h, _ => absurd h (Nat.not_lt_zero _)
  | N + 1, i, st, hi, h, hI => by
    show Q (f (am_loop f N) st)
    rcases Nat.lt_or_ge i n with q | q
    · rcases hs i st (am_loop f N) q hI with ⟨st', h1, h2⟩ | h1
      · rw [h2]
        exact am_loop_inv I Q n hs he N (i + 1) st' q (by omega) h1
      · exact h1
    · have e : i = n := by omega
      subst e
      exact he _ _ hI
def ps_R (s : ps_S) (M M1 : am_M) : Prop := ps_M s M1 ∧ am_fm M M1
theorem am_fm.tr {M M1 M2 : am_M} (h : am_fm M M1) (h' : am_fm M1 M2) : am_fm M M2 := ⟨h'.1.trans h.1, fun k hk => ⟨((h'.2 k hk).1).trans (h.2 k hk).1, ((h'.2 k hk).2.1).trans (h.2 k hk).2.1, ((h'.2 k hk).2.2).trans (h.2 k hk).2.2⟩⟩
theorem am_fx.tr {M M1 M2 : am_M} (h : am_fx M M1) (h' : am_fx M1 M2) : am_fx M M2 := ⟨h'.1.trans h.1, fun k hk => ⟨((h'.2 k hk).1).trans (h.2 k hk).1, ((h'.2 k hk).2).trans (h.2 k hk).2⟩⟩
theorem ps_R.rf {s : ps_S} {M : am_M} (h : ps_M s M) : ps_R s M M := ⟨h, am_fm.rf M⟩
theorem ps_R.tr {s : ps_S} {M M1 M2 : am_M} (h : ps_R s M M1) (h' : ps_R s M1 M2) : ps_R s M M2 := ⟨h'.1, h.2.tr h'.2⟩
theorem ps_R.pI {s : ps_S} {M M1 : am_M} (h : ps_R s M M1) {k j : Nat} (hk : (k = 53 ∧ 12 ≤ j) ∨ 59 ≤ k) (x : Int32) : ps_R s M (am_pI M1 k j x) := ⟨h.1.pI hk x, h.2.pI (by omega) j x⟩
theorem nz_lt0 {a : Nat} (h : a < 2147483648) : (nI a < 0) = False := eq_false (nI_pos h)
theorem nz_0le {a : Nat} (h : a < 2147483648) : ((0 : Int32) ≤ nI a) = True := eq_true (nI_pos' h)
theorem nz_eq0 {a : Nat} (h : a < 2147483648) : (nI a = 0) = (a = 0) := nm_eq h (by decide)
theorem nz_eq1 {a : Nat} (h : a < 2147483648) : (nI a = 1) = (a = 1) := nm_eq h (by decide)
theorem nz_p4 {D : Nat} (h : D ≤ 6) : 0 < 4 ^ D ∧ 4 ^ D ≤ 4096 := ⟨Nat.pow_pos (by decide), Nat.pow_le_pow_right (n := 4) (i := D) (j := 6) (by decide) h⟩
theorem nz_p2 {D : Nat} (h : D ≤ 6) : 0 < 2 ^ D ∧ 2 ^ D ≤ 64 := ⟨Nat.pow_pos (by decide), Nat.pow_le_pow_right (n := 2) (i := D) (j := 6) (by decide) h⟩
theorem pm_cells {M : am_M} {D : Nat} (hD : D ≤ 6) (h : M.1 53 0 = nI D) : fX10_cells 53 M = some (nI (4 ^ D), M) := by
  unfold fX10_cells
  rw [h, nm_2, pk_mul, nm_1, nm_31, nm_shl1 (by omega), show (4 : Nat) = 2 ^ 2 from rfl, ← Nat.pow_mul]
theorem nz_size {D l : Nat} (hD : D ≤ 6) (hl : l ≤ D) : (1 : Int32) <<< ((2 * (nI D - nI l)) &&& 31) = nI (4 ^ (D - l)) := by
  rw [nm_sub hl, nm_p4 (by omega)]
theorem pm_size {M : am_M} {D l : Nat} (hD : D ≤ 6) (hl : l ≤ D) (h : M.1 53 0 = nI D) : fX10_sizeOf 53 (nI l) M = some (nI (4 ^ (D - l)), M) := by
  unfold fX10_sizeOf
  rw [h, nz_size hD hl]
theorem pm_sideOf {M : am_M} {D l : Nat} (hD : D ≤ 6) (hl : l ≤ D) (h : M.1 53 0 = nI D) : fX10_sideOf 53 (nI l) M = some (nI (2 ^ (D - l)), M) := by
  unfold fX10_sideOf
  rw [h, nm_sub hl, nm_1, nm_31, nm_shl1 (by omega)]
theorem px_size {M : am_M} {pl D l : Nat} (hD : D ≤ 6) (hl : l ≤ D) (h : M.1 pl 3 = nI D) : fX5_tileSize pl (nI l) M = some (nI (4 ^ (D - l)), M) := by
  unfold fX5_tileSize
  rw [h, nz_size hD hl]
theorem px_size0 {M : am_M} {pl D : Nat} (hD : D ≤ 6) (h : M.1 pl 3 = nI D) : fX5_tileSize pl 0 M = some (nI (4 ^ D), M) := px_size (l := 0) hD (by omega) h
theorem px_around {M : am_M} {pl D l k : Nat} (hD : D ≤ 6) (hl : l ≤ D) (hk : k < 2147483648) (h : M.1 pl 3 = nI D) : fX5_tileAround pl (nI k) (nI l) M = some (nI (k / 4 ^ (D - l)), M) := by
  unfold fX5_tileAround
  rw [h, nm_sub hl, nm_2, pk_mul, nm_31, nm_shr hk (by omega), show (4 : Nat) = 2 ^ 2 from rfl, ← Nat.pow_mul]
theorem nz_inp {n : Nat} (hn : 0 < n) (hn2 : n < 2147483648) (k : Int32) (M : am_M) : fX10_isIn k 0 (nI n - 1) M = some (if 0 ≤ k ∧ k < nI n then 1 else 0, M) := by
  have e : nI n - 1 = nI (n - 1) := nm_sub (b := 1) (by omega)
  rw [e, pm_in (by omega), show n - 1 + 1 = n by omega]
theorem pm_tile {s : ps_S} {M : am_M} (ho : ps_ok s) (h : M.1 53 0 = nI (s.1 0)) (l k : Int32) : (ps_tile s l k → fX10_isTile 53 l k M = some (1, M)) ∧ (¬ ps_tile s l k → fX10_isTile 53 l k M = some (0, M)) := by
  obtain ⟨o1, o2, -⟩ := ho
  unfold fX10_isTile
  rw [h, pm_in (by omega), Option.bind_some]
  by_cases hl : 0 ≤ l ∧ l < nI (s.1 0 + 1)
  · obtain ⟨a, ha, rfl⟩ := nm_of (by omega) hl
    have hp := nz_p4 (show a ≤ 6 by omega)
    simp only [hl, nm_p4 (show a ≤ 6 by omega), nz_inp hp.1 (show 4 ^ a < 2147483648 by omega), Option.bind_some, nm_1f, if_false, if_true, nm_if0, not_true_eq_false, not_false_eq_true, and_self]
    by_cases hk : 0 ≤ k ∧ k < nI (4 ^ a)
    · simp only [hk, Option.bind_some, nm_1f, if_false, if_true, nm_if0, not_true_eq_false, not_false_eq_true, and_self]
      obtain ⟨b, hb, rfl⟩ := nm_of (by omega) hk
      exact ⟨fun _ => trivial, fun q => absurd ⟨a, b, by omega, hb, rfl, rfl⟩ q⟩
    · rw [if_pos hk]
      refine ⟨fun q => ?_, fun _ => rfl⟩
      obtain ⟨a', b, q1, q2, q3, rfl⟩ := q
      rw [nm_eq (by omega) (by omega)] at q3
      subst q3
      exact absurd ⟨nI_pos' (by omega), by rw [nm_lt (by omega) (by omega)]; exact q2⟩ hk
  · simp only [hl, Option.bind_some, nm_1f, if_false, if_true, nm_if0, not_true_eq_false, not_false_eq_true, and_self]
    refine ⟨fun q => ?_, fun _ => trivial⟩
    obtain ⟨a', b, q1, q2, rfl, rfl⟩ := q
    exact absurd ⟨nI_pos' (by omega), by rw [nm_lt (by omega) (by omega)]; omega⟩ hl
/-! common -/
def ps_mx (P : Nat → Prop) [DecidablePred P] : Nat → Nat
  | 0 => 0
  | n + 1 => if P (n + 1) then n + 1 else ps_mx P n
theorem ps_mx_le (P : Nat → Prop) [DecidablePred P] : ∀ n, ps_mx P n ≤ n
  | 0 => Nat.le_refl 0
  | n + 1 => by
    have := ps_mx_le P n
    rw [ps_mx]
    split <;> omega
theorem op_common (x y v w : Int32) : ps_op (fX9_common 0 x y v w) (fX10_common 53 x y v w) := by
  intro s ho
  obtain ⟨o1, o2, o3, -⟩ := id ho
  have hp := nz_p2 o2
  have hp4 := nz_p4 o2
  by_cases hQ : ((0 ≤ x ∧ x < nI (2 ^ s.1 0)) ∧ (0 ≤ y ∧ y < nI (2 ^ s.1 0))) ∧ ((0 ≤ v ∧ v < nI (2 ^ s.1 0)) ∧ (0 ≤ w ∧ w < nI (2 ^ s.1 0)))
  · obtain ⟨hQ1, hQ2⟩ := hQ
    obtain ⟨i, hi, rfl⟩ := nm_of (by omega) hQ1.1
    obtain ⟨j, hj, rfl⟩ := nm_of (by omega) hQ1.2
    obtain ⟨a, ha, rfl⟩ := nm_of (by omega) hQ2.1
    obtain ⟨b, hb, rfl⟩ := nm_of (by omega) hQ2.2
    let P : Nat → Prop := fun l => i / 2 ^ (s.1 0 - l) = a / 2 ^ (s.1 0 - l) ∧ j / 2 ^ (s.1 0 - l) = b / 2 ^ (s.1 0 - l)
    refine ⟨nI (ps_mx P (s.1 0)), s, ho, ps_ox.same (fun pl M hX => ?_), ps_om.same (fun M hM => ?_)⟩
    · obtain ⟨p1, p2, p3, p4, p5, p6, p7, p8, -⟩ := hX.pl
      unfold fX9_common
      simp only [p2, px_hasCell ho p4, hQ1, hQ2, Option.bind_some, nm_1f, if_false, if_true, nm_if0, not_true_eq_false, not_false_eq_true, and_self]
      refine am_loop_run (f := fX9_common_33) (fun t => (0, nI i, nI j, nI a, nI b, nI (ps_mx P t), nI (t + 1), M)) _ (s.1 0) (fun t k ht => ?_) (fun k => ?_) 100000 0 (by omega) (by omega)
      · have f1 : i / 2 ^ (s.1 0 - (t + 1)) < 2147483648 := Nat.lt_of_le_of_lt (Nat.div_le_self _ _) (by omega)
        have f2 : j / 2 ^ (s.1 0 - (t + 1)) < 2147483648 := Nat.lt_of_le_of_lt (Nat.div_le_self _ _) (by omega)
        have f3 : a / 2 ^ (s.1 0 - (t + 1)) < 2147483648 := Nat.lt_of_le_of_lt (Nat.div_le_self _ _) (by omega)
        have f4 : b / 2 ^ (s.1 0 - (t + 1)) < 2147483648 := Nat.lt_of_le_of_lt (Nat.div_le_self _ _) (by omega)
        unfold fX9_common_33 fX9_common_84
        simp only [p2, p4, Option.bind_some, nm_31]
        simp (disch := omega) only [nm_lt, nm_sub, nm_shr, nm_eq, nI_1]
        rw [if_neg (show ¬ s.1 0 < t + 1 by omega), ps_mx]
        by_cases c : P (t + 1)
        · rw [if_pos c, if_pos c.1, if_pos c.2]
        · rw [if_neg c]
          by_cases c1 : i / 2 ^ (s.1 0 - (t + 1)) = a / 2 ^ (s.1 0 - (t + 1))
          · rw [if_pos c1, if_neg (fun c2 => c ⟨c1, c2⟩)]
          · rw [if_neg c1]
      · unfold fX9_common_33
        simp only [p2, p4, Option.bind_some]
        simp (disch := omega) only [nm_lt]
        rw [if_pos (by omega)]
    · unfold fX10_common
      simp only [pm_isCell ho hM.2.2.1, hQ1, hQ2, pm_keyOf o3 o2 hM.2.2.1 hM.2.2.2.1 hi hj, pm_keyOf o3 o2 hM.2.2.1 hM.2.2.2.1 ha hb, hM.2.2.1, Option.bind_some, nm_1f, if_false, if_true, nm_if0, not_true_eq_false, not_false_eq_true, and_self]
      have key : ∀ (l N : Nat), l ≤ s.1 0 → l < N → am_loop fX10_common_44 N (nI (cv_k (s.1 1) (s.1 0) i j 0 / 4 ^ (s.1 0 - l)), nI (cv_k (s.1 1) (s.1 0) a b 0 / 4 ^ (s.1 0 - l)), nI l, M) = some (nI (ps_mx P l), M) := by
        intro l
        have l1 := cv_k_lt (s.1 1) (s.1 0) i j
        have l2 := cv_k_lt (s.1 1) (s.1 0) a b
        have hd : ∀ (t g : Nat), g < 4 ^ s.1 0 → g / 4 ^ t < 2147483648 := fun t g hg => Nat.lt_of_le_of_lt (Nat.div_le_self _ _) (by omega)
        have hPl : ∀ l, l ≤ s.1 0 → ((cv_k (s.1 1) (s.1 0) i j 0 / 4 ^ (s.1 0 - l) = cv_k (s.1 1) (s.1 0) a b 0 / 4 ^ (s.1 0 - l)) ↔ P l) := by
          intro l hl
          obtain ⟨d, hd⟩ : ∃ d, s.1 0 = l + d := ⟨s.1 0 - l, by omega⟩
          show _ ↔ i / 2 ^ (s.1 0 - l) = a / 2 ^ (s.1 0 - l) ∧ j / 2 ^ (s.1 0 - l) = b / 2 ^ (s.1 0 - l)
          rw [hd] at hi hj ha hb ⊢
          rw [show l + d - l = d by omega, cv_k_pre _ _ _ _ _ _ hi hj, cv_k_pre _ _ _ _ _ _ ha hb]
          have e : ∀ n, n < 2 ^ (l + d) → n / 2 ^ d < 2 ^ l := fun n hn => by
            rw [Nat.div_lt_iff_lt_mul (Nat.pow_pos (by decide)), ← Nat.pow_add]; exact hn
          constructor
          · intro h
            exact cv_k_inj _ _ (e _ hi) (e _ hj) (e _ ha) (e _ hb) h
          · intro h
            rw [h.1, h.2]
        induction l with
        | zero =>
          intro N _ hN
          obtain ⟨N, rfl⟩ : ∃ n, N = n + 1 := ⟨N - 1, by omega⟩
          rw [am_loop_s]
          unfold fX10_common_44
          have e1 : cv_k (s.1 1) (s.1 0) i j 0 / 4 ^ (s.1 0 - 0) = 0 := Nat.div_eq_of_lt l1
          have e2 : cv_k (s.1 1) (s.1 0) a b 0 / 4 ^ (s.1 0 - 0) = 0 := Nat.div_eq_of_lt l2
          simp only [e1, e2, if_true]
          rfl
        | succ l ih =>
          intro N hl hN
          obtain ⟨N, rfl⟩ : ∃ n, N = n + 1 := ⟨N - 1, by omega⟩
          rw [am_loop_s]
          unfold fX10_common_44
          simp only [nm_eq (hd (s.1 0 - (l + 1)) _ l1) (hd (s.1 0 - (l + 1)) _ l2)]
          rw [ps_mx]
          by_cases c : P (l + 1)
          · rw [if_pos c, if_pos ((hPl _ hl).mpr c)]
          · rw [if_neg c, if_neg (fun h => c ((hPl _ hl).mp h)), nm_4, nm_div (hd _ _ l1) (by decide) (by decide), nm_div (hd _ _ l2) (by decide) (by decide), nm_dn, nm_pr, Nat.div_div_eq_div_mul, Nat.div_div_eq_div_mul, ← Nat.pow_succ, show (s.1 0 - (l + 1)).succ = s.1 0 - l by omega]
            exact ih N (by omega) (by omega)
      have h := key (s.1 0) 100000 (Nat.le_refl _) (by omega)
      rw [Nat.sub_self, Nat.pow_zero, Nat.div_one, Nat.div_one] at h
      exact h
  · refine ⟨-1, s, ho, ps_ox.same (fun pl M hX => ?_), ps_om.same (fun M hM => ?_)⟩
    · obtain ⟨p1, p2, p3, p4, p5, p6, p7, p8, -⟩ := hX.pl
      unfold fX9_common
      simp only [p2, px_hasCell ho p4, Option.bind_some, nm_if0]
      by_cases h1 : ((0 ≤ x ∧ x < nI (2 ^ s.1 0)) ∧ (0 ≤ y ∧ y < nI (2 ^ s.1 0)))
      · rw [if_neg (not_not_intro h1), if_pos (fun h2 => hQ ⟨h1, h2⟩)]
      · rw [if_pos h1]
    · unfold fX10_common
      simp only [pm_isCell ho hM.2.2.1, Option.bind_some, nm_if0]
      by_cases h1 : ((0 ≤ x ∧ x < nI (2 ^ s.1 0)) ∧ (0 ≤ y ∧ y < nI (2 ^ s.1 0)))
      · rw [if_neg (not_not_intro h1), if_pos (fun h2 => hQ ⟨h1, h2⟩)]
      · rw [if_pos h1]
