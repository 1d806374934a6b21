/-! the reference's spans -/
def rn_l (f : Nat → Bool) : Nat → Int32
  | 0 => -4
  | k + 1 => if f k = true then nI k else rn_l f k
def rn_z (f : Nat → Bool) : Nat → Nat
  | 0 => 0
  | k + 1 => if f k = true then 0 else rn_z f k + 1
theorem rn_l_c (f : Nat → Bool) : ∀ k, (rn_l f k = -4 ∧ ∀ j, j < k → f j = false) ∨ ∃ j, j < k ∧ rn_l f k = nI j ∧ f j = true ∧ ∀ u, j < u → u < k → f u = false
  | 0 => Or.inl ⟨rfl, fun j hj => absurd hj (Nat.not_lt_zero j)⟩
  | k + 1 => by
    by_cases c : f k = true
    · refine Or.inr ⟨k, by omega, ?_, c, fun u h1 h2 => by omega⟩
      rw [rn_l, if_pos c]
    · have c' : f k = false := Bool.eq_false_iff.mpr c
      rcases rn_l_c f k with ⟨h1, h2⟩ | ⟨j, h1, h2, h3, h4⟩
      · refine Or.inl ⟨by rw [rn_l, if_neg c]; exact h1, fun j hj => ?_⟩
        by_cases e : j = k
        · rw [e]; exact c'
        · exact h2 j (by omega)
      · refine Or.inr ⟨j, by omega, by rw [rn_l, if_neg c]; exact h2, h3, fun u g1 g2 => ?_⟩
        by_cases e : u = k
        · rw [e]; exact c'
        · exact h4 u g1 (by omega)
theorem rn_z_eq {f : Nat → Bool} {j : Nat} (hj : f j = true) : ∀ d, (∀ u, j < u → u < j + 1 + d → f u = false) → rn_z f (j + 1 + d) = d
  | 0, _ => by
    show (if f j = true then 0 else rn_z f j + 1) = 0
    rw [if_pos hj]
  | d + 1, h => by
    have e := rn_z_eq hj d (fun u h1 h2 => h u h1 (by omega))
    show (if f (j + 1 + d) = true then 0 else rn_z f (j + 1 + d) + 1) = d + 1
    rw [h (j + 1 + d) (by omega) (by omega), e]; rfl
theorem rn_n4 {j : Nat} (h : j < 2147483648) : (nI j = (-4 : Int32)) = False := eq_false (fun q => by
  have h1 := nI_toInt (n := j) h
  rw [q] at h1
  have h2 : (-4 : Int32).toInt = -4 := rfl
  omega)
/-- what the walk over the keys below k has found -/
def rn_I (s : ps_S) (M : am_M) (f : Nat → Bool) (a : Int32) (k : Nat) (T : am_M) : Prop := ps_R s M T ∧ ps_row T 61 (4 ^ s.1 0) f ∧ T.1 53 29 = nI (rn_B f k - 1) ∧ (∀ q, q < k → rn_b f q = true → 0 < rn_B f q → T.1 65 (rn_B f q - 1) = nI (rn_z f q)) ∧ (∀ q, q < k → rn_b f q = true → a = nI (rn_B f q) → T.1 53 23 = nI q) ∧ (∀ q, q < k → f q = true → nI (rn_B f (q + 1)) = a + 1 → (∀ u, q < u → u < k → f u = true → rn_B f (u + 1) ≠ rn_B f (q + 1)) → T.1 53 24 = nI q)
/-- behind a begin: the same, the key's own foundKey not yet -/
def rn_J (s : ps_S) (M : am_M) (f : Nat → Bool) (a : Int32) (k : Nat) (T : am_M) : Prop := ps_R s M T ∧ ps_row T 61 (4 ^ s.1 0) f ∧ T.1 53 29 = nI (rn_B f (k + 1) - 1) ∧ (∀ q, q < k + 1 → rn_b f q = true → 0 < rn_B f q → T.1 65 (rn_B f q - 1) = nI (rn_z f q)) ∧ (∀ q, q < k + 1 → rn_b f q = true → a = nI (rn_B f q) → T.1 53 23 = nI q) ∧ (∀ q, q < k → f q = true → nI (rn_B f (q + 1)) = a + 1 → (∀ u, q < u → u < k → f u = true → rn_B f (u + 1) ≠ rn_B f (q + 1)) → T.1 53 24 = nI q)
theorem rn_le (f : Nat → Bool) (k : Nat) : rn_B f k ≤ k := ps_ct_le _ _ _
theorem pm_sp99 {s : ps_S} {M T : am_M} {f : Nat → Bool} {a : Int32} {k : Nat} (hk : k < 4096) (hf : f k = true) (h : rn_J s M f a k T) (kk : (Nat × Int32 × Int32 × Int32 × Int32 × am_M) → Option (Int32 × am_M)) : ∃ T', fX10_spans_99 kk 53 a (nI (rn_B f (k + 1))) (nI k) T = kk (53, a, nI (rn_B f (k + 1)), rn_l f (k + 1), nI (k + 1), T') ∧ rn_I s M f a (k + 1) T' := by
  obtain ⟨h1, h2, h3, h4, h5, h6⟩ := h
  have el : rn_l f (k + 1) = nI k := by rw [rn_l, if_pos hf]
  have hin : ∀ x : Int32, (∀ q, q < k + 1 → f q = true → nI (rn_B f (q + 1)) = a + 1 → (∀ u, q < u → u < k + 1 → f u = true → rn_B f (u + 1) ≠ rn_B f (q + 1)) → x = nI q) → rn_I s M f a (k + 1) (am_pI T 53 24 x) := fun x hx => by
    refine ⟨h1.pI (Or.inl ⟨rfl, by decide⟩) _, h2.cg (am_pI_r _ _ _ _ (by decide)), by rw [am_pI_1, if_neg (by omega)]; exact h3, fun q a1 a2 a3 => by rw [am_pI_r _ _ _ _ (by decide)]; exact h4 q a1 a2 a3, fun q a1 a2 a3 => by rw [am_pI_1, if_neg (by omega)]; exact h5 q a1 a2 a3, fun q a1 a2 a3 a4 => by rw [am_pI_1, if_pos ⟨rfl, rfl⟩]; exact hx q a1 a2 a3 a4⟩
  unfold fX10_spans_99 fX10_spans_116 fX10_spans_122
  rw [el]
  by_cases c : nI (rn_B f (k + 1)) = a + 1
  · refine ⟨am_pI T 53 24 (nI k), ?_, hin _ (fun q a1 a2 a3 a4 => ?_)⟩
    · rw [if_pos c, nI_1]
    · by_cases e : q = k
      · rw [e]
      · have b1 := rn_le f (k + 1)
        have b2 := rn_le f (q + 1)
        have e2 : rn_B f (k + 1) = rn_B f (q + 1) := (nI_eq (by omega) (by omega)).mp (c.trans a3.symm)
        exact absurd e2 (a4 k (by omega) (by omega) hf)
  · refine ⟨am_pI T 53 24 (T.1 53 24), ?_, hin _ (fun q a1 a2 a3 a4 => ?_)⟩
    · rw [if_neg c, nI_1]
    · by_cases e : q = k
      · rw [e] at a3; exact absurd a3 c
      · exact h6 q (by omega) a2 a3 (fun u u1 u2 u3 => a4 u u1 (by omega) u3)
theorem pm_sp78 {s : ps_S} {M T : am_M} {f : Nat → Bool} {a : Int32} {k : Nat} (hk : k < 4096) (hb : rn_b f k = true) (h1 : ps_R s M T) (h2 : ps_row T 61 (4 ^ s.1 0) f) (h3 : T.1 53 29 = nI (rn_B f (k + 1) - 1)) (h4 : ∀ q, q < k + 1 → rn_b f q = true → 0 < rn_B f q → T.1 65 (rn_B f q - 1) = nI (rn_z f q)) (h5 : ∀ q, q < k → rn_b f q = true → a = nI (rn_B f q) → T.1 53 23 = nI q) (h6 : ∀ q, q < k → f q = true → nI (rn_B f (q + 1)) = a + 1 → (∀ u, q < u → u < k → f u = true → rn_B f (u + 1) ≠ rn_B f (q + 1)) → T.1 53 24 = nI q) (kk : (Nat × Int32 × Int32 × Int32 × Int32 × am_M) → Option (Int32 × am_M)) : ∃ T', fX10_spans_78 kk 53 a (nI (rn_B f k)) (nI k) T = kk (53, a, nI (rn_B f (k + 1)), rn_l f (k + 1), nI (k + 1), T') ∧ rn_I s M f a (k + 1) T' := by
  have hf := (rn_b_f hb).1
  have e1 : rn_B f (k + 1) = rn_B f k + 1 := ct_t hb
  have hin : ∀ x : Int32, (∀ q, q < k + 1 → rn_b f q = true → a = nI (rn_B f q) → x = nI q) → rn_J s M f a k (am_pI T 53 23 x) := fun x hx => by
    refine ⟨h1.pI (Or.inl ⟨rfl, by decide⟩) _, h2.cg (am_pI_r _ _ _ _ (by decide)), by rw [am_pI_1, if_neg (by omega)]; exact h3, fun q a1 a2 a3 => by rw [am_pI_r _ _ _ _ (by decide)]; exact h4 q a1 a2 a3, fun q a1 a2 a3 => by rw [am_pI_1, if_pos ⟨rfl, rfl⟩]; exact hx q a1 a2 a3, fun q a1 a2 a3 a4 => by rw [am_pI_1, if_neg (by omega)]; exact h6 q a1 a2 a3 a4⟩
  have b1 := rn_le f k
  unfold fX10_spans_78 fX10_spans_93
  rw [nI_1, ← e1]
  by_cases c : nI (rn_B f k) = a
  · rw [if_pos c]
    refine pm_sp99 hk hf (hin _ (fun q a1 a2 a3 => ?_)) kk
    by_cases e : q = k
    · rw [e]
    · have b2 := rn_le f q
      have e2 : rn_B f k = rn_B f q := (nI_eq (by omega) (by omega)).mp (c.trans a3)
      have e3 : rn_B f (q + 1) = rn_B f q + 1 := ct_t a2
      have := rn_mono f (show q + 1 ≤ k by omega)
      omega
  · rw [if_neg c]
    refine pm_sp99 hk hf (hin _ (fun q a1 a2 a3 => ?_)) kk
    by_cases e : q = k
    · rw [e] at a3; exact absurd a3.symm c
    · exact h5 q (by omega) a2 a3
theorem pm_spans {s : ps_S} {M T : am_M} {f : Nat → Bool} (ho : ps_ok s) (hR : ps_R s M T) (hrow : ps_row T 61 (4 ^ s.1 0) f) (a : Int32) : ∃ T', fX10_spans 53 a T = some (nI (rn_B f (4 ^ s.1 0)), T') ∧ rn_I s M f a (4 ^ s.1 0) T' := by
  obtain ⟨o1, o2, -⟩ := id ho
  have hp4 := nz_p4 o2
  have L := am_loop_inv (f := fX10_spans_13) (fun k st => ∃ T, st = (53, a, nI (rn_B f k), rn_l f k, nI k, T) ∧ rn_I s M f a k T) (fun r => ∃ T', r = some (nI (rn_B f (4 ^ s.1 0)), T') ∧ rn_I s M f a (4 ^ s.1 0) T') (4 ^ s.1 0)
    (fun k st kk hk ⟨T, e, hI⟩ => by
      subst e
      left
      obtain ⟨h1, h2, h3, h4, h5, h6⟩ := id hI
      obtain ⟨-, -, -, r22, -, -, -, r28, -, -, -, l61, -, -, -, l65⟩ := h1.1.r
      have hrk := h2 k hk
      have bk := rn_le f k
      cases hfk : f k with
      | false =>
        have b : rn_B f (k + 1) = rn_B f k := ct_f (rn_b_n (Or.inl hfk))
        have el : rn_l f (k + 1) = rn_l f k := by rw [rn_l, hfk]; rfl
        refine ⟨_, ⟨T, rfl, h1, h2, by rw [b]; exact h3, fun q a1 a2 a3 => ?_, fun q a1 a2 a3 => ?_, fun q a1 a2 a3 a4 => ?_⟩, ?_⟩
        · by_cases e : q = k
          · rw [e, rn_b_n (Or.inl hfk)] at a2; exact absurd a2 (by decide)
          · exact h4 q (by omega) a2 a3
        · by_cases e : q = k
          · rw [e, rn_b_n (Or.inl hfk)] at a2; exact absurd a2 (by decide)
          · exact h5 q (by omega) a2 a3
        · by_cases e : q = k
          · rw [e, hfk] at a2; exact absurd a2 (by decide)
          · exact h6 q (by omega) a2 a3 (fun u u1 u2 u3 => a4 u u1 (by omega) u3)
        · rw [hfk] at hrk
          unfold fX10_spans_13 fX10_spans_122
          simp only [pm_cells o2 h1.1.2.2.1, am_bs, nm_le (show 4 ^ s.1 0 < 2147483648 by omega) (show k < 2147483648 by omega), show (4 ^ s.1 0 ≤ k) = False from eq_false (by omega), if_false, r22, l61, nm_cl (show k < 2147483648 by omega), am_ixc (show k < 4096 by omega) (show 4096 < 2147483648 by decide), hrk, Bool.false_eq_true, show (nI 0 = (1 : Int32)) = False from eq_false (by decide), nI_1, b, el]
      | true =>
        rw [hfk] at hrk
        have e1 : fX10_spans_13 kk (53, a, nI (rn_B f k), rn_l f k, nI k, T) = if rn_l f k = -4 then fX10_spans_47 kk 53 a (nI (rn_B f k)) (rn_l f k) (nI k) T else if nI k - 1 ≤ rn_l f k then fX10_spans_99 kk 53 a (nI (rn_B f k)) (nI k) T else fX10_spans_47 kk 53 a (nI (rn_B f k)) (rn_l f k) (nI k) T := by
          unfold fX10_spans_13
          simp only [pm_cells o2 h1.1.2.2.1, am_bs, nm_le (show 4 ^ s.1 0 < 2147483648 by omega) (show k < 2147483648 by omega), show (4 ^ s.1 0 ≤ k) = False from eq_false (by omega), if_false, r22, l61, nm_cl (show k < 2147483648 by omega), am_ixc (show k < 4096 by omega) (show 4096 < 2147483648 by decide), hrk, if_true, show (nI 1 = (1 : Int32)) = True from eq_true rfl]
        rw [e1]
        have fin : ∀ {r : Option (Int32 × am_M)}, (∃ T', r = kk (53, a, nI (rn_B f (k + 1)), rn_l f (k + 1), nI (k + 1), T') ∧ rn_I s M f a (k + 1) T') → ∃ st', (∃ T, st' = (53, a, nI (rn_B f (k + 1)), rn_l f (k + 1), nI (k + 1), T) ∧ rn_I s M f a (k + 1) T) ∧ r = kk st' := fun ⟨T', t1, t2⟩ => ⟨_, ⟨T', rfl, t2⟩, t1⟩
        apply fin
        rcases rn_l_c f k with ⟨l1, l2⟩ | ⟨j, l1, l2, l3, l4⟩
        · have hp : rn_p f k = false := by
            cases k with
            | zero => rfl
            | succ j => exact l2 j (by omega)
          have hb := rn_b_t hfk hp
          have b0 : rn_B f k = 0 := ps_ct_0 (fun i hi => by rw [Nat.zero_add]; exact rn_b_n (Or.inl (l2 i hi)))
          have b1 : rn_B f (k + 1) = rn_B f k + 1 := ct_t hb
          rw [if_pos l1]
          unfold fX10_spans_47
          rw [if_pos l1]
          refine pm_sp78 (by omega) hb h1 h2 (by rw [h3, b1, b0]) (fun q a1 a2 a3 => ?_) h5 h6 kk
          by_cases e : q = k
          · rw [e, b0] at a3; exact absurd a3 (Nat.lt_irrefl 0)
          · exact h4 q (by omega) a2 a3
        · have n4 := rn_n4 (show j < 2147483648 by omega)
          rw [l2] at *
          simp only [n4, if_false]
          by_cases c : k = j + 1
          · subst c
            rw [if_pos (by rw [nm_pr]; exact Int32.le_refl _)]
            have b : rn_B f (j + 1 + 1) = rn_B f (j + 1) := ct_f (rn_b_n (Or.inr l3))
            rw [← b]
            refine pm_sp99 (by omega) hfk ⟨h1, h2, by rw [b]; exact h3, fun q a1 a2 a3 => ?_, fun q a1 a2 a3 => ?_, h6⟩ kk
            · by_cases e : q = j + 1
              · rw [e, rn_b_n (f := f) (k := j + 1) (Or.inr l3)] at a2; exact absurd a2 (by decide)
              · exact h4 q (by omega) a2 a3
            · by_cases e : q = j + 1
              · rw [e, rn_b_n (f := f) (k := j + 1) (Or.inr l3)] at a2; exact absurd a2 (by decide)
              · exact h5 q (by omega) a2 a3
          · obtain ⟨d, rfl⟩ : ∃ d, k = j + 1 + (d + 1) := ⟨k - j - 2, by omega⟩
            have hp : rn_p f (j + 1 + (d + 1)) = false := l4 (j + 1 + d) (by omega) (by omega)
            have hb := rn_b_t hfk hp
            have b1 : rn_B f (j + 1 + (d + 1) + 1) = rn_B f (j + 1 + (d + 1)) + 1 := ct_t hb
            have b2 := rn_pos l3
            have b3 := rn_mono f (show j + 1 ≤ j + 1 + (d + 1) by omega)
            have ez := rn_z_eq l3 (d + 1) l4
            have ev : nI (j + 1 + (d + 1)) - 1 = nI (j + (d + 1)) := by rw [show j + 1 + (d + 1) = j + (d + 1) + 1 by omega, nm_pr]
            have ew : nI (j + (d + 1)) - nI j = nI (d + 1) := by rw [nm_sub (by omega), show j + (d + 1) - j = d + 1 by omega]
            rw [ev, if_neg (by rw [nm_le (by omega) (by omega)]; omega)]
            unfold fX10_spans_47
            simp only [n4, if_false, r28, am_bs, h3, l65, nm_cl (show rn_B f (j + 1 + (d + 1)) - 1 < 2147483648 by omega), am_ixc (show rn_B f (j + 1 + (d + 1)) - 1 < 4096 by omega) (show 4096 < 2147483648 by decide), ev, ew]
            have e29 : (am_pI T 65 (rn_B f (j + 1 + (d + 1)) - 1) (nI (d + 1))).1 53 29 = nI (rn_B f (j + 1 + (d + 1)) - 1) := by rw [am_pI_1, if_neg (by omega)]; exact h3
            rw [e29, nI_1]
            refine pm_sp78 (by omega) hb ((h1.pI (Or.inr (by decide)) _).pI (Or.inl ⟨rfl, by decide⟩) _) ((h2.cg (am_pI_r _ _ _ _ (by decide))).cg (am_pI_r _ _ _ _ (by decide))) ?_ (fun q a1 a2 a3 => ?_) (fun q a1 a2 a3 => ?_) (fun q a1 a2 a3 a4 => ?_) kk
            · rw [am_pI_1, if_pos ⟨rfl, rfl⟩, b1]
              congr 1
              omega
            · rw [am_pI_r _ _ _ _ (by decide), am_pI_1]
              by_cases e : q = j + 1 + (d + 1)
              · rw [e, if_pos ⟨rfl, rfl⟩, ez]
              · have e3 : rn_B f (q + 1) = rn_B f q + 1 := ct_t a2
                have := rn_mono f (show q + 1 ≤ j + 1 + (d + 1) by omega)
                rw [if_neg (fun z => by omega)]
                exact h4 q (by omega) a2 a3
            · rw [am_pI_1, if_neg (by omega), am_pI_r _ _ _ _ (by decide)]; exact h5 q a1 a2 a3
            · rw [am_pI_1, if_neg (by omega), am_pI_r _ _ _ _ (by decide)]; exact h6 q a1 a2 a3 a4)
    (fun st kk ⟨T, e, hI⟩ => by
      subst e
      refine ⟨T, ?_, hI⟩
      unfold fX10_spans_13
      simp only [pm_cells o2 hI.1.1.2.2.1, am_bs, Int32.le_refl, if_true])
    100000 0 (53, a, nI 0, -4, nI 0, am_pI T 53 29 (nI 0)) (Nat.zero_le _) (by omega) ⟨_, rfl, hR.pI (Or.inl ⟨rfl, by decide⟩) _, hrow.cg (am_pI_r _ _ _ _ (by decide)), by rw [am_pI_1, if_pos ⟨rfl, rfl⟩]; rfl, fun q hq => absurd hq (Nat.not_lt_zero q), fun q hq => absurd hq (Nat.not_lt_zero q), fun q hq => absurd hq (Nat.not_lt_zero q)⟩
  exact L
theorem nz_m1 {a : Int32} (h : ¬ a < -1) : a = -1 ∨ 0 ≤ a := by
  have e1 : (-1 : Int32).toInt = -1 := rfl
  have e0 : (0 : Int32).toInt = 0 := rfl
  rw [Int32.lt_iff_toInt_lt, e1] at h
  by_cases c : a.toInt = -1
  · exact Or.inl (Int32.toInt_inj.mp (c.trans e1.symm))
  · refine Or.inr ?_
    rw [Int32.le_iff_toInt_le, e0]
    omega
theorem pm_asked {w i v : Int32} (hw : w = 0 ∨ w = 1) (hi : ¬ i < -1) (hv : v = 0 ∨ v = 1) (M : am_M) : fX10_isAsked w i v M = some (1, M) := by
  unfold fX10_isAsked
  simp only [pm_bit, hw, hv, if_true, am_bs, nm_1f, if_false, hi]
theorem pm_asked_no {w i v : Int32} (h : ¬ ((w = 0 ∨ w = 1) ∧ ¬ i < -1 ∧ (v = 0 ∨ v = 1))) (M : am_M) : fX10_isAsked w i v M = some (0, M) := by
  unfold fX10_isAsked
  by_cases hw : w = 0 ∨ w = 1
  · by_cases hi : i < -1
    · simp only [pm_bit, hw, if_true, am_bs, nm_1f, if_false, hi]
    · have hv : ¬ (v = 0 ∨ v = 1) := fun q => h ⟨hw, hi, q⟩
      simp only [pm_bit, hw, if_true, am_bs, nm_1f, if_false, hi, hv]
  · simp only [pm_bit, hw, if_true, am_bs, if_false]
theorem ps_cov_end (s : ps_S) (w : Nat) {k : Nat} (h : 4 ^ s.1 0 ≤ k) : ps_cov s w k = false := by
  unfold ps_cov
  rw [decide_eq_false (by omega), Bool.false_and]
theorem op_span (w i v : Int32) : ps_op (fX9_span 0 w i v) (fX10_span 53 w i v) := by
  intro s ho
  obtain ⟨o1, o2, -⟩ := id ho
  have hp4 := nz_p4 o2
  by_cases hQ : (w = 0 ∨ w = 1) ∧ ¬ i < -1 ∧ (v = 0 ∨ v = 1)
  · obtain ⟨hw, hi, hv⟩ := id hQ
    obtain ⟨b, hb, rfl⟩ := nm_bits hw
    obtain ⟨c, hc, rfl⟩ := nm_bits hv
    have f0 : ∀ k, 4 ^ s.1 0 ≤ k → ps_cov s b k = false := fun k hk => ps_cov_end s b hk
    have f4 : ps_cov s b 4096 = false := f0 _ hp4.2
    have eB : rn_B (ps_cov s b) 4096 = rn_B (ps_cov s b) (4 ^ s.1 0) := ct_end (fun k hk => rn_b_n (Or.inl (f0 k hk))) hp4.2
    have bB := rn_le (ps_cov s b) (4 ^ s.1 0)
    have cls : ∀ r : Int32, (∀ (M : am_M) (a q : Nat), ps_kq M a q → ps_ks M q (ps_cov s b) → fX3_runEnd a i (nI c) M = some (r, M)) → ps_ox (fX9_span 0 (nI b) i (nI c)) s r s := fun r hr pl M hX => by
      obtain ⟨-, p2, -, -, -, -, -, p8, -⟩ := hX.pl
      obtain ⟨T, t1, t2, t3, t4⟩ := px_refresh ho hX
      obtain ⟨v1, v2, v3⟩ := t2.kc t4 hb
      obtain ⟨-, u2, -, -, -, -, -, u8, -⟩ := t2.pl
      refine ⟨pl, T, ?_, t2, t3⟩
      unfold fX9_span
      simp only [px_bit, hw, hv, hi, if_true, am_bs, nm_1f, if_false, p8, p2, t1, u8, v3, hr T _ _ v1 v2]
    have rfm : ∀ r : Int32, (∀ (M T : am_M), rn_I s M (ps_cov s b) i (4 ^ s.1 0) T → (if i = (-1) then some (nI (rn_B (ps_cov s b) (4 ^ s.1 0)), T) else if i < nI (rn_B (ps_cov s b) (4 ^ s.1 0)) then if nI c = 0 then some (T.1 53 23, T) else some (T.1 53 24, T) else some ((-4), T)) = some (r, T)) → ps_om (fX10_span 53 (nI b) i (nI c)) s r s := fun r hr M hM => by
      obtain ⟨T, t1, t2, t3, t4⟩ := pm_setCover ho hM hb
      obtain ⟨U, u1, u2⟩ := pm_spans ho t2 t4 i
      refine ⟨U, ?_, u2.1.1, u2.1.2⟩
      unfold fX10_span
      simp only [pm_asked hw hi hv, am_bs, nm_1f, if_false, t1, u1]
      exact hr M U u2
    rcases nz_m1 hi with e | e
    · subst e
      refine ⟨nI (rn_B (ps_cov s b) (4 ^ s.1 0)), s, ho, cls _ (fun M a q hk h => ?_), rfm _ (fun M T hI => ?_)⟩
      · rw [px_runN hk h f4 (-1) hc, if_pos rfl, eB]
        intro k hk2 q
        have := rn_pos q.1
        have := rn_le (ps_cov s b) (k + 1)
        have e3 : nI (rn_B (ps_cov s b) (k + 1)) - 1 = nI (rn_B (ps_cov s b) (k + 1) - 1) := nm_sub (b := 1) (by omega)
        have e4 : (0 : Int32) ≤ nI (rn_B (ps_cov s b) (k + 1) - 1) := nI_pos' (by omega)
        rw [← e3, q.2.1] at e4
        exact absurd e4 (by decide)
      · rw [if_pos rfl]
    · have i1 : ¬ i = -1 := fun q => by rw [q] at e; exact absurd e (by decide)
      rcases nm_cut i (rn_B (ps_cov s b) (4 ^ s.1 0)) (by omega) with h | h | ⟨j, hj, rfl⟩
      · exact absurd h (Int32.not_lt.mpr e)
      · refine ⟨-4, s, ho, cls _ (fun M a q hk h2 => ?_), rfm _ (fun M T hI => ?_)⟩
        · rw [px_runN hk h2 f4 i hc, if_neg i1]
          intro k hk2 q
          have := rn_pos q.1
          have m := rn_mono (ps_cov s b) (show k + 1 ≤ 4096 by omega)
          rw [eB] at m
          have e3 : nI (rn_B (ps_cov s b) (k + 1)) - 1 = nI (rn_B (ps_cov s b) (k + 1) - 1) := nm_sub (b := 1) (by omega)
          have e4 := (nm_big (m := rn_B (ps_cov s b) (4 ^ s.1 0)) (by omega) h (n := rn_B (ps_cov s b) (k + 1) - 1) (by omega)).2.2.2.2.1
          rw [← e3, q.2.1] at e4
          exact e4 rfl
        · rw [if_neg i1, if_neg (Int32.not_lt.mpr h)]
      · have ij : nI j < nI (rn_B (ps_cov s b) (4 ^ s.1 0)) := by rw [nm_lt (by omega) (by omega)]; exact hj
        have hne : ∀ k, k < 4096 → (ps_cov s b k = true → (nI (rn_B (ps_cov s b) (k + 1)) - 1 = nI j ↔ rn_B (ps_cov s b) (k + 1) = j + 1)) := fun k hk q => by
          have := rn_pos q
          have := rn_le (ps_cov s b) (k + 1)
          have e3 : nI (rn_B (ps_cov s b) (k + 1)) - 1 = nI (rn_B (ps_cov s b) (k + 1) - 1) := nm_sub (b := 1) (by omega)
          rw [e3, nm_eq (by omega) (by omega)]
          omega
        rcases (show c = 0 ∨ c = 1 by omega) with rfl | rfl
        · obtain ⟨k0, z1, z2, z3⟩ := ct_ex hj
          have z3 : rn_B (ps_cov s b) k0 = j := z3
          have z4 : rn_B (ps_cov s b) (k0 + 1) = rn_B (ps_cov s b) k0 + 1 := ct_t z2
          refine ⟨nI k0, s, ho, cls _ (fun M a q hk h2 => px_runK hk h2 f4 (nI j) hc (by omega) ⟨(rn_b_f z2).1, ((hne k0 (by omega) (rn_b_f z2).1).mpr (by omega)), by rw [if_pos rfl]; exact z2⟩ (fun k hk2 q => ?_)), rfm _ (fun M T hI => ?_)⟩
          · have := (hne k (by omega) q.1).mp q.2.1
            have := rn_mono (ps_cov s b) (show k + 1 ≤ k0 by omega)
            omega
          · rw [if_neg i1, if_pos ij, if_pos (show nI 0 = (0 : Int32) from rfl), hI.2.2.2.2.1 k0 z1 z2 (by rw [z3])]
        · obtain ⟨k1, z1, z2, z3, z4⟩ := rn_E1 hj
          have z5 := rn_last f0 z2 z3 z4
          refine ⟨nI k1, s, ho, cls _ (fun M a q hk h2 => px_runK hk h2 f4 (nI j) hc (by omega) ⟨z2, ((hne k1 (by omega) z2).mpr z3), by rw [if_neg (by decide)]; exact z5⟩ (fun k hk2 q => ?_)), rfm _ (fun M T hI => ?_)⟩
          · have y1 := (hne k (by omega) q.1).mp q.2.1
            have y2 := q.2.2
            rw [if_neg (by decide)] at y2
            obtain ⟨d, rfl⟩ : ∃ d, k1 = k + 1 + d := ⟨k1 - k - 1, by omega⟩
            have y3 := rn_E3 y2 d z2
            omega
          · rw [if_neg i1, if_pos ij, if_neg (show ¬ nI 1 = (0 : Int32) by decide), hI.2.2.2.2.2 k1 z1 z2 (by rw [z3, nI_1]) (fun u u1 u2 u3 => by rw [z3]; exact z4 u u1 u2 u3)]
  · refine ⟨-1, s, ho, ps_ox.same (fun pl M hX => ?_), ps_om.same (fun M hM => ?_)⟩
    · unfold fX9_span
      by_cases hw : w = 0 ∨ w = 1
      · by_cases hi : i < -1
        · simp only [px_bit, hw, if_true, am_bs, nm_1f, if_false, hi]
        · have hv : ¬ (v = 0 ∨ v = 1) := fun q => hQ ⟨hw, hi, q⟩
          simp only [px_bit, hw, if_true, am_bs, nm_1f, if_false, hi, hv]
      · simp only [px_bit, hw, if_true, am_bs, if_false]
    · unfold fX10_span
      simp only [pm_asked_no hQ, am_bs, if_true]
