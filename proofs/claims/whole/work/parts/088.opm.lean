/-! leaps, beside -/
theorem ps_d_c (x a : Nat) : ps_d x a = ps_d a x := Nat.add_comm _ _
theorem cv_p64 {c D : Nat} (hD : D ≤ 6) (g : Nat) : (cv_p c D 0 0 0 g).1 < 64 ∧ (cv_p c D 0 0 0 g).2 < 64 ∧ (cv_p c D 0 0 0 g).1 < 2 ^ D ∧ (cv_p c D 0 0 0 g).2 < 2 ^ D := by
  have hl := cv_p_lt c D 0 0 0 g (by decide) (by decide)
  rw [Nat.zero_add] at hl
  have := nz_p2 hD
  omega
theorem ps_ct_le (f : Nat → Bool) (a : Nat) : ∀ n, ps_ct f a n ≤ n
  | 0 => Nat.le_refl 0
  | n + 1 => by
    have := ps_ct_le f a n
    rw [ps_ct]
    split <;> omega
theorem nI_if (P : Prop) [Decidable P] (a : Nat) : nI a + (if P then 1 else 0) = nI (a + if P then 1 else 0) := by
  by_cases h : P
  · rw [if_pos h, if_pos h, nI_1]
  · rw [if_neg h, if_neg h, nm_0, nI_add]
def ps_lp (s : ps_S) (k : Nat) : Bool := decide (¬ ps_d (cv_p (s.1 1) (s.1 0) 0 0 0 (k + 1)).1 (cv_p (s.1 1) (s.1 0) 0 0 0 k).1 + ps_d (cv_p (s.1 1) (s.1 0) 0 0 0 (k + 1)).2 (cv_p (s.1 1) (s.1 0) 0 0 0 k).2 = 1)
theorem op_leaps : ps_op (fX9_leaps 0) (fX10_leaps 53) := by
  intro s ho
  obtain ⟨o1, o2, o3, -⟩ := id ho
  have hp4 := nz_p4 o2
  have hd : ∀ k, ps_d (cv_p (s.1 1) (s.1 0) 0 0 0 (k + 1)).1 (cv_p (s.1 1) (s.1 0) 0 0 0 k).1 < 8192 ∧ ps_d (cv_p (s.1 1) (s.1 0) 0 0 0 (k + 1)).2 (cv_p (s.1 1) (s.1 0) 0 0 0 k).2 < 8192 := fun k => ⟨ps_d_lt (cv_p64 o2 _).1 (cv_p64 o2 _).1, ps_d_lt (cv_p64 o2 _).2.1 (cv_p64 o2 _).2.1⟩
  refine ⟨nI (ps_ct (ps_lp s) 0 (4 ^ s.1 0 - 1)), s, ho, ps_ox.same (fun pl M hX => ?_), fun M hM => ?_⟩
  · obtain ⟨p1, p2, p3, p4, p5, p6, p7, p8, -⟩ := hX.pl
    unfold fX9_leaps
    have h0 := px_placeOf o3 o2 (g := 0) (by decide) M
    rw [← nm_0] at h0
    simp only [p2, px_size0 o2 p4, p4, p5, h0, Option.bind_some]
    refine am_loop_run (f := fX9_leaps_33) (fun t => (0, nI (ps_ct (ps_lp s) 0 t), nI (4 ^ s.1 0), nI ((cv_p (s.1 1) (s.1 0) 0 0 0 t).1 + 64 * (cv_p (s.1 1) (s.1 0) 0 0 0 t).2), nI (t + 1), M)) _ (4 ^ s.1 0 - 1) (fun t k ht => ?_) (fun k => ?_) 100000 0 (by omega) (by omega)
    · have q1 := cv_p64 (c := s.1 1) o2 t
      have q2 := cv_p64 (c := s.1 1) o2 (t + 1)
      have q3 := hd t
      have c0 : ¬ nI (4 ^ s.1 0) ≤ nI (t + 1) := by rw [nm_le (by omega) (by omega)]; omega
      unfold fX9_leaps_33 fX9_leaps_106
      simp only [c0, if_false, p2, p4, p5, Option.bind_some, px_placeOf o3 o2 (show t + 1 < 4096 by omega), px_half0 q1.1 q1.2.1, px_half0 q2.1 q2.2.1, px_half1 q1.1 q1.2.1, px_half1 q2.1 q2.2.1, nm_d2, nI_add, nz_eq1 (show ps_d (cv_p (s.1 1) (s.1 0) 0 0 0 (t + 1)).1 (cv_p (s.1 1) (s.1 0) 0 0 0 t).1 + ps_d (cv_p (s.1 1) (s.1 0) 0 0 0 (t + 1)).2 (cv_p (s.1 1) (s.1 0) 0 0 0 t).2 < 2147483648 by omega), nI_1]
      rw [ps_ct, Nat.zero_add, ps_lp]
      by_cases c : ps_d (cv_p (s.1 1) (s.1 0) 0 0 0 (t + 1)).1 (cv_p (s.1 1) (s.1 0) 0 0 0 t).1 + ps_d (cv_p (s.1 1) (s.1 0) 0 0 0 (t + 1)).2 (cv_p (s.1 1) (s.1 0) 0 0 0 t).2 = 1
      · rw [if_pos c, if_neg (by simp [c])]; rfl
      · rw [if_neg c, if_pos (by simp [c])]
    · have c0 : nI (4 ^ s.1 0) ≤ nI (4 ^ s.1 0 - 1 + 1) := by rw [nm_le (by omega) (by omega)]; omega
      unfold fX9_leaps_33
      simp only [c0, if_true]
  · unfold fX10_leaps
    refine am_loop_inv (f := fX10_leaps_4) (fun t st => ∃ M', st = (53, nI (ps_ct (ps_lp s) 0 t), nI t, M') ∧ ps_R s M M') (fun r => ∃ M1, r = some (nI (ps_ct (ps_lp s) 0 (4 ^ s.1 0 - 1)), M1) ∧ ps_M s M1 ∧ am_fm M M1) (4 ^ s.1 0 - 1) ?_ ?_ 100000 0 _ (by omega) (by omega) ⟨M, rfl, ps_R.rf hM⟩
    · rintro t st k ht ⟨M', rfl, hR⟩
      left
      have q3 := hd t
      have c0 : ¬ nI (4 ^ s.1 0) - 1 ≤ nI t := by rw [nm_1, nm_sub (by omega), nm_le (by omega) (by omega)]; omega
      have R1 := (hR.pI (k := 53) (j := 19) (by omega) (nI (cv_p (s.1 1) (s.1 0) 0 0 0 t).1)).pI (k := 53) (j := 20) (by omega) (nI (cv_p (s.1 1) (s.1 0) 0 0 0 t).2)
      have E1 := pm_setCell (a := 53) (g := t) o3 o2 hR.1.2.2.1 hR.1.2.2.2.1 (by omega)
      have a1 : (am_pI (am_pI M' 53 19 (nI (cv_p (s.1 1) (s.1 0) 0 0 0 t).1)) 53 20 (nI (cv_p (s.1 1) (s.1 0) 0 0 0 t).2)).1 53 19 = nI (cv_p (s.1 1) (s.1 0) 0 0 0 t).1 := by rw [am_pI_1, if_neg (by omega), am_pI_1, if_pos ⟨rfl, rfl⟩]
      have a2 : (am_pI (am_pI M' 53 19 (nI (cv_p (s.1 1) (s.1 0) 0 0 0 t).1)) 53 20 (nI (cv_p (s.1 1) (s.1 0) 0 0 0 t).2)).1 53 20 = nI (cv_p (s.1 1) (s.1 0) 0 0 0 t).2 := by rw [am_pI_1, if_pos ⟨rfl, rfl⟩]
      generalize am_pI (am_pI M' 53 19 (nI (cv_p (s.1 1) (s.1 0) 0 0 0 t).1)) 53 20 (nI (cv_p (s.1 1) (s.1 0) 0 0 0 t).2) = T at R1 E1 a1 a2
      have R2 := (R1.pI (k := 53) (j := 19) (by omega) (nI (cv_p (s.1 1) (s.1 0) 0 0 0 (t + 1)).1)).pI (k := 53) (j := 20) (by omega) (nI (cv_p (s.1 1) (s.1 0) 0 0 0 (t + 1)).2)
      have E2 := pm_setCell (a := 53) (g := t + 1) o3 o2 R1.1.2.2.1 R1.1.2.2.2.1 (by omega)
      have b1 : (am_pI (am_pI T 53 19 (nI (cv_p (s.1 1) (s.1 0) 0 0 0 (t + 1)).1)) 53 20 (nI (cv_p (s.1 1) (s.1 0) 0 0 0 (t + 1)).2)).1 53 19 = nI (cv_p (s.1 1) (s.1 0) 0 0 0 (t + 1)).1 := by rw [am_pI_1, if_neg (by omega), am_pI_1, if_pos ⟨rfl, rfl⟩]
      have b2 : (am_pI (am_pI T 53 19 (nI (cv_p (s.1 1) (s.1 0) 0 0 0 (t + 1)).1)) 53 20 (nI (cv_p (s.1 1) (s.1 0) 0 0 0 (t + 1)).2)).1 53 20 = nI (cv_p (s.1 1) (s.1 0) 0 0 0 (t + 1)).2 := by rw [am_pI_1, if_pos ⟨rfl, rfl⟩]
      generalize am_pI (am_pI T 53 19 (nI (cv_p (s.1 1) (s.1 0) 0 0 0 (t + 1)).1)) 53 20 (nI (cv_p (s.1 1) (s.1 0) 0 0 0 (t + 1)).2) = U at R2 E2 b1 b2
      refine ⟨(53, nI (ps_ct (ps_lp s) 0 (t + 1)), nI (t + 1), U), ⟨U, rfl, R2⟩, ?_⟩
      unfold fX10_leaps_4 fX10_leaps_80
      simp only [pm_cells o2 hR.1.2.2.1, c0, if_false, Option.bind_some, E1, nI_1, E2, a1, a2, b1, b2, nm_d2, nI_add, ps_d_c (cv_p (s.1 1) (s.1 0) 0 0 0 t).1, ps_d_c (cv_p (s.1 1) (s.1 0) 0 0 0 t).2, nz_eq1 (show ps_d (cv_p (s.1 1) (s.1 0) 0 0 0 (t + 1)).1 (cv_p (s.1 1) (s.1 0) 0 0 0 t).1 + ps_d (cv_p (s.1 1) (s.1 0) 0 0 0 (t + 1)).2 (cv_p (s.1 1) (s.1 0) 0 0 0 t).2 < 2147483648 by omega)]
      rw [ps_ct, Nat.zero_add, ps_lp]
      by_cases c : ps_d (cv_p (s.1 1) (s.1 0) 0 0 0 (t + 1)).1 (cv_p (s.1 1) (s.1 0) 0 0 0 t).1 + ps_d (cv_p (s.1 1) (s.1 0) 0 0 0 (t + 1)).2 (cv_p (s.1 1) (s.1 0) 0 0 0 t).2 = 1
      · rw [if_pos c, if_neg (by simp [c]), nm_0, nI_add]
      · rw [if_neg c, if_pos (by simp [c])]
    · rintro st k ⟨M', rfl, hR⟩
      have c0 : nI (4 ^ s.1 0) - 1 ≤ nI (4 ^ s.1 0 - 1) := by rw [nm_1, nm_sub (by omega), nm_le (by omega) (by omega)]; exact Nat.le_refl _
      refine ⟨M', ?_, hR.1, hR.2⟩
      unfold fX10_leaps_4
      simp only [pm_cells o2 hR.1.2.2.1, Option.bind_some, c0, if_true]
/-! a step aside -/
theorem nz_step (d : Int32) : (¬ d < -1 ∧ ¬ 1 < d) ↔ (d = -1 ∨ d = 0 ∨ d = 1) := by
  have e1 : (-1 : Int32).toInt = -1 := rfl
  have e2 : (1 : Int32).toInt = 1 := rfl
  have e3 : (0 : Int32).toInt = 0 := rfl
  rw [Int32.lt_iff_toInt_lt, Int32.lt_iff_toInt_lt, ← Int32.toInt_inj, ← Int32.toInt_inj, ← Int32.toInt_inj, e1, e2, e3]
  omega
theorem px_step (d : Int32) (M : am_M) : fX9_isStep d M = some (if d = -1 ∨ d = 0 ∨ d = 1 then 1 else 0, M) := by
  unfold fX9_isStep
  by_cases h : d = -1 ∨ d = 0 ∨ d = 1
  · have q := (nz_step d).mpr h
    rw [if_neg q.1, if_neg q.2, if_pos h]
  · rw [if_neg h]
    by_cases h1 : d < -1
    · rw [if_pos h1]
    · by_cases h2 : 1 < d
      · rw [if_neg h1, if_pos h2]
      · exact absurd ((nz_step d).mp ⟨h1, h2⟩) h
theorem pm_step (d : Int32) (M : am_M) : fX10_isIn d (-1) 1 M = some (if d = -1 ∨ d = 0 ∨ d = 1 then 1 else 0, M) := px_step d M
def ps_st (d : Int32) (p n : Nat) : Option Nat := if d = -1 then (if p = 0 then none else some (p - 1)) else if d = 0 then some p else if p + 1 < n then some (p + 1) else none
theorem nz_below {a b : Nat} (h : a < b) (hb : b < 2147483648) : nI a - nI b < 0 := by
  have e : nI a - nI b = -(nI (b - a)) := by rw [← nm_sub (show a ≤ b by omega), Int32.neg_sub]
  have q := nI_toInt (n := b - a) (by omega)
  rw [e, Int32.lt_iff_toInt_lt, Int32.toInt_neg, q]
  show (-((b - a : Nat) : Int)).bmod (2 ^ 32) < 0
  rw [Int.bmod_eq_of_le (by omega) (by omega)]
  omega
theorem px_st {d : Int32} (hd : d = -1 ∨ d = 0 ∨ d = 1) {p n : Nat} (hp : p < n) (hn : n < 2147483648) : (∀ q, ps_st d p n = some q → q < n ∧ nI p + d = nI q) ∧ (ps_st d p n = none → nI p + d < 0 ∨ (¬ nI p + d < 0 ∧ nI n ≤ nI p + d)) := by
  unfold ps_st
  rcases hd with rfl | rfl | rfl
  · rw [if_pos rfl]
    by_cases h : p = 0
    · subst h
      rw [if_pos rfl]
      refine ⟨fun q hq => absurd hq (by simp), fun _ => Or.inl (by decide)⟩
    · rw [if_neg h]
      refine ⟨fun q hq => ?_, fun hq => absurd hq (by simp)⟩
      obtain rfl : p - 1 = q := Option.some.inj hq
      exact ⟨by omega, nm_m1 (by omega)⟩
  · rw [if_neg (by decide), if_pos rfl]
    refine ⟨fun q hq => ?_, fun hq => absurd hq (by simp)⟩
    obtain rfl : p = q := Option.some.inj hq
    exact ⟨hp, Int32.add_zero _⟩
  · rw [if_neg (by decide), if_neg (by decide), nI_1]
    by_cases h : p + 1 < n
    · rw [if_pos h]
      refine ⟨fun q hq => ?_, fun hq => absurd hq (by simp)⟩
      obtain rfl : p + 1 = q := Option.some.inj hq
      exact ⟨h, rfl⟩
    · rw [if_neg h]
      refine ⟨fun q hq => absurd hq (by simp), fun _ => Or.inr ⟨nI_pos (by omega), by rw [nm_le (by omega) (by omega)]; omega⟩⟩
theorem pm_st {d : Int32} (hd : d = -1 ∨ d = 0 ∨ d = 1) {p n m X : Nat} (hp : p < n) (hm : 0 < m) (hX : X / m = p) (hn : n * m < 1073741824) : (∀ q, ps_st d p n = some q → ∃ Q, Q < n * m ∧ Q / m = q ∧ nI X + d * nI m = nI Q) ∧ (ps_st d p n = none → ¬ (0 ≤ nI X + d * nI m ∧ nI X + d * nI m < nI (n * m))) := by
  have x1 : p * m ≤ X := by rw [← hX]; exact Nat.div_mul_le_self X m
  have x2 : X < p * m + m := by
    have := Nat.lt_div_mul_add (a := X) hm
    rw [hX] at this; exact this
  have x3 : p * m + m ≤ n * m := by
    have : (p + 1) * m ≤ n * m := Nat.mul_le_mul_right m hp
    rw [Nat.add_mul, Nat.one_mul] at this; exact this
  unfold ps_st
  rcases hd with rfl | rfl | rfl
  · have e : nI X + -1 * nI m = nI X - nI m := by rw [Int32.neg_mul, Int32.one_mul, Int32.sub_eq_add_neg]
    rw [if_pos rfl, e]
    by_cases h : p = 0
    · subst h
      rw [if_pos rfl]
      refine ⟨fun q hq => absurd hq (by simp), fun _ hq => ?_⟩
      have := nz_below (a := X) (b := m) (by omega) (by omega)
      exact absurd this (Int32.not_lt.mpr hq.1)
    · rw [if_neg h]
      refine ⟨fun q hq => ?_, fun hq => absurd hq (by simp)⟩
      obtain rfl : p - 1 = q := Option.some.inj hq
      have x4 : m ≤ p * m := Nat.le_mul_of_pos_left m (by omega)
      refine ⟨X - m, by omega, ?_, nm_sub (by omega)⟩
      have := Nat.sub_mul_div X m 1
      rw [Nat.mul_one, hX] at this
      exact this
  · rw [if_neg (by decide), if_pos rfl, Int32.zero_mul, Int32.add_zero]
    refine ⟨fun q hq => ?_, fun hq => absurd hq (by simp)⟩
    obtain rfl : p = q := Option.some.inj hq
    exact ⟨X, by omega, hX, rfl⟩
  · rw [if_neg (by decide), if_neg (by decide), Int32.one_mul, nI_add]
    by_cases h : p + 1 < n
    · rw [if_pos h]
      refine ⟨fun q hq => ?_, fun hq => absurd hq (by simp)⟩
      obtain rfl : p + 1 = q := Option.some.inj hq
      have x5 : (p + 1 + 1) * m ≤ n * m := Nat.mul_le_mul_right m h
      rw [Nat.add_mul, Nat.add_mul, Nat.one_mul] at x5
      refine ⟨X + m, by omega, by rw [Nat.add_div_right X hm, hX], rfl⟩
    · rw [if_neg h]
      refine ⟨fun q hq => absurd hq (by simp), fun _ hq => ?_⟩
      obtain rfl : n = p + 1 := by omega
      rw [Nat.add_mul, Nat.one_mul] at *
      rw [nm_lt (by omega) (by omega)] at hq
      omega
