/-! ===== THE STATE: numbers (0 D, 1 curve, 2 lo, 3 hi, 4 parts, 5 points, 6 letters, 7 causes) and rows (0..5 a part's on, round, x, y, v, w; 6, 7 the points' x, y; 8 letters; 9 causes) ===== -/
abbrev ps_S : Type := (Nat → Nat) × (Nat → Nat → Nat)
def ps_ok (s : ps_S) : Prop := 1 ≤ s.1 0 ∧ s.1 0 ≤ 6 ∧ s.1 1 ≤ 1 ∧ s.1 2 ≤ s.1 3 ∧ s.1 3 ≤ s.1 0 ∧ s.1 4 ≤ 8 ∧ s.1 5 ≤ 40 ∧ s.1 6 ≤ 200 ∧ s.1 7 ≤ 3 ∧
  (∀ i, i < s.1 4 → s.2 0 i ≤ 1 ∧ s.2 1 i ≤ 1 ∧ s.2 2 i < 64 ∧ s.2 3 i < 64 ∧ s.2 4 i < 64 ∧ s.2 5 i < 64) ∧ (∀ i, i < s.1 5 → s.2 6 i < 2 ^ s.1 0 ∧ s.2 7 i < 2 ^ s.1 0) ∧ (∀ i, i < s.1 6 → 32 ≤ s.2 8 i ∧ s.2 8 i ≤ 126) ∧ (∀ i, i < s.1 7 → s.2 9 i < 1000)
/-- the shape -/
def ps_has (s : ps_S) (i x y : Nat) : Bool := if s.2 1 i = 1 then decide (((x : Int) - s.2 2 i) * ((x : Int) - s.2 2 i) + ((y : Int) - s.2 3 i) * ((y : Int) - s.2 3 i) ≤ (s.2 4 i : Int) * s.2 4 i) else decide (s.2 2 i ≤ x ∧ x ≤ s.2 4 i ∧ s.2 3 i ≤ y ∧ y ≤ s.2 5 i)
def ps_scan (s : ps_S) (x y : Nat) : Nat → Bool
  | 0 => false
  | i + 1 => if ps_has s i x y then s.2 0 i == 1 else ps_scan s x y i
def ps_in (s : ps_S) (x y : Nat) : Bool := ps_scan s x y (s.1 4)
/-- by keys -/
def ps_sk (s : ps_S) (k : Nat) : Bool := decide (k < 4 ^ s.1 0) && ps_in s (cv_p (s.1 1) (s.1 0) 0 0 0 k).1 (cv_p (s.1 1) (s.1 0) 0 0 0 k).2
/-- how many of n from a on -/
def ps_ct (f : Nat → Bool) (a : Nat) : Nat → Nat
  | 0 => 0
  | n + 1 => ps_ct f a n + if f (a + n) then 1 else 0
def ps_sz (s : ps_S) (l : Nat) : Nat := 4 ^ (s.1 0 - l)
def ps_cov (s : ps_S) (which k : Nat) : Bool := decide (k < 4 ^ s.1 0) && (if which = 0 then decide (0 < ps_ct (ps_sk s) (k / ps_sz s (s.1 3) * ps_sz s (s.1 3)) (ps_sz s (s.1 3))) else decide (ps_ct (ps_sk s) (k / ps_sz s (s.1 3) * ps_sz s (s.1 3)) (ps_sz s (s.1 3)) = ps_sz s (s.1 3)))
/-- the best sets: rows of least costs, by how many tiles -/
def bs_min (f : Nat → Nat) : Nat → Nat
  | 0 => min 1000000 (f 0)
  | j + 1 => min (bs_min f j) (f (j + 1))
def bs_add (a b : Nat → Nat) (t : Nat) : Nat := bs_min (fun j => a (t - j) + b j) t
def bs_row (s : ps_S) : Nat → Nat → Nat → Nat → Nat
  | 0, l, k, t => if ps_ct (ps_sk s) (k * ps_sz s l) (ps_sz s l) = 0 then 0 else if t = 0 then 1000000 else ps_sz s l
  | n + 1, l, k, t => if s.1 2 ≤ l ∧ 1 ≤ t then min (bs_add (bs_add (bs_add (bs_row s n (l + 1) (4 * k)) (bs_row s n (l + 1) (4 * k + 1))) (bs_row s n (l + 1) (4 * k + 2))) (bs_row s n (l + 1) (4 * k + 3)) t) (ps_sz s l) else bs_add (bs_add (bs_add (bs_row s n (l + 1) (4 * k)) (bs_row s n (l + 1) (4 * k + 1))) (bs_row s n (l + 1) (4 * k + 2))) (bs_row s n (l + 1) (4 * k + 3)) t
/-! ===== the memory of both objects ===== -/
/-- the class's object at 0, the reference's at 53 -/
def am_SH : List (Nat × Nat) := [(13, 4), (11, 6), (2, 200), (0, 4), (0, 3), (5, 7), (7, 1), (1, 64), (7, 1), (1, 64), (7, 1), (1, 64), (6, 2), (0, 98), (12, 1), (4, 7), (0, 13), (0, 13), (0, 13), (0, 13), (0, 13), (0, 13), (0, 13),
  (9, 7), (10, 5), (0, 40), (0, 40), (0, 40), (0, 40), (3, 8), (8, 6), (8, 6), (8, 6), (8, 6), (8, 6), (8, 6), (8, 6), (8, 6),
  (9, 7), (10, 5), (0, 40), (0, 40), (0, 40), (0, 40), (3, 8), (8, 6), (8, 6), (8, 6), (8, 6), (8, 6), (8, 6), (8, 6), (8, 6),
  (14, 30), (0, 48), (0, 40), (0, 40), (0, 200), (0, 3), (0, 4), (0, 4096), (0, 4096), (0, 91), (0, 13), (0, 13), (0, 4096)]
/-- references that never change -/
def am_rf (k j : Nat) : Option Nat := match k, j with
  | 0, 0 => some 1
  | 0, 1 => some 5
  | 1, 0 => some 2
  | 1, 1 => some 3
  | 1, 2 => some 4
  | 5, 0 => some 6
  | 5, 1 => some 8
  | 5, 2 => some 10
  | 5, 3 => some 12
  | 5, 4 => some 14
  | 6, 0 => some 7
  | 8, 0 => some 9
  | 10, 0 => some 11
  | 12, 0 => some 13
  | 14, 0 => some 15
  | 15, 0 => some 16
  | 15, 1 => some 17
  | 15, 2 => some 18
  | 15, 3 => some 19
  | 15, 4 => some 20
  | 15, 5 => some 21
  | 15, 6 => some 22
  | 23, 0 => some 24
  | 23, 1 => some 29
  | 24, 0 => some 25
  | 24, 1 => some 26
  | 24, 2 => some 27
  | 24, 3 => some 28
  | 38, 0 => some 39
  | 38, 1 => some 44
  | 39, 0 => some 40
  | 39, 1 => some 41
  | 39, 2 => some 42
  | 39, 3 => some 43
  | 53, 5 => some 54
  | 53, 7 => some 55
  | 53, 8 => some 56
  | 53, 9 => some 57
  | 53, 12 => some 58
  | 53, 18 => some 59
  | 53, 21 => some 60
  | 53, 22 => some 61
  | 53, 25 => some 62
  | 53, 26 => some 63
  | 53, 27 => some 64
  | 53, 28 => some 65
  | _, _ => none
/-- a key set holds f -/
def ps_ks (M : am_M) (q : Nat) (f : Nat → Bool) : Prop := ∀ k, k < 4096 → (M.2.1 q (k / 64)).toBitVec.getLsbD (k % 64) = f k
/-- places of the class's memory: plan at pl -/
def ps_X (s : ps_S) (pl : Nat) (M : am_M) : Prop :=
  M.2.2.2 = am_SH ∧ (pl = 23 ∨ pl = 38) ∧ M.2.2.1 0 2 = some pl ∧ M.2.2.1 0 3 = some (61 - pl) ∧ (∀ k j q, k < 53 → am_rf k j = some q → M.2.2.1 k j = some q) ∧
  (∀ p, p = 23 ∨ p = 38 → ∃ pi : Nat → Nat, (∀ i, i < 8 → pi i < 8 ∧ M.2.2.1 (p + 6) i = some (p + 7 + pi i)) ∧ ∀ i j, i < 8 → j < 8 → pi i = pi j → i = j) ∧
  M.1 pl 2 = nI (s.1 4) ∧ M.1 pl 3 = nI (s.1 0) ∧ M.1 pl 4 = nI (s.1 1) ∧ M.1 pl 5 = nI (s.1 2) ∧ M.1 pl 6 = nI (s.1 3) ∧
  M.1 (pl + 1) 4 = nI (s.1 5) ∧ (∀ i, i < s.1 5 → M.1 (pl + 2) i = nI (s.2 6 i) ∧ M.1 (pl + 3) i = nI (s.2 7 i)) ∧
  (∀ i, i < s.1 4 → ∃ q, M.2.2.1 (pl + 6) i = some q ∧ pl + 7 ≤ q ∧ q < pl + 15 ∧ ∀ j, j < 6 → M.1 q j = nI (s.2 j i)) ∧
  M.1 1 3 = nI (s.1 6) ∧ M.1 1 4 = nI (s.1 7) ∧ (∀ i, i < s.1 6 → M.1 2 i = nI (s.2 8 i)) ∧ (∀ i, i < s.1 7 → M.1 4 i = nI (s.2 9 i)) ∧
  (M.1 5 5 = nI 0 ∨ (M.1 5 5 = nI 1 ∧ ps_ks M 7 (ps_sk s) ∧ ps_ks M 9 (ps_cov s 0) ∧ ps_ks M 11 (ps_cov s 1))) ∧ (M.1 5 6 = nI 0 ∨ (M.1 5 6 = nI 1 ∧ M.1 5 5 = nI 1 ∧ ∀ t, t < 13 → M.1 16 t = nI (bs_row s (s.1 3) 0 0 t)))
/-- the reference's memory -/
def ps_M (s : ps_S) (M : am_M) : Prop :=
  M.2.2.2 = am_SH ∧ (∀ k j q, 53 ≤ k → am_rf k j = some q → M.2.2.1 k j = some q) ∧
  M.1 53 0 = nI (s.1 0) ∧ M.1 53 1 = nI (s.1 1) ∧ M.1 53 2 = nI (s.1 2) ∧ M.1 53 3 = nI (s.1 3) ∧ M.1 53 4 = nI (s.1 4) ∧ M.1 53 6 = nI (s.1 5) ∧ M.1 53 10 = nI (s.1 6) ∧ M.1 53 11 = nI (s.1 7) ∧
  (∀ i j, i < s.1 4 → j < 6 → M.1 54 (6 * i + j) = nI (s.2 j i)) ∧ (∀ i, i < s.1 5 → M.1 55 i = nI (s.2 6 i) ∧ M.1 56 i = nI (s.2 7 i)) ∧ (∀ i, i < s.1 6 → M.1 57 i = nI (s.2 8 i)) ∧ (∀ i, i < s.1 7 → M.1 58 i = nI (s.2 9 i))
/-- only the one's rows have changed -/
def am_fx (M M1 : am_M) : Prop := M1.2.2.2 = M.2.2.2 ∧ ∀ k, 53 ≤ k → M1.1 k = M.1 k ∧ M1.2.2.1 k = M.2.2.1 k
def am_fm (M M1 : am_M) : Prop := M1.2.2.2 = M.2.2.2 ∧ ∀ k, k < 53 → M1.1 k = M.1 k ∧ M1.2.1 k = M.2.1 k ∧ M1.2.2.1 k = M.2.2.1 k
theorem ps_M.fr {s : ps_S} {M M1 : am_M} (h : ps_M s M) (f : am_fx M M1) : ps_M s M1 := by
  obtain ⟨h1, h2, h3⟩ := h
  have r : ∀ k, 53 ≤ k → M1.1 k = M.1 k := fun k hk => (f.2 k hk).1
  refine ⟨f.1.trans h1, fun k j q hk hq => by rw [(f.2 k hk).2]; exact h2 k j q hk hq, ?_⟩
  rw [r 53 (by decide), r 54 (by decide), r 55 (by decide), r 56 (by decide), r 57 (by decide), r 58 (by decide)]
  exact h3
theorem ps_ks.fr {M M1 : am_M} {q : Nat} {f : Nat → Bool} (h : ps_ks M q f) (e : M1.2.1 q = M.2.1 q) : ps_ks M1 q f := by
  intro k hk
  rw [e]
  exact h k hk
theorem ps_X.fr {s : ps_S} {pl : Nat} {M M1 : am_M} (h : ps_X s pl M) (f : am_fm M M1) : ps_X s pl M1 := by
  obtain ⟨h1, h2, h3, h4, h5, h6, h7⟩ := h
  have r : ∀ k, k < 53 → M1.1 k = M.1 k := fun k hk => (f.2 k hk).1
  have rr : ∀ k, k < 53 → M1.2.2.1 k = M.2.2.1 k := fun k hk => (f.2 k hk).2.2
  have rj : ∀ k, k < 53 → M1.2.1 k = M.2.1 k := fun k hk => (f.2 k hk).2.1
  refine ⟨f.1.trans h1, h2, by rw [rr 0 (by decide)]; exact h3, by rw [rr 0 (by decide)]; exact h4, fun k j q hk hq => by rw [rr k hk]; exact h5 k j q hk hq, fun p hp => ?_, ?_⟩
  · obtain ⟨pi, a, b⟩ := h6 p hp
    exact ⟨pi, fun i hi => by rw [rr (p + 6) (by omega)]; exact a i hi, b⟩
  · obtain ⟨g1, g2, g3, g4, g5, g6, g7, g8, g9, g10, g11, g12, g13, g14⟩ := h7
    rw [r pl (by omega), r (pl + 1) (by omega), r (pl + 2) (by omega), r (pl + 3) (by omega), rr (pl + 6) (by omega), r 1 (by decide), r 2 (by decide), r 4 (by decide), r 5 (by decide), r 16 (by decide)]
    refine ⟨g1, g2, g3, g4, g5, g6, g7, fun i hi => ?_, g9, g10, g11, g12, ?_, g14⟩
    · obtain ⟨q, q1, q2, q3, q4⟩ := g8 i hi
      exact ⟨q, q1, q2, q3, fun j hj => by rw [r q (by omega)]; exact q4 j hj⟩
    · rcases g13 with g | ⟨g, k1, k2, k3⟩
      · exact Or.inl g
      · exact Or.inr ⟨g, k1.fr (rj 7 (by decide)), k2.fr (rj 9 (by decide)), k3.fr (rj 11 (by decide))⟩
