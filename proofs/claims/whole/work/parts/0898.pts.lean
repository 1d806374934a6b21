/-! ===== points by their keys: ranks, the order ===== -/
def ps_pk (s : ps_S) (i : Nat) : Nat := cv_k (s.1 1) (s.1 0) (s.2 6 i) (s.2 7 i) 0
def ps_bf (s : ps_S) (k j : Nat) : Bool := decide (ps_pk s k < ps_pk s j ∨ (ps_pk s k = ps_pk s j ∧ k < j))
def ps_rk (s : ps_S) (n j : Nat) : Nat := ps_ct (fun k => ps_bf s k j) 0 n
theorem ps_bf_t {s : ps_S} {k j : Nat} : ps_bf s k j = true ↔ (ps_pk s k < ps_pk s j ∨ (ps_pk s k = ps_pk s j ∧ k < j)) := decide_eq_true_iff
theorem ps_bf_f {s : ps_S} {k j : Nat} (h : ¬ (ps_pk s k < ps_pk s j ∨ (ps_pk s k = ps_pk s j ∧ k < j))) : ps_bf s k j = false := decide_eq_false h
theorem ps_bf_tri (s : ps_S) (a b : Nat) : ps_bf s a b = true ∨ ps_bf s b a = true ∨ a = b := by
  rw [ps_bf_t, ps_bf_t]; omega
theorem ps_ct_lt {f g : Nat → Bool} {a n : Nat} (h : ∀ i, i < n → f i = true → g i = true) (ha : a < n) (hf : f a = false) (hg : g a = true) : ps_ct f 0 n < ps_ct g 0 n := by
  have e := ps_ct_mo (f := f) (g := g) (a := 0) (n := n) (fun i hi => by rw [Nat.zero_add]; exact h i hi)
  have p := ps_ct_pos (f := fun k => decide (¬ g k = f k)) (a := 0) (n := n) (i := a) ha (by rw [Nat.zero_add, hf, hg]; decide)
  omega
theorem ps_ct_eq1 {j : Nat} : ∀ {n : Nat}, ps_ct (fun k => decide (k = j)) 0 n = if j < n then 1 else 0
  | 0 => by rw [if_neg (Nat.not_lt_zero j)]; rfl
  | n + 1 => by
    rw [ps_ct, ps_ct_eq1 (n := n)]
    simp only [Nat.zero_add, decide_eq_true_eq]
    by_cases h1 : j < n
    · rw [if_pos h1, if_neg (show ¬ n = j by omega), if_pos (by omega)]
    · by_cases h2 : n = j
      · rw [if_neg h1, if_pos h2, if_pos (by omega)]
      · rw [if_neg h1, if_neg h2, if_neg (by omega)]
theorem ps_ct_one {f g : Nat → Bool} {j n : Nat} (hj : j < n) (h : ∀ k, k < n → k ≠ j → f k = g k) (hf : f j = true) (hg : g j = false) : ps_ct f 0 n = ps_ct g 0 n + 1 := by
  have e := ps_ct_mo (f := g) (g := f) (a := 0) (n := n) (fun i hi hh => by
    rw [Nat.zero_add] at hh ⊢
    by_cases c : i = j
    · rw [c]; exact hf
    · rw [h i hi c]; exact hh)
  have e2 : ps_ct (fun k => decide (¬ f k = g k)) 0 n = ps_ct (fun k => decide (k = j)) 0 n := ps_ct_cg (fun i hi => by
    rw [Nat.zero_add]
    apply decide_eq_decide.mpr
    by_cases c : i = j
    · rw [c, hf, hg]; exact ⟨fun _ => rfl, fun _ => by decide⟩
    · rw [h i hi c]; exact ⟨fun q => absurd rfl q, fun q => absurd q c⟩)
  rw [ps_ct_eq1, if_pos hj] at e2
  omega
theorem ps_rk_lt {s : ps_S} {n a b : Nat} (ha : a < n) (h : ps_bf s a b = true) : ps_rk s n a < ps_rk s n b := by
  refine ps_ct_lt (a := a) (fun i _ hi => ?_) ha (ps_bf_f (by omega)) h
  rw [ps_bf_t] at *
  omega
theorem ps_rk_inj {s : ps_S} {n a b : Nat} (ha : a < n) (hb : b < n) (h : ps_rk s n a = ps_rk s n b) : a = b := by
  rcases ps_bf_tri s a b with q | q | q
  · have := ps_rk_lt ha q; omega
  · have := ps_rk_lt hb q; omega
  · exact q
theorem ps_rk_bd {s : ps_S} {n j : Nat} (hj : j < n) : ps_rk s n j < n := by
  have h := ps_ct_lt (f := fun k => ps_bf s k j) (g := fun _ => true) (a := j) (n := n) (fun _ _ _ => rfl) hj (ps_bf_f (by omega)) rfl
  rw [ps_ct_all (f := fun _ => true) (fun _ _ => rfl)] at h
  exact h
theorem ps_rk_s (s : ps_S) (n j : Nat) : ps_rk s (n + 1) j = ps_rk s n j + if ps_bf s n j = true then 1 else 0 := by
  unfold ps_rk
  rw [ps_ct, Nat.zero_add]
theorem ps_ins {s : ps_S} {i t : Nat} {o : Nat → Nat} (ho : ∀ u, u < i → o u < i ∧ ps_rk s i (o u) = u) (ht : t ≤ i) (hlo : t = 0 ∨ ps_pk s (o (t - 1)) ≤ ps_pk s i) (hhi : ∀ u, t ≤ u → u < i → ps_pk s i < ps_pk s (o u)) : ∀ u, u < i + 1 → (if u < t then o u else if u = t then i else o (u - 1)) < i + 1 ∧ ps_rk s (i + 1) (if u < t then o u else if u = t then i else o (u - 1)) = u := by
  have hin : ∀ u v, u < v → v < i → ps_bf s (o u) (o v) = true := fun u v huv hv => by
    have h1 := ho u (by omega)
    have h2 := ho v hv
    rcases ps_bf_tri s (o u) (o v) with q | q | q
    · exact q
    · have := ps_rk_lt h2.1 q; omega
    · rw [q] at h1; omega
  have hlo2 : ∀ u, u < t → ps_pk s (o u) ≤ ps_pk s i := fun u hu => by
    rcases hlo with q | q
    · omega
    · by_cases c : u = t - 1
      · rw [c]; exact q
      · have := hin u (t - 1) (by omega) (by omega)
        rw [ps_bf_t] at this
        omega
  have hsur : ∀ k, k < i → ∃ u, u < i ∧ o u = k := fun k hk => by
    have b := ps_rk_bd (s := s) hk
    have q := ho _ b
    exact ⟨_, b, ps_rk_inj q.1 hk q.2⟩
  intro u hu
  rcases Nat.lt_trichotomy u t with c | c | c
  · rw [if_pos c]
    have h1 := ho u (by omega)
    have h2 := hlo2 u c
    refine ⟨by omega, ?_⟩
    rw [ps_rk_s, ps_bf_f (by omega), h1.2]
    rfl
  · rw [if_neg (by omega), if_pos c]
    refine ⟨by omega, ?_⟩
    rw [ps_rk_s, ps_bf_f (by omega)]
    show ps_rk s i i = u
    by_cases c0 : t = 0
    · rw [c, c0]
      refine ps_ct_0 (fun k hk => ?_)
      rw [Nat.zero_add]
      obtain ⟨v, v1, v2⟩ := hsur k hk
      have := hhi v (by omega) v1
      rw [v2] at this
      exact ps_bf_f (by omega)
    · have hj := ho (t - 1) (by omega)
      have hj2 := hlo2 (t - 1) (by omega)
      have e := ps_ct_one (f := fun k => ps_bf s k i) (g := fun k => ps_bf s k (o (t - 1))) (j := o (t - 1)) (n := i) hj.1 (fun k hk hne => by
        obtain ⟨v, v1, v2⟩ := hsur k hk
        rcases Nat.lt_trichotomy v (t - 1) with d | d | d
        · have w := hin v (t - 1) d (by omega)
          have w2 := hlo2 v (by omega)
          rw [v2] at w w2
          show ps_bf s k i = ps_bf s k (o (t - 1))
          rw [w, ps_bf_t]
          omega
        · rw [d] at v2; exact absurd v2.symm hne
        · have w := hin (t - 1) v d v1
          have w2 := hhi v (by omega) v1
          rw [v2] at w w2
          rw [ps_bf_t] at w
          show ps_bf s k i = ps_bf s k (o (t - 1))
          rw [ps_bf_f (by omega), ps_bf_f (by omega)]) (by
        show ps_bf s (o (t - 1)) i = true
        rw [ps_bf_t]; omega) (ps_bf_f (by omega))
      have e2 : ps_rk s i i = ps_rk s i (o (t - 1)) + 1 := e
      rw [e2, hj.2]
      omega
  · rw [if_neg (by omega), if_neg (by omega)]
    have h1 := ho (u - 1) (by omega)
    have h2 := hhi (u - 1) (by omega) (by omega)
    refine ⟨by omega, ?_⟩
    rw [ps_rk_s, if_pos (by rw [ps_bf_t]; omega), h1.2]
    omega
