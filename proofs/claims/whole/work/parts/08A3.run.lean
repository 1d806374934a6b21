/-! ===== runs of keys ===== -/
theorem ct_s (g : Nat → Bool) (k : Nat) : ps_ct g 0 (k + 1) = ps_ct g 0 k + if g k = true then 1 else 0 := by rw [ps_ct, Nat.zero_add]
theorem ct_t {g : Nat → Bool} {k : Nat} (h : g k = true) : ps_ct g 0 (k + 1) = ps_ct g 0 k + 1 := by rw [ct_s, if_pos h]
theorem ct_f {g : Nat → Bool} {k : Nat} (h : g k = false) : ps_ct g 0 (k + 1) = ps_ct g 0 k := by rw [ct_s, h]; rfl
theorem ct_mono (g : Nat → Bool) {a b : Nat} (h : a ≤ b) : ps_ct g 0 a ≤ ps_ct g 0 b := by
  obtain ⟨d, rfl⟩ : ∃ d, b = a + d := ⟨b - a, by omega⟩
  rw [ps_ct_add]
  omega
theorem ct_ex {g : Nat → Bool} {i : Nat} : ∀ {n : Nat}, i < ps_ct g 0 n → ∃ k, k < n ∧ g k = true ∧ ps_ct g 0 k = i
  | 0, h => absurd h (Nat.not_lt_zero i)
  | n + 1, h => by
    by_cases c : i < ps_ct g 0 n
    · obtain ⟨k, h1, h2⟩ := ct_ex c
      exact ⟨k, by omega, h2⟩
    · rw [ct_s] at h
      by_cases c2 : g n = true
      · rw [if_pos c2] at h
        exact ⟨n, by omega, c2, by omega⟩
      · rw [if_neg c2] at h; omega
theorem ct_end {g : Nat → Bool} {n m : Nat} (h : ∀ k, n ≤ k → g k = false) (hm : n ≤ m) : ps_ct g 0 m = ps_ct g 0 n := by
  obtain ⟨d, rfl⟩ : ∃ d, m = n + d := ⟨m - n, by omega⟩
  rw [ps_ct_add, ps_ct_0 (f := g) (a := 0 + n) (n := d) (fun i _ => h _ (by omega)), Nat.add_zero]
def rn_p (f : Nat → Bool) : Nat → Bool
  | 0 => false
  | j + 1 => f j
def rn_b (f : Nat → Bool) (k : Nat) : Bool := f k && !rn_p f k
def rn_B (f : Nat → Bool) (k : Nat) : Nat := ps_ct (rn_b f) 0 k
theorem rn_b_f {f : Nat → Bool} {k : Nat} (h : rn_b f k = true) : f k = true ∧ rn_p f k = false := by
  unfold rn_b at h
  rw [Bool.and_eq_true] at h
  exact ⟨h.1, by cases hp : rn_p f k with | false => rfl | true => rw [hp] at h; exact absurd h.2 (by decide)⟩
theorem rn_b_t {f : Nat → Bool} {k : Nat} (h1 : f k = true) (h2 : rn_p f k = false) : rn_b f k = true := by
  unfold rn_b
  rw [h1, h2]; rfl
theorem rn_b_n {f : Nat → Bool} {k : Nat} (h : f k = false ∨ rn_p f k = true) : rn_b f k = false := by
  unfold rn_b
  rcases h with h | h
  · rw [h]; rfl
  · rw [h]; cases f k <;> rfl
theorem rn_mono (f : Nat → Bool) {a b : Nat} (h : a ≤ b) : rn_B f a ≤ rn_B f b := ct_mono _ h
theorem rn_pos {f : Nat → Bool} : ∀ {k : Nat}, f k = true → 0 < rn_B f (k + 1)
  | 0, h => by
    have := ct_t (g := rn_b f) (k := 0) (rn_b_t h rfl)
    unfold rn_B; omega
  | k + 1, h => by
    cases hp : f k with
    | true =>
      have := rn_pos hp
      have := rn_mono f (show k + 1 ≤ k + 1 + 1 by omega)
      omega
    | false =>
      have := ct_t (g := rn_b f) (k := k + 1) (rn_b_t h hp)
      unfold rn_B; omega
theorem rn_E1 {f : Nat → Bool} {i : Nat} : ∀ {n : Nat}, i < rn_B f n → ∃ k, k < n ∧ f k = true ∧ rn_B f (k + 1) = i + 1 ∧ ∀ u, k < u → u < n → f u = true → rn_B f (u + 1) ≠ i + 1
  | 0, h => absurd h (Nat.not_lt_zero i)
  | n + 1, h => by
    by_cases c : f n = true ∧ rn_B f (n + 1) = i + 1
    · exact ⟨n, by omega, c.1, c.2, fun u h1 h2 => by omega⟩
    · have h3 : i < rn_B f n := by
        cases hb : rn_b f n with
        | false =>
          have : rn_B f (n + 1) = rn_B f n := ct_f hb
          omega
        | true =>
          have e : rn_B f (n + 1) = rn_B f n + 1 := ct_t hb
          have := (rn_b_f hb).1
          by_cases c2 : rn_B f (n + 1) = i + 1
          · exact absurd ⟨this, c2⟩ c
          · omega
      obtain ⟨k, k1, k2, k3, k4⟩ := rn_E1 h3
      refine ⟨k, by omega, k2, k3, fun u h1 h2 h4 => ?_⟩
      by_cases c2 : u = n
      · subst c2; exact fun q => c ⟨h4, q⟩
      · exact k4 u h1 (by omega) h4
theorem rn_E3 {f : Nat → Bool} {a : Nat} (ha : f a = false) : ∀ d, f (a + d) = true → rn_B f a < rn_B f (a + d + 1)
  | 0, h => by rw [Nat.add_zero, ha] at h; exact absurd h (by decide)
  | d + 1, h => by
    cases hp : f (a + d) with
    | true =>
      have := rn_E3 ha d hp
      have := rn_mono f (show a + d + 1 ≤ a + (d + 1) + 1 by omega)
      omega
    | false =>
      have := ct_t (g := rn_b f) (k := a + (d + 1)) (rn_b_t h hp)
      have := rn_mono f (show a ≤ a + (d + 1) by omega)
      unfold rn_B at *
      omega
/-- the last of a run: nothing behind it -/
theorem rn_last {f : Nat → Bool} {i k n : Nat} (hn : ∀ u, n ≤ u → f u = false) (h1 : f k = true) (h2 : rn_B f (k + 1) = i + 1) (h3 : ∀ u, k < u → u < n → f u = true → rn_B f (u + 1) ≠ i + 1) : f (k + 1) = false := by
  cases hf : f (k + 1) with
  | false => rfl
  | true =>
    have hlt : k + 1 < n := by
      rcases Nat.lt_or_ge (k + 1) n with q | q
      · exact q
      · rw [hn _ q] at hf; exact absurd hf (by decide)
    have e : rn_B f (k + 1 + 1) = rn_B f (k + 1) := ct_f (rn_b_n (Or.inr h1))
    exact absurd (e.trans h2) (h3 (k + 1) (by omega) hlt hf)
def rn_C (f : Nat → Bool) (x1 : Int32) (w k : Nat) : Prop := f k = true ∧ nI (rn_B f (k + 1)) - 1 = x1 ∧ (if w = 0 then rn_b f k = true else f (k + 1) = false)
theorem px_prev {M : am_M} {a q : Nat} {f : Nat → Bool} (hk : ps_kq M a q) (h : ps_ks M q f) {k : Nat} (hlt : k < 4096) : fX3_has a (nI k - 1) M = some (if rn_p f k = true then 1 else 0, M) := by
  cases k with
  | zero => rw [ks_has_m (Or.inl (by decide))]; rfl
  | succ j => rw [nm_pr, ks_has hk h (by omega)]; rfl
theorem px_next {M : am_M} {a q : Nat} {f : Nat → Bool} (hk : ps_kq M a q) (h : ps_ks M q f) (hf : f 4096 = false) {k : Nat} (hlt : k < 4096) : fX3_has a (nI (k + 1)) M = some (if f (k + 1) = true then 1 else 0, M) := by
  by_cases c : k + 1 < 4096
  · exact ks_has hk h c
  · have e : k + 1 = 4096 := by omega
    rw [e, ks_has_m (Or.inr (by decide)), hf]; rfl
theorem px_run_step {M : am_M} {a q : Nat} {f : Nat → Bool} (hk : ps_kq M a q) (h : ps_ks M q f) (hf : f 4096 = false) (x1 : Int32) {w : Nat} (hw : w ≤ 1) {k : Nat} (hlt : k < 4096) (kk : (Nat × Int32 × Int32 × Int32 × Int32 × am_M) → Option (Int32 × am_M)) :
    (rn_C f x1 w k → fX3_runEnd_5 kk (a, x1, nI w, nI (rn_B f k), nI k, M) = some (nI k, M)) ∧ (¬ rn_C f x1 w k → fX3_runEnd_5 kk (a, x1, nI w, nI (rn_B f k), nI k, M) = kk (a, x1, nI w, nI (rn_B f (k + 1)), nI (k + 1), M)) := by
  have e0 : ((4096 : Int32) ≤ nI k) = False := by rw [nm_4096, nm_le (by decide) (by omega)]; exact eq_false (by omega)
  have e1 := ks_has hk h hlt
  have e2 := px_prev hk h hlt
  have e3 := px_next hk h hf hlt
  have e4 : (nI w = (0 : Int32)) = (w = 0) := nm_eq (by omega) (by decide)
  unfold fX3_runEnd_5 fX3_runEnd_41 fX3_runEnd_51 fX3_runEnd_84
  simp only [e0, if_false, e1, e2, am_bs, nm_if0, nI_1, e3, e4, nm_1f]
  unfold rn_C
  cases hfk : f k with
  | false =>
    have b : rn_B f (k + 1) = rn_B f k := ct_f (rn_b_n (Or.inl hfk))
    refine ⟨fun q => absurd q.1 (by decide), fun _ => ?_⟩
    rw [b]; rfl
  | true =>
    cases hp : rn_p f k with
    | true =>
      have b : rn_B f (k + 1) = rn_B f k := ct_f (rn_b_n (Or.inr hp))
      have b2 : rn_b f k = false := rn_b_n (Or.inr hp)
      rw [b, b2]
      by_cases c1 : nI (rn_B f k) - 1 = x1
      · by_cases c2 : w = 0
        · simp [c1, c2]
        · cases f (k + 1) <;> simp [c1, c2]
      · simp [c1]
    | false =>
      have b : rn_B f (k + 1) = rn_B f k + 1 := ct_t (rn_b_t hfk hp)
      have b2 : rn_b f k = true := rn_b_t hfk hp
      rw [b, b2]
      by_cases c1 : nI (rn_B f k + 1) - 1 = x1
      · by_cases c2 : w = 0
        · simp [c1, c2]
        · cases f (k + 1) <;> simp [c1, c2]
      · simp [c1]
theorem px_runK {M : am_M} {a q : Nat} {f : Nat → Bool} (hk : ps_kq M a q) (h : ps_ks M q f) (hf : f 4096 = false) (x1 : Int32) {w : Nat} (hw : w ≤ 1) {K : Nat} (hK : K < 4096) (hC : rn_C f x1 w K) (hn : ∀ k, k < K → ¬ rn_C f x1 w k) : fX3_runEnd a x1 (nI w) M = some (nI K, M) :=
  am_loop_inv (f := fX3_runEnd_5) (fun k st => st = (a, x1, nI w, nI (rn_B f k), nI k, M)) (fun r => r = some (nI K, M)) K
    (fun k st kk hlt e => by
      subst e
      exact Or.inl ⟨_, rfl, (px_run_step hk h hf x1 hw (by omega) kk).2 (hn k hlt)⟩)
    (fun st kk e => by
      subst e
      exact (px_run_step hk h hf x1 hw hK kk).1 hC)
    100000 0 (a, x1, nI w, nI 0, nI 0, M) (Nat.zero_le _) (by omega) rfl
theorem px_runN {M : am_M} {a q : Nat} {f : Nat → Bool} (hk : ps_kq M a q) (h : ps_ks M q f) (hf : f 4096 = false) (x1 : Int32) {w : Nat} (hw : w ≤ 1) (hn : ∀ k, k < 4096 → ¬ rn_C f x1 w k) : fX3_runEnd a x1 (nI w) M = some (if x1 = -1 then nI (rn_B f 4096) else -4, M) :=
  am_loop_inv (f := fX3_runEnd_5) (fun k st => st = (a, x1, nI w, nI (rn_B f k), nI k, M)) (fun r => r = some (if x1 = -1 then nI (rn_B f 4096) else -4, M)) 4096
    (fun k st kk hlt e => by
      subst e
      exact Or.inl ⟨_, rfl, (px_run_step hk h hf x1 hw (by omega) kk).2 (hn k hlt)⟩)
    (fun st kk e => by
      subst e
      unfold fX3_runEnd_5
      simp only [show ((4096 : Int32) ≤ nI 4096) = True from eq_true (by decide), if_true]
      by_cases c : x1 = -1
      · rw [if_pos c, if_pos c]
      · rw [if_neg c, if_neg c])
    100000 0 (a, x1, nI w, nI 0, nI 0, M) (Nat.zero_le _) (by omega) rfl
