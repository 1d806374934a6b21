/-! ===== the best sets: rows ===== -/
theorem bs_min_iff {f : Nat → Nat} {x : Nat} : ∀ {t : Nat}, x ≤ bs_min f t ↔ (x ≤ 1000000 ∧ ∀ j, j ≤ t → x ≤ f j)
  | 0 => by
    show x ≤ min 1000000 (f 0) ↔ _
    constructor
    · intro h
      refine ⟨by omega, fun j hj => ?_⟩
      have : j = 0 := by omega
      subst this; omega
    · intro h
      have := h.2 0 (Nat.le_refl 0)
      omega
  | t + 1 => by
    show x ≤ min (bs_min f t) (f (t + 1)) ↔ _
    rw [Nat.le_min, bs_min_iff (t := t)]
    constructor
    · rintro ⟨⟨h1, h2⟩, h3⟩
      refine ⟨h1, fun j hj => ?_⟩
      by_cases e : j = t + 1
      · subst e; exact h3
      · exact h2 j (by omega)
    · rintro ⟨h1, h2⟩
      exact ⟨⟨h1, fun j hj => h2 j (by omega)⟩, h2 (t + 1) (Nat.le_refl _)⟩
theorem bs_min_cap (f : Nat → Nat) (t : Nat) : bs_min f t ≤ 1000000 := (bs_min_iff.mp (Nat.le_refl _)).1
theorem bs_min_le (f : Nat → Nat) {t j : Nat} (h : j ≤ t) : bs_min f t ≤ f j := (bs_min_iff.mp (Nat.le_refl _)).2 j h
theorem bs_min_cg {f g : Nat → Nat} : ∀ {t : Nat}, (∀ j, j ≤ t → f j = g j) → bs_min f t = bs_min g t
  | 0, h => by
    show min _ _ = min _ _
    rw [h 0 (Nat.le_refl 0)]
  | t + 1, h => by
    show min (bs_min f t) (f (t + 1)) = min (bs_min g t) (g (t + 1))
    rw [bs_min_cg (t := t) (fun j hj => h j (by omega)), h (t + 1) (Nat.le_refl _)]
theorem bs_comm (a b : Nat → Nat) (t : Nat) : bs_add a b t = bs_add b a t := by
  apply Nat.le_antisymm
  · refine bs_min_iff.mpr ⟨bs_min_cap _ _, fun j hj => ?_⟩
    have := bs_min_le (fun j => a (t - j) + b j) (t := t) (j := t - j) (by omega)
    have e : t - (t - j) = j := by omega
    have h2 : bs_add a b t ≤ a (t - (t - j)) + b (t - j) := this
    rw [e] at h2
    show bs_add a b t ≤ b (t - j) + a j
    omega
  · refine bs_min_iff.mpr ⟨bs_min_cap _ _, fun j hj => ?_⟩
    have := bs_min_le (fun j => b (t - j) + a j) (t := t) (j := t - j) (by omega)
    have e : t - (t - j) = j := by omega
    have h2 : bs_add b a t ≤ b (t - (t - j)) + a (t - j) := this
    rw [e] at h2
    show bs_add b a t ≤ a (t - j) + b j
    omega
def bs_G (r : Nat → Nat) : Prop := (∀ t, r t ≤ 1000000) ∧ ∀ t, r (t + 1) ≤ r t
theorem bs_G.mono {r : Nat → Nat} (h : bs_G r) {a b : Nat} (hab : a ≤ b) : r b ≤ r a := by
  obtain ⟨d, rfl⟩ : ∃ d, b = a + d := ⟨b - a, by omega⟩
  clear hab
  induction d with
  | zero => exact Nat.le_refl _
  | succ d ih => exact Nat.le_trans (h.2 (a + d)) ih
theorem bs_add_G {a : Nat → Nat} (b : Nat → Nat) (h : bs_G a) : bs_G (bs_add a b) := by
  refine ⟨fun t => bs_min_cap _ _, fun t => bs_min_iff.mpr ⟨bs_min_cap _ _, fun j hj => ?_⟩⟩
  have h1 : bs_add a b (t + 1) ≤ a (t + 1 - j) + b j := bs_min_le (fun j => a (t + 1 - j) + b j) (t := t + 1) (j := j) (by omega)
  have h2 := h.mono (show t - j ≤ t + 1 - j by omega)
  show bs_add a b (t + 1) ≤ a (t - j) + b j
  omega
theorem bs_add_0 {b : Nat → Nat} (h : bs_G b) (t : Nat) : bs_add (fun _ => 0) b t = b t := by
  apply Nat.le_antisymm
  · have : bs_add (fun _ => 0) b t ≤ 0 + b t := bs_min_le (fun j => 0 + b j) (t := t) (j := t) (Nat.le_refl t)
    omega
  · refine bs_min_iff.mpr ⟨h.1 t, fun j hj => ?_⟩
    have := h.mono hj
    show b t ≤ 0 + b j
    omega
theorem bs_add_ge {a b : Nat → Nat} {x y : Nat} (ha : ∀ t, x ≤ a t) (hb : ∀ t, y ≤ b t) (h : x + y ≤ 1000000) (t : Nat) : x + y ≤ bs_add a b t := bs_min_iff.mpr ⟨h, fun j _ => Nat.add_le_add (ha _) (hb _)⟩
theorem bs_add_far {a b : Nat → Nat} {t : Nat} (h : ∀ j, j ≤ t → 1000000 ≤ a j) : bs_add a b t = 1000000 := by
  apply Nat.le_antisymm (bs_min_cap _ _)
  refine bs_min_iff.mpr ⟨Nat.le_refl _, fun j hj => ?_⟩
  have := h (t - j) (by omega)
  show 1000000 ≤ a (t - j) + b j
  omega
/-- q quarters of a tile -/
def bs_acc (s : ps_S) (n l k : Nat) : Nat → Nat → Nat
  | 0 => fun _ => 0
  | q + 1 => bs_add (bs_acc s n l k q) (bs_row s n (l + 1) (4 * k + q))
theorem ps_sz_s {s : ps_S} {l : Nat} (h : l < s.1 0) : ps_sz s l = 4 * ps_sz s (l + 1) := by
  unfold ps_sz
  rw [show s.1 0 - l = s.1 0 - (l + 1) + 1 by omega, Nat.pow_succ, Nat.mul_comm]
theorem ps_sz_le {s : ps_S} (ho : ps_ok s) (l : Nat) : ps_sz s l ≤ 4096 ∧ 0 < ps_sz s l := by
  have := nz_p4 (show s.1 0 - l ≤ 6 by have := ho.2.1; omega)
  exact ⟨this.2, this.1⟩
theorem bs_G_0 : bs_G (fun _ => 0) := ⟨fun _ => Nat.zero_le _, fun _ => Nat.le_refl _⟩
theorem bs_acc_G (s : ps_S) (n l k : Nat) : ∀ q, bs_G (bs_acc s n l k q)
  | 0 => bs_G_0
  | q + 1 => bs_add_G _ (bs_acc_G s n l k q)
theorem bs_row_G {s : ps_S} (ho : ps_ok s) : ∀ (n l k : Nat), bs_G (bs_row s n l k)
  | 0, l, k => by
    have hz := ps_sz_le ho l
    refine ⟨fun t => ?_, fun t => ?_⟩
    · rw [bs_row]
      split
      · exact Nat.zero_le _
      · split <;> omega
    · rw [bs_row, bs_row]
      split
      · exact Nat.zero_le _
      · rw [if_neg (by omega)]
        split <;> omega
  | n + 1, l, k => by
    have g := bs_add_G (bs_row s n (l + 1) (4 * k + 3)) (bs_add_G (bs_row s n (l + 1) (4 * k + 2)) (bs_add_G (bs_row s n (l + 1) (4 * k + 1)) (bs_row_G ho n (l + 1) (4 * k))))
    refine ⟨fun t => ?_, fun t => ?_⟩
    · have := g.1 t
      rw [bs_row]
      split <;> omega
    · have h1 := g.2 t
      rw [bs_row, bs_row]
      by_cases c : s.1 2 ≤ l
      · rw [if_pos ⟨c, by omega⟩]
        split <;> omega
      · rw [if_neg (fun q => c q.1), if_neg (fun q => c q.1)]
        exact h1
theorem bs_row_s {s : ps_S} (ho : ps_ok s) (n l k t : Nat) : bs_row s (n + 1) l k t = if s.1 2 ≤ l ∧ 1 ≤ t then min (bs_acc s n l k 4 t) (ps_sz s l) else bs_acc s n l k 4 t := by
  have e : bs_acc s n l k 4 = bs_add (bs_add (bs_add (bs_row s n (l + 1) (4 * k)) (bs_row s n (l + 1) (4 * k + 1))) (bs_row s n (l + 1) (4 * k + 2))) (bs_row s n (l + 1) (4 * k + 3)) := by
    have e1 : bs_add (fun _ => 0) (bs_row s n (l + 1) (4 * k)) = bs_row s n (l + 1) (4 * k) := funext (bs_add_0 (bs_row_G ho n (l + 1) (4 * k)))
    show bs_add (bs_add (bs_add (bs_add (fun _ => 0) (bs_row s n (l + 1) (4 * k))) _) _) _ = _
    rw [e1]
  rw [bs_row, e]
/-- the shape's cells in a tile and in its quarters -/
theorem bs_q4 {s : ps_S} {l : Nat} (f : Nat → Bool) (h : l < s.1 0) (k : Nat) : ps_ct f (k * ps_sz s l) (ps_sz s l) = ps_ct f ((4 * k) * ps_sz s (l + 1)) (ps_sz s (l + 1)) + ps_ct f ((4 * k + 1) * ps_sz s (l + 1)) (ps_sz s (l + 1)) + ps_ct f ((4 * k + 2) * ps_sz s (l + 1)) (ps_sz s (l + 1)) + ps_ct f ((4 * k + 3) * ps_sz s (l + 1)) (ps_sz s (l + 1)) := by
  rw [ps_sz_s h]
  generalize ps_sz s (l + 1) = z
  have e0 : k * (4 * z) = (4 * k) * z := by rw [Nat.mul_comm 4 k, Nat.mul_assoc]
  have e1 : (4 * k + 1) * z = (4 * k) * z + z := by rw [Nat.add_mul]; omega
  have e2 : (4 * k + 2) * z = (4 * k) * z + (z + z) := by rw [Nat.add_mul]; omega
  have e3 : (4 * k + 3) * z = (4 * k) * z + (z + z + z) := by rw [Nat.add_mul]; omega
  rw [e0, e1, e2, e3, show 4 * z = z + z + z + z by omega, ps_ct_add, ps_ct_add, ps_ct_add]
theorem bs_row_ge {s : ps_S} (ho : ps_ok s) : ∀ (n l k t : Nat), l + n ≤ s.1 0 → ps_ct (ps_sk s) (k * ps_sz s l) (ps_sz s l) ≤ bs_row s n l k t
  | 0, l, k, t, _ => by
    have hz := ps_sz_le ho l
    have b := ps_ct_le (ps_sk s) (k * ps_sz s l) (ps_sz s l)
    rw [bs_row]
    split
    · omega
    · split <;> omega
  | n + 1, l, k, t, h => by
    have hz := ps_sz_le ho l
    have b := ps_ct_le (ps_sk s) (k * ps_sz s l) (ps_sz s l)
    have e := bs_q4 (s := s) (l := l) (ps_sk s) (by omega) k
    have g := bs_add_ge (bs_add_ge (bs_add_ge (fun t => bs_row_ge ho n (l + 1) (4 * k) t (by omega)) (fun t => bs_row_ge ho n (l + 1) (4 * k + 1) t (by omega)) (by omega)) (fun t => bs_row_ge ho n (l + 1) (4 * k + 2) t (by omega)) (by omega)) (fun t => bs_row_ge ho n (l + 1) (4 * k + 3) t (by omega)) (by omega) t
    rw [bs_row]
    split <;> omega
theorem bs_add_z {a b : Nat → Nat} (ha : ∀ t, a t = 0) (hb : ∀ t, b t = 0) (t : Nat) : bs_add a b t = 0 := by
  have : bs_add a b t ≤ a (t - 0) + b 0 := bs_min_le (fun j => a (t - j) + b j) (Nat.zero_le t)
  rw [ha, hb] at this
  omega
theorem bs_row_z {s : ps_S} : ∀ (n l k t : Nat), l + n ≤ s.1 0 → ps_ct (ps_sk s) (k * ps_sz s l) (ps_sz s l) = 0 → bs_row s n l k t = 0
  | 0, l, k, t, _, h => by rw [bs_row, if_pos h]
  | n + 1, l, k, t, hl, h => by
    have e := bs_q4 (s := s) (l := l) (ps_sk s) (by omega) k
    have g := bs_add_z (bs_add_z (bs_add_z (fun t => bs_row_z (s := s) n (l + 1) (4 * k) t (by omega) (by omega)) (fun t => bs_row_z (s := s) n (l + 1) (4 * k + 1) t (by omega) (by omega))) (fun t => bs_row_z (s := s) n (l + 1) (4 * k + 2) t (by omega) (by omega))) (fun t => bs_row_z (s := s) n (l + 1) (4 * k + 3) t (by omega) (by omega)) t
    rw [bs_row, g]
    split <;> omega
theorem bs_add_f0 {a b : Nat → Nat} (h : 1000000 ≤ a 0 ∨ 1000000 ≤ b 0) : 1000000 ≤ bs_add a b 0 := bs_min_iff.mpr ⟨Nat.le_refl _, fun j hj => by
  have : j = 0 := by omega
  subst this
  show 1000000 ≤ a 0 + b 0
  omega⟩
theorem bs_row_f {s : ps_S} : ∀ (n l k : Nat), l + n ≤ s.1 0 → 0 < ps_ct (ps_sk s) (k * ps_sz s l) (ps_sz s l) → 1000000 ≤ bs_row s n l k 0
  | 0, l, k, _, h => by rw [bs_row, if_neg (by omega), if_pos rfl]; exact Nat.le_refl _
  | n + 1, l, k, hl, h => by
    have e := bs_q4 (s := s) (l := l) (ps_sk s) (by omega) k
    rw [bs_row, if_neg (by omega)]
    by_cases c0 : 0 < ps_ct (ps_sk s) ((4 * k) * ps_sz s (l + 1)) (ps_sz s (l + 1))
    · exact bs_add_f0 (Or.inl (bs_add_f0 (Or.inl (bs_add_f0 (Or.inl (bs_row_f n (l + 1) _ (by omega) c0))))))
    · by_cases c1 : 0 < ps_ct (ps_sk s) ((4 * k + 1) * ps_sz s (l + 1)) (ps_sz s (l + 1))
      · exact bs_add_f0 (Or.inl (bs_add_f0 (Or.inl (bs_add_f0 (Or.inr (bs_row_f n (l + 1) _ (by omega) c1))))))
      · by_cases c2 : 0 < ps_ct (ps_sk s) ((4 * k + 2) * ps_sz s (l + 1)) (ps_sz s (l + 1))
        · exact bs_add_f0 (Or.inl (bs_add_f0 (Or.inr (bs_row_f n (l + 1) _ (by omega) c2))))
        · exact bs_add_f0 (Or.inr (bs_row_f n (l + 1) _ (by omega) (by omega)))
/-- a tile that is in the shape as a whole -/
theorem bs_row_w {s : ps_S} (ho : ps_ok s) {n l k t : Nat} (hl : l + n ≤ s.1 0) (hlo : s.1 2 ≤ l) (h : ps_ct (ps_sk s) (k * ps_sz s l) (ps_sz s l) = ps_sz s l) : bs_row s n l k t = if 1 ≤ t then ps_sz s l else 1000000 := by
  have hz := ps_sz_le ho l
  by_cases c : 1 ≤ t
  · rw [if_pos c]
    have g := bs_row_ge ho n l k t hl
    cases n with
    | zero => rw [bs_row, if_neg (by omega), if_neg (by omega)]
    | succ n =>
      rw [bs_row, if_pos ⟨hlo, c⟩] at g ⊢
      omega
  · rw [if_neg c]
    have : t = 0 := by omega
    subst this
    have g := bs_row_f n l k hl (by omega)
    have g2 := (bs_row_G ho n l k).1 0
    omega
/-- nothing changes what is too far -/
theorem bs_acc_far {s : ps_S} {n l k q : Nat} (h : 1000000 ≤ bs_acc s n l k q 12) : ∀ d t, t ≤ 12 → bs_acc s n l k (q + d) t = 1000000
  | 0, t, ht => by
    have g := bs_acc_G s n l k q
    have := g.mono ht
    have := g.1 t
    show bs_acc s n l k q t = 1000000
    omega
  | d + 1, t, ht => by
    show bs_add (bs_acc s n l k (q + d)) _ t = 1000000
    exact bs_add_far (fun j hj => by rw [bs_acc_far h d j (by omega)]; exact Nat.le_refl _)
