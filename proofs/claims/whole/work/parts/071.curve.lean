/-! ===== the curves over naturals ===== -/
/-- a quarter's figure -/
def cv_f (c u v : Nat) : Nat := if c = 0 then u + 2 * v else if u = 0 then v else 3 - v
/-- the new x from x = a, y = b in the quarter f of side s -/
def cv_t (c f s a b : Nat) : Nat := if c = 0 then a else if f = 0 then b else if f = 3 then s - 1 - b else a
def cv_u (c f : Nat) : Nat := if c = 0 then f % 2 else f / 2
def cv_v (c f : Nat) : Nat := if c = 0 then f / 2 else if f = 1 ∨ f = 2 then 1 else 0
def cv_b (h x : Nat) : Nat := if x < h then 0 else 1
/-- key: l levels to go -/
def cv_k (c : Nat) : Nat → Nat → Nat → Nat → Nat
  | 0, _, _, k => k
  | l + 1, x, y, k => cv_k c l (cv_t c (cv_f c (cv_b (2 ^ l) x) (cv_b (2 ^ l) y)) (2 ^ l) (x - cv_b (2 ^ l) x * 2 ^ l) (y - cv_b (2 ^ l) y * 2 ^ l)) (cv_t c (cv_f c (cv_b (2 ^ l) x) (cv_b (2 ^ l) y)) (2 ^ l) (y - cv_b (2 ^ l) y * 2 ^ l) (x - cv_b (2 ^ l) x * 2 ^ l)) (4 * k + cv_f c (cv_b (2 ^ l) x) (cv_b (2 ^ l) y))
/-- place: n levels to go, the next of side 2^i -/
def cv_p (c : Nat) : Nat → Nat → Nat → Nat → Nat → Nat × Nat
  | 0, _, x, y, _ => (x, y)
  | n + 1, i, x, y, g => cv_p c n (i + 1) (cv_t c (g % 4) (2 ^ i) x y + cv_u c (g % 4) * 2 ^ i) (cv_t c (g % 4) (2 ^ i) y x + cv_v c (g % 4) * 2 ^ i) (g / 4)
theorem cv_b_le (h x : Nat) : cv_b h x ≤ 1 := by unfold cv_b; split <;> omega
theorem cv_b_sub {l x : Nat} (hx : x < 2 ^ (l + 1)) : x - cv_b (2 ^ l) x * 2 ^ l < 2 ^ l ∧ cv_b (2 ^ l) x * 2 ^ l ≤ x := by
  rw [Nat.pow_succ] at hx
  unfold cv_b
  split <;> omega
theorem cv_t_lt {c f s a b : Nat} (ha : a < s) (hb : b < s) : cv_t c f s a b < s := by
  unfold cv_t
  split
  · exact ha
  · split
    · exact hb
    · split <;> omega
theorem cv_f_lt {c u v : Nat} (hu : u ≤ 1) (hv : v ≤ 1) : cv_f c u v < 4 := by
  unfold cv_f
  split
  · omega
  · split <;> omega
theorem cv_uf {c u v : Nat} (hu : u ≤ 1) (hv : v ≤ 1) : cv_u c (cv_f c u v) = u ∧ cv_v c (cv_f c u v) = v := by
  rcases (show u = 0 ∨ u = 1 by omega) with rfl | rfl <;> rcases (show v = 0 ∨ v = 1 by omega) with rfl | rfl <;> by_cases hc : c = 0 <;> simp [cv_u, cv_v, cv_f, hc]
theorem cv_u_le {c f : Nat} (h : f < 4) : cv_u c f ≤ 1 ∧ cv_v c f ≤ 1 := by
  unfold cv_u cv_v
  by_cases hc : c = 0
  · simp only [hc, if_true]; omega
  · simp only [hc, if_false]
    split <;> omega
theorem cv_fu {c f : Nat} (h : f < 4) : cv_f c (cv_u c f) (cv_v c f) = f := by
  rcases (show f = 0 ∨ f = 1 ∨ f = 2 ∨ f = 3 by omega) with rfl | rfl | rfl | rfl <;> by_cases hc : c = 0 <;> simp [cv_u, cv_v, cv_f, hc]
/-- a turn undoes itself -/
theorem cv_tt {c f s a b : Nat} (ha : a < s) (hb : b < s) : cv_t c f s (cv_t c f s a b) (cv_t c f s b a) = a := by
  unfold cv_t
  by_cases hc : c = 0
  · simp [hc]
  · simp only [hc, if_false]
    by_cases h0 : f = 0
    · simp [h0]
    · simp only [h0, if_false]
      by_cases h3 : f = 3
      · simp only [h3, if_true]; omega
      · simp [h3]
theorem cv_p_lt (c : Nat) : ∀ (n i x y g : Nat), x < 2 ^ i → y < 2 ^ i → (cv_p c n i x y g).1 < 2 ^ (i + n) ∧ (cv_p c n i x y g).2 < 2 ^ (i + n)
  | 0, i, x, y, g, hx, hy => ⟨hx, hy⟩
  | n + 1, i, x, y, g, hx, hy => by
    have hf : g % 4 < 4 := Nat.mod_lt _ (by decide)
    have h1 := cv_t_lt (c := c) (f := g % 4) hx hy
    have h2 := cv_t_lt (c := c) (f := g % 4) hy hx
    have hu := cv_u_le (c := c) hf
    have e : i + 1 + n = i + (n + 1) := by omega
    have h := cv_p_lt c n (i + 1) (cv_t c (g % 4) (2 ^ i) x y + cv_u c (g % 4) * 2 ^ i) (cv_t c (g % 4) (2 ^ i) y x + cv_v c (g % 4) * 2 ^ i) (g / 4) (by
      rw [Nat.pow_succ]
      have : cv_u c (g % 4) * 2 ^ i ≤ 1 * 2 ^ i := Nat.mul_le_mul_right _ hu.1
      omega) (by
      rw [Nat.pow_succ]
      have : cv_v c (g % 4) * 2 ^ i ≤ 1 * 2 ^ i := Nat.mul_le_mul_right _ hu.2
      omega)
    rw [e] at h
    exact h
/-- the last figure of a place's walk is the topmost -/
theorem cv_p_top (c : Nat) : ∀ (n i x y g : Nat), cv_p c (n + 1) i x y g = (cv_t c (g / 4 ^ n % 4) (2 ^ (i + n)) (cv_p c n i x y g).1 (cv_p c n i x y g).2 + cv_u c (g / 4 ^ n % 4) * 2 ^ (i + n), cv_t c (g / 4 ^ n % 4) (2 ^ (i + n)) (cv_p c n i x y g).2 (cv_p c n i x y g).1 + cv_v c (g / 4 ^ n % 4) * 2 ^ (i + n))
  | 0, i, x, y, g => by simp [cv_p]
  | n + 1, i, x, y, g => by
    rw [cv_p, cv_p_top c n (i + 1)]
    have e : i + 1 + n = i + (n + 1) := by omega
    have e2 : g / 4 / 4 ^ n = g / 4 ^ (n + 1) := by rw [Nat.div_div_eq_div_mul, Nat.pow_succ, Nat.mul_comm]
    rw [e, e2]
    rfl
/-- a figure above all does not matter below -/
theorem cv_p_mod (c : Nat) : ∀ (n i x y g q : Nat), cv_p c n i x y (g + 4 ^ n * q) = cv_p c n i x y g
  | 0, i, x, y, g, q => rfl
  | n + 1, i, x, y, g, q => by
    have e1 : (g + 4 ^ (n + 1) * q) % 4 = g % 4 := by rw [Nat.pow_succ, Nat.mul_comm (4 ^ n) 4, Nat.mul_assoc]; omega
    have e2 : (g + 4 ^ (n + 1) * q) / 4 = g / 4 + 4 ^ n * q := by rw [Nat.pow_succ, Nat.mul_comm (4 ^ n) 4, Nat.mul_assoc]; omega
    rw [cv_p, cv_p, e1, e2, cv_p_mod c n]
theorem cv_k_add (c : Nat) : ∀ (l x y k : Nat), cv_k c l x y k = 4 ^ l * k + cv_k c l x y 0
  | 0, x, y, k => by simp [cv_k]
  | l + 1, x, y, k => by
    rw [cv_k, cv_k, cv_k_add c l _ _ (4 * k + _), cv_k_add c l _ _ (4 * 0 + _), Nat.pow_succ]
    rw [Nat.mul_add, Nat.mul_add, Nat.mul_assoc]
    omega
theorem cv_k_lt (c : Nat) : ∀ (l x y : Nat), cv_k c l x y 0 < 4 ^ l
  | 0, x, y => by simp [cv_k]
  | l + 1, x, y => by
    rw [cv_k, cv_k_add]
    have h1 := cv_k_lt c l (cv_t c (cv_f c (cv_b (2 ^ l) x) (cv_b (2 ^ l) y)) (2 ^ l) (x - cv_b (2 ^ l) x * 2 ^ l) (y - cv_b (2 ^ l) y * 2 ^ l)) (cv_t c (cv_f c (cv_b (2 ^ l) x) (cv_b (2 ^ l) y)) (2 ^ l) (y - cv_b (2 ^ l) y * 2 ^ l) (x - cv_b (2 ^ l) x * 2 ^ l))
    have h2 := cv_f_lt (c := c) (cv_b_le (2 ^ l) x) (cv_b_le (2 ^ l) y)
    have h3 : 4 ^ l * (4 * 0 + cv_f c (cv_b (2 ^ l) x) (cv_b (2 ^ l) y)) ≤ 4 ^ l * 3 := Nat.mul_le_mul_left _ (by omega)
    rw [Nat.pow_succ]
    omega
/-- from the key back to the cell -/
theorem cv_pk (c : Nat) : ∀ (l x y : Nat), x < 2 ^ l → y < 2 ^ l → cv_p c l 0 0 0 (cv_k c l x y 0) = (x, y)
  | 0, x, y, hx, hy => by
    have : x = 0 := by simpa using hx
    have : y = 0 := by simpa using hy
    subst_vars
    rfl
  | l + 1, x, y, hx, hy => by
    obtain ⟨a1, a2⟩ := cv_b_sub hx
    obtain ⟨b1, b2⟩ := cv_b_sub hy
    have hf := cv_f_lt (c := c) (cv_b_le (2 ^ l) x) (cv_b_le (2 ^ l) y)
    have t1 := cv_t_lt (c := c) (f := cv_f c (cv_b (2 ^ l) x) (cv_b (2 ^ l) y)) a1 b1
    have t2 := cv_t_lt (c := c) (f := cv_f c (cv_b (2 ^ l) x) (cv_b (2 ^ l) y)) b1 a1
    have ih := cv_pk c l _ _ t1 t2
    have hk := cv_k_lt c l (cv_t c (cv_f c (cv_b (2 ^ l) x) (cv_b (2 ^ l) y)) (2 ^ l) (x - cv_b (2 ^ l) x * 2 ^ l) (y - cv_b (2 ^ l) y * 2 ^ l)) (cv_t c (cv_f c (cv_b (2 ^ l) x) (cv_b (2 ^ l) y)) (2 ^ l) (y - cv_b (2 ^ l) y * 2 ^ l) (x - cv_b (2 ^ l) x * 2 ^ l))
    rw [cv_k, cv_k_add, cv_p_top]
    generalize hK : cv_k c l (cv_t c (cv_f c (cv_b (2 ^ l) x) (cv_b (2 ^ l) y)) (2 ^ l) (x - cv_b (2 ^ l) x * 2 ^ l) (y - cv_b (2 ^ l) y * 2 ^ l)) (cv_t c (cv_f c (cv_b (2 ^ l) x) (cv_b (2 ^ l) y)) (2 ^ l) (y - cv_b (2 ^ l) y * 2 ^ l) (x - cv_b (2 ^ l) x * 2 ^ l)) 0 = K at ih hk ⊢
    generalize hF : cv_f c (cv_b (2 ^ l) x) (cv_b (2 ^ l) y) = F at hf ih ⊢
    have e1 : (4 ^ l * (4 * 0 + F) + K) / 4 ^ l = F := by
      rw [Nat.mul_zero, Nat.zero_add, Nat.mul_add_div (Nat.pow_pos (by decide)), Nat.div_eq_of_lt hk, Nat.add_zero]
    have e2 : cv_p c l 0 0 0 (4 ^ l * (4 * 0 + F) + K) = cv_p c l 0 0 0 K := by
      rw [Nat.add_comm, cv_p_mod]
    have huf := cv_uf (c := c) (cv_b_le (2 ^ l) x) (cv_b_le (2 ^ l) y)
    rw [hF] at huf
    rw [e1, e2, ih, Nat.mod_eq_of_lt hf, huf.1, huf.2, Nat.zero_add]
    show (cv_t c F (2 ^ l) (cv_t c F (2 ^ l) _ _) (cv_t c F (2 ^ l) _ _) + _, _) = _
    rw [cv_tt a1 b1, cv_tt b1 a1]
    congr 1 <;> omega
/-- from the cell back to the key -/
theorem cv_kp (c : Nat) : ∀ (l g : Nat), g < 4 ^ l → cv_k c l (cv_p c l 0 0 0 g).1 (cv_p c l 0 0 0 g).2 0 = g
  | 0, g, hg => by
    have : g = 0 := by simpa using hg
    subst this
    rfl
  | l + 1, g, hg => by
    have hd : g / 4 ^ l < 4 := Nat.div_lt_of_lt_mul (by rw [Nat.pow_succ, Nat.mul_comm] at hg; rw [Nat.mul_comm]; omega)
    have hm : g % 4 ^ l < 4 ^ l := Nat.mod_lt _ (Nat.pow_pos (by decide))
    have hg2 : g = g % 4 ^ l + 4 ^ l * (g / 4 ^ l) := (Nat.mod_add_div g (4 ^ l)).symm
    have ih := cv_kp c l (g % 4 ^ l) hm
    have hp := cv_p_lt c l 0 0 0 (g % 4 ^ l) (by decide) (by decide)
    have e2 : cv_p c l 0 0 0 g = cv_p c l 0 0 0 (g % 4 ^ l) := by
      conv => lhs; rw [hg2, cv_p_mod]
    rw [cv_p_top, e2, Nat.mod_eq_of_lt hd]
    generalize hF : g / 4 ^ l = F at hd hg2 ⊢
    rw [Nat.zero_add] at hp ⊢
    generalize hX : (cv_p c l 0 0 0 (g % 4 ^ l)).1 = x at hp ih ⊢
    generalize hY : (cv_p c l 0 0 0 (g % 4 ^ l)).2 = y at hp ih ⊢
    have t1 := cv_t_lt (c := c) (f := F) hp.1 hp.2
    have t2 := cv_t_lt (c := c) (f := F) hp.2 hp.1
    have hu := cv_u_le (c := c) hd
    have b1 : ∀ (u t : Nat), u ≤ 1 → t < 2 ^ l → cv_b (2 ^ l) (t + u * 2 ^ l) = u ∧ t + u * 2 ^ l - u * 2 ^ l = t := by
      intro u t hu ht
      refine ⟨?_, by omega⟩
      unfold cv_b
      rcases (show u = 0 ∨ u = 1 by omega) with rfl | rfl
      · rw [if_pos (by omega)]
      · rw [if_neg (by omega)]
    obtain ⟨x1, x2⟩ := b1 _ _ hu.1 t1
    obtain ⟨y1, y2⟩ := b1 _ _ hu.2 t2
    show cv_k c (l + 1) (cv_t c F (2 ^ l) x y + cv_u c F * 2 ^ l) (cv_t c F (2 ^ l) y x + cv_v c F * 2 ^ l) 0 = g
    rw [cv_k, x1, y1, x2, y2, cv_fu hd, cv_tt hp.1 hp.2, cv_tt hp.2 hp.1, cv_k_add, ih, Nat.mul_zero, Nat.zero_add]
    omega
/-- a key's first figures: the key of the tile -/
theorem cv_k_pre (c j : Nat) : ∀ (l x y k : Nat), x < 2 ^ (l + j) → y < 2 ^ (l + j) → cv_k c (l + j) x y k / 4 ^ j = cv_k c l (x / 2 ^ j) (y / 2 ^ j) k
  | 0, x, y, k, _, _ => by
    rw [Nat.zero_add, cv_k_add, Nat.mul_add_div (Nat.pow_pos (by decide)), Nat.div_eq_of_lt (cv_k_lt c j x y), Nat.add_zero]
    rfl
  | l + 1, x, y, k, hx, hy => by
    have e : l + 1 + j = (l + j) + 1 := by omega
    rw [e] at hx hy ⊢
    have h2 : 0 < 2 ^ j := Nat.pow_pos (by decide)
    have hp : 2 ^ (l + j) = 2 ^ l * 2 ^ j := Nat.pow_add 2 l j
    have hb : ∀ z : Nat, cv_b (2 ^ (l + j)) z = cv_b (2 ^ l) (z / 2 ^ j) := by
      intro z
      unfold cv_b
      rw [hp]
      by_cases h : z < 2 ^ l * 2 ^ j
      · rw [if_pos h, if_pos ((Nat.div_lt_iff_lt_mul h2).mpr h)]
      · rw [if_neg h, if_neg (fun q => h ((Nat.div_lt_iff_lt_mul h2).mp q))]
    have hs : ∀ z : Nat, (z - cv_b (2 ^ (l + j)) z * 2 ^ (l + j)) / 2 ^ j = z / 2 ^ j - cv_b (2 ^ l) (z / 2 ^ j) * 2 ^ l := by
      intro z
      rw [hb, hp, ← Nat.mul_assoc, Nat.mul_comm _ (2 ^ j), Nat.sub_mul_div]
    obtain ⟨a1, a2⟩ := cv_b_sub hx
    obtain ⟨b1, b2⟩ := cv_b_sub hy
    have ht : ∀ (f a b : Nat), a < 2 ^ (l + j) → b < 2 ^ (l + j) → cv_t c f (2 ^ (l + j)) a b / 2 ^ j = cv_t c f (2 ^ l) (a / 2 ^ j) (b / 2 ^ j) := by
      intro f a b _ hb9
      unfold cv_t
      by_cases hc : c = 0
      · simp [hc]
      · simp only [hc, if_false]
        by_cases h0 : f = 0
        · simp [h0]
        · simp only [h0, if_false]
          by_cases h3 : f = 3
          · simp only [h3, if_true]
            rw [hp] at hb9 ⊢
            have q1 : b / 2 ^ j < 2 ^ l := (Nat.div_lt_iff_lt_mul h2).mpr hb9
            have q2 := Nat.div_add_mod b (2 ^ j)
            have q3 := Nat.mod_lt b h2
            have q4 : 2 ^ l * 2 ^ j - 1 - b = 2 ^ j * (2 ^ l - 1 - b / 2 ^ j) + (2 ^ j - 1 - b % 2 ^ j) := by
              have q5 : 2 ^ j * (2 ^ l - 1 - b / 2 ^ j) + 2 ^ j * (b / 2 ^ j) + 2 ^ j = 2 ^ l * 2 ^ j := by
                rw [← Nat.mul_add, ← Nat.mul_succ, Nat.mul_comm (2 ^ l)]
                congr 1
                omega
              omega
            have q6 : (2 ^ j - 1 - b % 2 ^ j) / 2 ^ j = 0 := Nat.div_eq_of_lt (by omega)
            rw [q4, Nat.mul_add_div h2, q6, Nat.add_zero]
          · simp [h3]
    rw [cv_k, cv_k]
    rw [cv_k_pre c j l _ _ _ (cv_t_lt a1 b1) (cv_t_lt b1 a1)]
    rw [ht _ _ _ a1 b1, ht _ _ _ b1 a1, hs, hs, hb, hb]
theorem cv_p_pre (c : Nat) {l j k : Nat} (hk : k < 4 ^ l) : (cv_p c (l + j) 0 0 0 (k * 4 ^ j)).1 / 2 ^ j = (cv_p c l 0 0 0 k).1 ∧ (cv_p c (l + j) 0 0 0 (k * 4 ^ j)).2 / 2 ^ j = (cv_p c l 0 0 0 k).2 := by
  have h2 : 0 < 2 ^ j := Nat.pow_pos (by decide)
  have h4 : 0 < 4 ^ j := Nat.pow_pos (by decide)
  have hg : k * 4 ^ j < 4 ^ (l + j) := by rw [Nat.pow_add]; exact Nat.mul_lt_mul_of_pos_right hk h4
  have hp := cv_p_lt c (l + j) 0 0 0 (k * 4 ^ j) (by decide) (by decide)
  rw [Nat.zero_add] at hp
  have e1 := cv_kp c (l + j) (k * 4 ^ j) hg
  have e2 := cv_k_pre c j l (cv_p c (l + j) 0 0 0 (k * 4 ^ j)).1 (cv_p c (l + j) 0 0 0 (k * 4 ^ j)).2 0 hp.1 hp.2
  rw [e1, Nat.mul_div_cancel _ h4] at e2
  have hx : (cv_p c (l + j) 0 0 0 (k * 4 ^ j)).1 / 2 ^ j < 2 ^ l := by rw [Nat.div_lt_iff_lt_mul h2, ← Nat.pow_add]; exact hp.1
  have hy : (cv_p c (l + j) 0 0 0 (k * 4 ^ j)).2 / 2 ^ j < 2 ^ l := by rw [Nat.div_lt_iff_lt_mul h2, ← Nat.pow_add]; exact hp.2
  have e3 := cv_pk c l _ _ hx hy
  rw [← e2] at e3
  rw [e3]
  exact ⟨rfl, rfl⟩
theorem cv_k_inj (c l : Nat) {x y v w : Nat} (hx : x < 2 ^ l) (hy : y < 2 ^ l) (hv : v < 2 ^ l) (hw : w < 2 ^ l) (h : cv_k c l x y 0 = cv_k c l v w 0) : x = v ∧ y = w := by
  have e1 := cv_pk c l x y hx hy
  have e2 := cv_pk c l v w hv hw
  rw [h, e2] at e1
  cases e1
  exact ⟨rfl, rfl⟩
