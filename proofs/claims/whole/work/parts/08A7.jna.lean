/-! ===== gaps: sums and counts ===== -/
def js (h : Nat → Nat) : Nat → Nat
  | 0 => 0
  | n + 1 => js h n + h n
theorem js_cg {h g : Nat → Nat} : ∀ {n : Nat}, (∀ u, u < n → h u = g u) → js h n = js g n
  | 0, _ => rfl
  | n + 1, e => by rw [js, js, js_cg (n := n) (fun u hu => e u (by omega)), e n (by omega)]
theorem js_add (h g : Nat → Nat) : ∀ n, js (fun u => h u + g u) n = js h n + js g n
  | 0 => rfl
  | n + 1 => by rw [js, js, js, js_add h g n]; omega
theorem js_0 {h : Nat → Nat} : ∀ {n : Nat}, (∀ u, u < n → h u = 0) → js h n = 0
  | 0, _ => rfl
  | n + 1, e => by rw [js, js_0 (n := n) (fun u hu => e u (by omega)), e n (by omega)]
theorem js_one (w : Nat → Nat) {m : Nat} : ∀ {n : Nat}, js (fun u => if u = m then w u else 0) n = if m < n then w m else 0
  | 0 => by rw [if_neg (Nat.not_lt_zero m)]; rfl
  | n + 1 => by
    rw [js, js_one w (n := n)]
    by_cases c : n = m
    · rw [if_pos c, if_neg (by omega), if_pos (by omega), c, Nat.zero_add]
    · rw [if_neg c]
      by_cases c2 : m < n
      · rw [if_pos c2, if_pos (by omega), Nat.add_zero]
      · rw [if_neg c2, if_neg (by omega)]
theorem js_up (h : Nat → Nat) {m n : Nat} (hm : m < n) : js (fun u => u * (h u + if u = m then 1 else 0)) n = js (fun u => u * h u) n + m := by
  have e : js (fun u => u * (h u + if u = m then 1 else 0)) n = js (fun u => u * h u + if u = m then u else 0) n := js_cg (fun u _ => by
    rw [Nat.mul_add]
    by_cases c : u = m
    · rw [if_pos c, if_pos c, Nat.mul_one]
    · rw [if_neg c, if_neg c, Nat.mul_zero])
  rw [e, js_add, js_one (fun u => u), if_pos hm]
theorem js_mono (h : Nat → Nat) {a b : Nat} (hab : a ≤ b) : js h a ≤ js h b := by
  obtain ⟨d, rfl⟩ : ∃ d, b = a + d := ⟨b - a, by omega⟩
  clear hab
  induction d with
  | zero => exact Nat.le_refl _
  | succ d ih =>
    show js h a ≤ js h (a + d) + h (a + d)
    omega
theorem js_pos {h : Nat → Nat} {v : Nat} : ∀ {n : Nat}, js h v < js h n → ∃ u, v ≤ u ∧ u < n ∧ 0 < h u
  | 0, q => by have : js h 0 = 0 := rfl; omega
  | n + 1, q => by
    rw [js] at q
    by_cases c : js h v < js h n
    · obtain ⟨u, h1, h2, h3⟩ := js_pos c
      exact ⟨u, h1, by omega, h3⟩
    · refine ⟨n, ?_, by omega, by omega⟩
      rcases Nat.lt_or_ge n v with z | z
      · have h2 := js_mono h (show n + 1 ≤ v by omega)
        rw [js] at h2
        omega
      · exact z
theorem js_ct {o : Nat → Nat} {n : Nat} : ∀ {c : Nat}, (∀ i, i < c → o i < n) → js (fun v => ps_ct (fun i => decide (o i = v)) 0 c) n = c
  | 0, _ => js_0 (fun u _ => rfl)
  | c + 1, h => by
    have e : js (fun v => ps_ct (fun i => decide (o i = v)) 0 (c + 1)) n = js (fun v => ps_ct (fun i => decide (o i = v)) 0 c + if v = o c then 1 else 0) n := js_cg (fun v _ => by
      rw [ct_s]
      congr 1
      by_cases q : o c = v
      · rw [if_pos (decide_eq_true q), if_pos q.symm]
      · rw [if_neg (by rw [decide_eq_true_iff]; exact q), if_neg (fun z => q z.symm)])
    rw [e, js_add, js_ct (c := c) (fun i hi => h i (by omega)), js_one (fun _ => 1), if_pos (h c (by omega))]
/-- one of o's values is another now -/
theorem ct_upd {o : Nat → Nat} {w x v : Nat} : ∀ {c : Nat}, w < c → ps_ct (fun i => decide ((if i = w then x else o i) = v)) 0 c + (if o w = v then 1 else 0) = ps_ct (fun i => decide (o i = v)) 0 c + if x = v then 1 else 0
  | 0, h => absurd h (Nat.not_lt_zero w)
  | c + 1, h => by
    rw [ct_s, ct_s]
    have dd : ∀ a : Nat, (if decide (a = v) = true then 1 else 0) = if a = v then 1 else 0 := fun a => by
      by_cases q : a = v
      · rw [if_pos (decide_eq_true q), if_pos q]
      · rw [if_neg (by rw [decide_eq_true_iff]; exact q), if_neg q]
    by_cases e : w = c
    · subst e
      have e2 : ps_ct (fun i => decide ((if i = w then x else o i) = v)) 0 w = ps_ct (fun i => decide (o i = v)) 0 w := ps_ct_cg (fun i hi => by
        rw [Nat.zero_add, if_neg (by omega)])
      rw [e2, if_pos rfl, dd, dd]
      omega
    · have ih := ct_upd (o := o) (w := w) (x := x) (v := v) (c := c) (by omega)
      rw [if_neg (show ¬ c = w from fun q => e q.symm), dd]
      omega
/-- a gap ends at q -/
def jn_g (f : Nat → Bool) (q : Nat) : Bool := rn_b f q && decide (0 < rn_B f q)
def jn_c (f : Nat → Bool) (k v : Nat) : Nat := ps_ct (fun q => jn_g f q && decide (rn_z f q = v)) 0 k
def jn_a (f : Nat → Bool) (i : Nat) : Nat → Nat
  | 0 => 0
  | k + 1 => if jn_g f k = true ∧ rn_B f k - 1 = i then rn_z f k else jn_a f i k
theorem jn_g_t {f : Nat → Bool} {q : Nat} : jn_g f q = true ↔ (rn_b f q = true ∧ 0 < rn_B f q) := by
  unfold jn_g
  rw [Bool.and_eq_true, decide_eq_true_iff]
theorem jn_B {f : Nat → Bool} (k : Nat) : rn_B f (k + 1) - 1 = rn_B f k - 1 + if jn_g f k = true then 1 else 0 := by
  by_cases h : jn_g f k = true
  · have h2 := jn_g_t.mp h
    have : rn_B f (k + 1) = rn_B f k + 1 := ct_t h2.1
    rw [if_pos h]; omega
  · rw [if_neg h]
    cases hb : rn_b f k with
    | false =>
      have : rn_B f (k + 1) = rn_B f k := ct_f hb
      omega
    | true =>
      have : rn_B f (k + 1) = rn_B f k + 1 := ct_t hb
      have : ¬ 0 < rn_B f k := fun q => h (jn_g_t.mpr ⟨hb, q⟩)
      omega
theorem jn_c_s (f : Nat → Bool) (k v : Nat) : jn_c f (k + 1) v = jn_c f k v + if jn_g f k = true ∧ rn_z f k = v then 1 else 0 := by
  unfold jn_c
  rw [ct_s]
  congr 1
  by_cases c : jn_g f k = true ∧ rn_z f k = v
  · rw [if_pos c, if_pos (by rw [Bool.and_eq_true, decide_eq_true_iff]; exact c)]
  · rw [if_neg c, if_neg (by rw [Bool.and_eq_true, decide_eq_true_iff]; exact c)]
/-- the gaps by their numbers -/
theorem jn_cnt (f : Nat → Bool) (v : Nat) : ∀ k, ps_ct (fun i => decide (jn_a f i k = v)) 0 (rn_B f k - 1) = jn_c f k v
  | 0 => rfl
  | k + 1 => by
    have ih := jn_cnt f v k
    rw [jn_B, jn_c_s]
    by_cases h : jn_g f k = true
    · rw [if_pos h, ct_s]
      have e : ps_ct (fun i => decide (jn_a f i (k + 1) = v)) 0 (rn_B f k - 1) = ps_ct (fun i => decide (jn_a f i k = v)) 0 (rn_B f k - 1) := ps_ct_cg (fun i hi => by
        rw [Nat.zero_add, jn_a, if_neg (fun q => by omega)])
      rw [e, ih]
      congr 1
      have ea : jn_a f (rn_B f k - 1) (k + 1) = rn_z f k := by
        show (if jn_g f k = true ∧ rn_B f k - 1 = rn_B f k - 1 then _ else _) = _
        exact if_pos ⟨h, rfl⟩
      rw [ea]
      by_cases c : rn_z f k = v
      · rw [if_pos (decide_eq_true c), if_pos ⟨h, c⟩]
      · rw [if_neg (by rw [decide_eq_true_iff]; exact c), if_neg (fun q => c q.2)]
    · rw [if_neg h, if_neg (fun q => h q.1), Nat.add_zero, Nat.add_zero, ← ih]
      exact ps_ct_cg (fun i _ => by rw [Nat.zero_add, jn_a, if_neg (fun q => h q.1)])
theorem jn_row {f : Nat → Bool} {R : Nat → Int32} : ∀ {k : Nat}, (∀ q, q < k → rn_b f q = true → 0 < rn_B f q → R (rn_B f q - 1) = nI (rn_z f q)) → ∀ i, i < rn_B f k - 1 → R i = nI (jn_a f i k)
  | 0, _, i, hi => absurd hi (Nat.not_lt_zero i)
  | k + 1, h, i, hi => by
    rw [jn_a]
    by_cases c : jn_g f k = true ∧ rn_B f k - 1 = i
    · rw [if_pos c, ← c.2]
      have := jn_g_t.mp c.1
      exact h k (by omega) this.1 this.2
    · rw [if_neg c]
      refine jn_row (k := k) (fun q hq => h q (by omega)) i ?_
      rw [jn_B] at hi
      by_cases c2 : jn_g f k = true
      · rw [if_pos c2] at hi
        have : ¬ rn_B f k - 1 = i := fun z => c ⟨c2, z⟩
        omega
      · rw [if_neg c2] at hi; omega
theorem rn_z_le (f : Nat → Bool) : ∀ k, rn_z f k ≤ k
  | 0 => Nat.le_refl 0
  | k + 1 => by
    have := rn_z_le f k
    rw [rn_z]
    split <;> omega
theorem jn_a_lt (f : Nat → Bool) (i : Nat) : ∀ k, jn_a f i k ≤ k
  | 0 => Nat.le_refl 0
  | k + 1 => by
    have h1 := jn_a_lt f i k
    have h2 := rn_z_le f k
    rw [jn_a]
    split <;> omega
theorem jn_z_pos {f : Nat → Bool} {q : Nat} (h : jn_g f q = true) : 0 < rn_z f q := by
  obtain ⟨h1, h2⟩ := jn_g_t.mp h
  cases q with
  | zero => exact absurd h2 (Nat.lt_irrefl 0)
  | succ j =>
    have hp : f j = false := (rn_b_f h1).2
    rw [rn_z, hp]
    exact Nat.succ_pos _
theorem jn_c0 (f : Nat → Bool) (k : Nat) : jn_c f k 0 = 0 := ps_ct_0 (fun i _ => by
  rw [Nat.zero_add]
  cases h : jn_g f i with
  | false => rfl
  | true =>
    have := jn_z_pos h
    rw [decide_eq_false (by omega)]; rfl)
theorem jn_cbig (f : Nat → Bool) {k v : Nat} (h : k ≤ v) : jn_c f k v = 0 := ps_ct_0 (fun i hi => by
  rw [Nat.zero_add, decide_eq_false (by have := rn_z_le f i; omega), Bool.and_false])
/-- what is filled and what is open -/
def jn_Q (f : Nat → Bool) (g k : Nat) (o cF : Nat → Nat) (c : Nat) : Prop := c < g ∧ (∀ i, i < c → o i < 4096) ∧ (∀ v, cF v + ps_ct (fun i => decide (o i = v)) 0 c = jn_c f k v) ∧ (∀ u, 0 < cF u → c + 1 = g) ∧ ∀ u i, 0 < cF u → i < c → u ≤ o i
/-- how many are filled -/
theorem jn_many {f : Nat → Bool} {g k : Nat} {o cF : Nat → Nat} {c : Nat} (h : jn_Q f g k o cF c) (hk : k < 4097) : js cF 4096 = rn_B f k - g := by
  obtain ⟨h1, h2, h3, h4, h5⟩ := h
  have e1 : js (fun v => cF v + ps_ct (fun i => decide (o i = v)) 0 c) 4096 = js (fun v => ps_ct (fun i => decide (jn_a f i k = v)) 0 (rn_B f k - 1)) 4096 := js_cg (fun v _ => by rw [jn_cnt]; exact h3 v)
  have hlt : ∀ i, i < rn_B f k - 1 → jn_a f i k < 4096 := fun i hi => by
    have := jn_a_lt f i k
    have := rn_le f k
    rcases Nat.lt_or_ge (jn_a f i k) 4096 with q | q
    · exact q
    · have e : k = 4096 ∧ jn_a f i k = 4096 := by omega
      have cc := jn_cnt f 4096 k
      rw [jn_cbig f (by omega)] at cc
      have p := ps_ct_pos (f := fun i => decide (jn_a f i k = 4096)) (a := 0) (n := rn_B f k - 1) (i := i) hi (by rw [Nat.zero_add]; exact decide_eq_true e.2)
      omega
  rw [js_add, js_ct h2, js_ct hlt] at e1
  by_cases c0 : 0 < js cF 4096
  · obtain ⟨u, -, -, hu⟩ := js_pos (h := cF) (v := 0) (n := 4096) c0
    have := h4 u hu
    omega
  · omega
/-- the least gaps are taken first -/
theorem jn_take {f : Nat → Bool} {g k : Nat} {o cF : Nat → Nat} {c : Nat} (h : jn_Q f g k o cF c) (hk : k < 4097) {v : Nat} (hv : v < 4096) : min (js cF 4096 - js cF v) (jn_c f k v) = cF v := by
  obtain ⟨h1, h2, h3, h4, h5⟩ := h
  have e := h3 v
  have m := js_mono cF (show v + 1 ≤ 4096 by omega)
  rw [js] at m
  by_cases q : js cF (v + 1) < js cF 4096
  · obtain ⟨u, u1, u2, u3⟩ := js_pos q
    have z : ps_ct (fun i => decide (o i = v)) 0 c = 0 := ps_ct_0 (fun i hi => by
      rw [Nat.zero_add]
      apply decide_eq_false
      have := h5 u i u3 hi
      omega)
    omega
  · rw [js] at q
    omega
/-- one gap more -/
theorem jn_step {f : Nat → Bool} {g k : Nat} {o cF : Nat → Nat} {c : Nat} (h : jn_Q f g k o cF c) (hk : k < 4096) (hg : jn_g f k = true) :
    (c + 1 < g → jn_Q f g (k + 1) (fun i => if i = c then rn_z f k else o i) cF (c + 1)) ∧
    (c + 1 = g → (∀ i, i < c → rn_z f k ≤ o i) → jn_Q f g (k + 1) o (fun u => cF u + if u = rn_z f k then 1 else 0) c) ∧
    (∀ w, c + 1 = g → w < c → o w < rn_z f k → (∀ i, i < c → o w ≤ o i) → jn_Q f g (k + 1) (fun i => if i = w then rn_z f k else o i) (fun u => cF u + if u = o w then 1 else 0) c) := by
  obtain ⟨h1, h2, h3, h4, h5⟩ := h
  have hz := rn_z_le f k
  have eS : ∀ v, jn_c f (k + 1) v = jn_c f k v + if rn_z f k = v then 1 else 0 := fun v => by
    rw [jn_c_s]
    congr 1
    by_cases q : rn_z f k = v
    · rw [if_pos q, if_pos ⟨hg, q⟩]
    · rw [if_neg q, if_neg (fun z => q z.2)]
  refine ⟨fun hc => ⟨hc, fun i hi => ?_, fun v => ?_, fun u hu => ?_, fun u i hu => ?_⟩, fun hc hall => ⟨h1, h2, fun v => ?_, fun u _ => hc, fun u i hu hi => ?_⟩, fun w hc hw hlt hall => ⟨h1, fun i hi => ?_, fun v => ?_, fun u _ => hc, fun u i hu hi => ?_⟩⟩
  · show (if i = c then rn_z f k else o i) < 4096
    by_cases e : i = c
    · rw [if_pos e]; omega
    · rw [if_neg e]; exact h2 i (by omega)
  · show cF v + ps_ct (fun i => decide ((if i = c then rn_z f k else o i) = v)) 0 (c + 1) = jn_c f (k + 1) v
    rw [ct_s, eS, ← h3 v]
    have e2 : ps_ct (fun i => decide ((if i = c then rn_z f k else o i) = v)) 0 c = ps_ct (fun i => decide (o i = v)) 0 c := ps_ct_cg (fun i hi => by rw [Nat.zero_add, if_neg (by omega)])
    rw [e2, if_pos (rfl : c = c)]
    by_cases q : rn_z f k = v
    · rw [if_pos (decide_eq_true q), if_pos q]; omega
    · rw [if_neg (by rw [decide_eq_true_iff]; exact q), if_neg q]; omega
  · have := h4 u hu; omega
  · have := h4 u hu; omega
  · show cF v + (if v = rn_z f k then 1 else 0) + ps_ct (fun i => decide (o i = v)) 0 c = jn_c f (k + 1) v
    rw [eS, ← h3 v]
    by_cases q : rn_z f k = v
    · rw [if_pos q, if_pos q.symm]; omega
    · rw [if_neg q, if_neg (fun z => q z.symm)]; omega
  · have hu : 0 < cF u + if u = rn_z f k then 1 else 0 := hu
    by_cases q : u = rn_z f k
    · rw [q]; exact hall i hi
    · rw [if_neg q] at hu; exact h5 u i (by omega) hi
  · show (if i = w then rn_z f k else o i) < 4096
    by_cases e : i = w
    · rw [if_pos e]; omega
    · rw [if_neg e]; exact h2 i hi
  · show cF v + (if v = o w then 1 else 0) + ps_ct (fun i => decide ((if i = w then rn_z f k else o i) = v)) 0 c = jn_c f (k + 1) v
    have e := ct_upd (o := o) (w := w) (x := rn_z f k) (v := v) hw
    rw [eS, ← h3 v]
    by_cases q : v = o w
    · rw [if_pos q]
      rw [if_pos q.symm] at e
      omega
    · rw [if_neg q]
      rw [if_neg (fun z => q z.symm)] at e
      omega
  · have hu : 0 < cF u + if u = o w then 1 else 0 := hu
    show u ≤ if i = w then rn_z f k else o i
    have hle : u ≤ o i := by
      by_cases q : u = o w
      · rw [q]; exact hall i hi
      · rw [if_neg q] at hu; exact h5 u i (by omega) hi
    by_cases e : i = w
    · rw [if_pos e]; rw [e] at hle; omega
    · rw [if_neg e]; exact hle
