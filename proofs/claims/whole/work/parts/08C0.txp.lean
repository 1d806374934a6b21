/-! ===== the text: what it tells, over naturals ===== -/
/-- the letter at p, 0 behind the end -/
def tx_h (s : ps_S) (p : Nat) : Nat := if p < s.1 6 then s.2 8 p else 0
theorem tx_h_le {s : ps_S} (ho : ps_ok s) (p : Nat) : tx_h s p ≤ 126 := by
  unfold tx_h
  by_cases c : p < s.1 6
  · rw [if_pos c]; exact (ho.2.2.2.2.2.2.2.2.2.2.2.1 p c).2
  · rw [if_neg c]; omega
abbrev nb_d (h : Nat → Nat) (p : Nat) : Prop := 48 ≤ h p ∧ h p ≤ 57
/-- how many figures, four at most -/
def nb_c (h : Nat → Nat) (p : Nat) : Nat := if ¬ nb_d h p then 0 else if ¬ nb_d h (p + 1) then 1 else if ¬ nb_d h (p + 2) then 2 else if ¬ nb_d h (p + 3) then 3 else 4
def nb_w (h : Nat → Nat) (p : Nat) : Nat → Nat
  | 0 => 0
  | j + 1 => 10 * nb_w h p j + (h (p + j) - 48)
theorem nb_w_le {h : Nat → Nat} (hh : ∀ p, h p ≤ 126) (p : Nat) {j : Nat} (hj : j ≤ 4) : nb_w h p j ≤ 86658 := by
  have h1 := hh (p + 0)
  have h2 := hh (p + 1)
  have h3 := hh (p + 2)
  have h4 := hh (p + 3)
  rcases (show j = 0 ∨ j = 1 ∨ j = 2 ∨ j = 3 ∨ j = 4 by omega) with rfl | rfl | rfl | rfl | rfl
  · show 0 ≤ 86658; omega
  · show 10 * 0 + (h (p + 0) - 48) ≤ 86658; omega
  · show 10 * (10 * 0 + (h (p + 0) - 48)) + (h (p + 1) - 48) ≤ 86658; omega
  · show 10 * (10 * (10 * 0 + (h (p + 0) - 48)) + (h (p + 1) - 48)) + (h (p + 2) - 48) ≤ 86658; omega
  · show 10 * (10 * (10 * (10 * 0 + (h (p + 0) - 48)) + (h (p + 1) - 48)) + (h (p + 2) - 48)) + (h (p + 3) - 48) ≤ 86658; omega
theorem nb_c_eq {h : Nat → Nat} {p j : Nat} (hj : j ≤ 4) (h1 : ∀ i, i < j → nb_d h (p + i)) (h2 : j < 4 → ¬ nb_d h (p + j)) : nb_c h p = j := by
  unfold nb_c
  rcases (show j = 0 ∨ j = 1 ∨ j = 2 ∨ j = 3 ∨ j = 4 by omega) with rfl | rfl | rfl | rfl | rfl
  · rw [if_pos (show ¬ nb_d h p from h2 (by decide))]
  · rw [if_neg (not_not_intro (show nb_d h p from h1 0 (by decide))), if_pos (h2 (by decide))]
  · rw [if_neg (not_not_intro (show nb_d h p from h1 0 (by decide))), if_neg (not_not_intro (h1 1 (by decide))), if_pos (h2 (by decide))]
  · rw [if_neg (not_not_intro (show nb_d h p from h1 0 (by decide))), if_neg (not_not_intro (h1 1 (by decide))), if_neg (not_not_intro (h1 2 (by decide))), if_pos (h2 (by decide))]
  · rw [if_neg (not_not_intro (show nb_d h p from h1 0 (by decide))), if_neg (not_not_intro (h1 1 (by decide))), if_neg (not_not_intro (h1 2 (by decide))), if_neg (not_not_intro (h1 3 (by decide)))]
theorem nb_c_le (h : Nat → Nat) (p : Nat) : nb_c h p ≤ 4 := by
  unfold nb_c
  repeat' split
  all_goals omega
/-- what is wrong with a number that e must end -/
def nb_r (h : Nat → Nat) (p e : Nat) : Nat := if nb_c h p = 0 ∨ nb_c h p = 4 then 2 else if ¬ h (p + nb_c h p) = e then 3 else 0
def tx_tb (kd sd i x : Nat) (v : Nat → Nat) : Bool := if kd = 119 then (if i = 0 then decide (1 ≤ x ∧ x ≤ 6) else decide (x ≤ 1)) else if kd = 100 ∧ i = 2 then decide (x ≤ 63) else decide (x < sd ∧ (i < 2 ∨ v (i - 2) ≤ x))
def tx_u (v : Nat → Nat) (i x : Nat) : Nat → Nat := fun j => if j = i then x else v j
/-- the numbers of an item: what is wrong (0: nothing), the place behind, the numbers -/
def it_n (h : Nat → Nat) (kd sd mn : Nat) : Nat → Nat → Nat → (Nat → Nat) → Nat × Nat × (Nat → Nat)
  | 0, _, p, v => (0, p, v)
  | f + 1, i, p, v => if nb_r h p (if i + 1 < mn then 44 else 59) = 0 then (if tx_tb kd sd i (nb_w h p (nb_c h p)) v = true then it_n h kd sd mn f (i + 1) (p + nb_c h p + 1) (tx_u v i (nb_w h p (nb_c h p))) else (20 + i, p, v)) else (nb_r h p (if i + 1 < mn then 44 else 59), p, v)
/-- what begins at p, and the place behind it -/
def tx_k (h : Nat → Nat) (p : Nat) : Nat := if h p = 119 then 119 else if h p = 112 then 112 else if h p = 43 ∨ h p = 45 then (if h (p + 1) = 98 then 98 else if h (p + 1) = 100 then 100 else 0) else 0
def tx_q (h : Nat → Nat) (p : Nat) : Nat := if h p = 43 ∨ h p = 45 then p + 2 else p + 1
def tx_many (kd : Nat) : Nat := if kd = 98 then 4 else if kd = 100 then 3 else 2
def tx_m (kd k np nq : Nat) : Bool := decide (¬ kd = 0) && decide (kd = 119 ↔ k = 0) && (if kd = 112 then decide (nq < 40) else decide (np < 8))
/-- the world, a point, a part more -/
def tx_begin (d : ps_S) (a b : Nat) : ps_S := (fun j => if j = 0 then a else if j = 1 then b else if j = 2 then 0 else if j = 3 then a else if j = 4 then 0 else if j = 5 then 0 else d.1 j, d.2)
def tx_point (d : ps_S) (a b : Nat) : ps_S := (fun j => if j = 5 then d.1 5 + 1 else d.1 j, fun r => if r = 6 then (fun i => if i = d.1 5 then a else d.2 6 i) else if r = 7 then (fun i => if i = d.1 5 then b else d.2 7 i) else d.2 r)
def tx_part (sg kd : Nat) (v : Nat → Nat) : Nat → Nat := fun j => if j = 0 then (if sg = 43 then 1 else 0) else if j = 1 then (if kd = 98 then 0 else 1) else if j = 5 then (if kd = 98 then v 3 else 0) else v (j - 2)
def tx_put (d : ps_S) (sg kd : Nat) (v : Nat → Nat) : ps_S := if kd = 119 then tx_begin d (v 0) (v 1) else if kd = 112 then tx_point d (v 0) (v 1) else ps_more d (tx_part sg kd v)
def tx_item (h : Nat → Nat) (k : Nat) (d : ps_S) (p : Nat) : Nat × Nat × ps_S := if tx_m (tx_k h p) k (d.1 4) (d.1 5) = true then (if (it_n h (tx_k h p) (2 ^ d.1 0) (tx_many (tx_k h p)) (tx_many (tx_k h p)) 0 (tx_q h p) (fun _ => 0)).1 = 0 then (0, (it_n h (tx_k h p) (2 ^ d.1 0) (tx_many (tx_k h p)) (tx_many (tx_k h p)) 0 (tx_q h p) (fun _ => 0)).2.1, tx_put d (h p) (tx_k h p) (it_n h (tx_k h p) (2 ^ d.1 0) (tx_many (tx_k h p)) (tx_many (tx_k h p)) 0 (tx_q h p) (fun _ => 0)).2.2) else ((it_n h (tx_k h p) (2 ^ d.1 0) (tx_many (tx_k h p)) (tx_many (tx_k h p)) 0 (tx_q h p) (fun _ => 0)).1, p, d)) else (1, p, d)
/-- all items: what is wrong, the item's number, its place, what was told -/
def tx_run (h : Nat → Nat) (n : Nat) : Nat → Nat → ps_S → Nat → Nat × Nat × Nat × ps_S
  | 0, k, d, p => (0, k, p, d)
  | f + 1, k, d, p => if n ≤ p then (0, k, p, d) else if (tx_item h k d p).1 = 0 then tx_run h n f (k + 1) (tx_item h k d p).2.2 (tx_item h k d p).2.1 else ((tx_item h k d p).1, k, p, d)
theorem it_n_p (h : Nat → Nat) (kd sd mn : Nat) : ∀ (f i p : Nat) (v : Nat → Nat), (it_n h kd sd mn f i p v).1 = 0 → p ≤ (it_n h kd sd mn f i p v).2.1
  | 0, i, p, v, _ => Nat.le_refl p
  | f + 1, i, p, v, e => by
    rw [it_n] at e ⊢
    by_cases c1 : nb_r h p (if i + 1 < mn then 44 else 59) = 0
    · rw [if_pos c1] at e ⊢
      by_cases c2 : tx_tb kd sd i (nb_w h p (nb_c h p)) v = true
      · rw [if_pos c2] at e ⊢
        have := it_n_p h kd sd mn f (i + 1) _ _ e
        omega
      · rw [if_neg c2] at e
        exact absurd e (by show ¬ 20 + i = 0; omega)
    · rw [if_neg c1] at e; exact absurd e c1
theorem it_n_code (h : Nat → Nat) (kd sd mn : Nat) : ∀ (f i p : Nat) (v : Nat → Nat), i + f ≤ 4 → (it_n h kd sd mn f i p v).1 < 24
  | 0, i, p, v, _ => by show 0 < 24; omega
  | f + 1, i, p, v, hf => by
    rw [it_n]
    by_cases c1 : nb_r h p (if i + 1 < mn then 44 else 59) = 0
    · rw [if_pos c1]
      by_cases c2 : tx_tb kd sd i (nb_w h p (nb_c h p)) v = true
      · rw [if_pos c2]; exact it_n_code h kd sd mn f (i + 1) _ _ (by omega)
      · rw [if_neg c2]; show 20 + i < 24; omega
    · rw [if_neg c1]
      show nb_r h p _ < 24
      unfold nb_r
      repeat' split
      all_goals omega
/-- told numbers are so -/
theorem it_n_ok (h : Nat → Nat) (kd sd mn : Nat) : ∀ (f i p : Nat) (v : Nat → Nat), (it_n h kd sd mn f i p v).1 = 0 → (∀ j, j < i → (it_n h kd sd mn f i p v).2.2 j = v j) ∧ ∀ j, i ≤ j → j < i + f → tx_tb kd sd j ((it_n h kd sd mn f i p v).2.2 j) (it_n h kd sd mn f i p v).2.2 = true
  | 0, i, p, v, _ => ⟨fun _ _ => rfl, fun j h1 h2 => by omega⟩
  | f + 1, i, p, v, e => by
    rw [it_n] at e ⊢
    by_cases c1 : nb_r h p (if i + 1 < mn then 44 else 59) = 0
    · rw [if_pos c1] at e ⊢
      by_cases c2 : tx_tb kd sd i (nb_w h p (nb_c h p)) v = true
      · rw [if_pos c2] at e ⊢
        obtain ⟨h1, h2⟩ := it_n_ok h kd sd mn f (i + 1) _ _ e
        generalize (it_n h kd sd mn f (i + 1) (p + nb_c h p + 1) (tx_u v i (nb_w h p (nb_c h p)))).2.2 = V at *
        have hi : V i = nb_w h p (nb_c h p) := by rw [h1 i (by omega)]; exact if_pos rfl
        have hl : ∀ j, j < i → V j = v j := fun j hj => by rw [h1 j (by omega)]; exact if_neg (by omega)
        refine ⟨hl, fun j j1 j2 => ?_⟩
        by_cases q : j = i
        · subst q
          rw [hi]
          unfold tx_tb at c2 ⊢
          by_cases j2 : j < 2
          · simp only [j2, true_or] at c2 ⊢
            exact c2
          · rw [hl (j - 2) (by omega)]
            exact c2
        · exact h2 j (by omega) (by omega)
      · rw [if_neg c2] at e
        exact absurd e (by show ¬ 20 + i = 0; omega)
    · rw [if_neg c1] at e; exact absurd e c1
/-- what tx_k gives -/
theorem tx_k_c (h : Nat → Nat) (p : Nat) : tx_k h p = 119 ∨ tx_k h p = 112 ∨ tx_k h p = 98 ∨ tx_k h p = 100 ∨ tx_k h p = 0 := by
  unfold tx_k
  repeat' split
  all_goals omega
theorem tx_q_lt (h : Nat → Nat) (p : Nat) : p < tx_q h p ∧ tx_q h p ≤ p + 2 := by
  unfold tx_q
  split <;> omega
theorem tx_many_le (kd : Nat) : tx_many kd ≤ 4 ∧ 2 ≤ tx_many kd := by
  unfold tx_many
  repeat' split
  all_goals omega
theorem tx_m_t {kd k np nq : Nat} : tx_m kd k np nq = true ↔ (¬ kd = 0 ∧ (kd = 119 ↔ k = 0) ∧ (if kd = 112 then nq < 40 else np < 8)) := by
  unfold tx_m
  rw [Bool.and_eq_true, Bool.and_eq_true, decide_eq_true_iff, decide_eq_true_iff]
  by_cases c : kd = 112
  · rw [if_pos c, if_pos c, decide_eq_true_iff]
    exact ⟨fun q => ⟨q.1.1, q.1.2, q.2⟩, fun q => ⟨⟨q.1, q.2.1⟩, q.2.2⟩⟩
  · rw [if_neg c, if_neg c, decide_eq_true_iff]
    exact ⟨fun q => ⟨q.1.1, q.1.2, q.2⟩, fun q => ⟨⟨q.1, q.2.1⟩, q.2.2⟩⟩
theorem tx_tb_w0 {sd x : Nat} {v : Nat → Nat} : tx_tb 119 sd 0 x v = true ↔ (1 ≤ x ∧ x ≤ 6) := by
  unfold tx_tb; rw [if_pos rfl, if_pos rfl, decide_eq_true_iff]
theorem tx_tb_w1 {sd x : Nat} {v : Nat → Nat} : tx_tb 119 sd 1 x v = true ↔ x ≤ 1 := by
  unfold tx_tb; rw [if_pos rfl, if_neg (by decide), decide_eq_true_iff]
theorem tx_tb_d2 {sd x : Nat} {v : Nat → Nat} : tx_tb 100 sd 2 x v = true ↔ x ≤ 63 := by
  unfold tx_tb; rw [if_neg (by decide), if_pos (by decide), decide_eq_true_iff]
theorem tx_tb_o {kd sd i x : Nat} {v : Nat → Nat} (h1 : ¬ kd = 119) (h2 : ¬ (kd = 100 ∧ i = 2)) : tx_tb kd sd i x v = true ↔ (x < sd ∧ (i < 2 ∨ v (i - 2) ≤ x)) := by
  unfold tx_tb; rw [if_neg h1, if_neg h2, decide_eq_true_iff]
theorem tx_begin_ok {d : ps_S} (ho : ps_ok d) {a b : Nat} (ha : 1 ≤ a ∧ a ≤ 6) (hb : b ≤ 1) : ps_ok (tx_begin d a b) := by
  obtain ⟨o1, o2, o3, o4, o5, o6, o7, o8, o9, o10, o11, o12, o13⟩ := ho
  exact ⟨ha.1, ha.2, hb, Nat.zero_le _, Nat.le_refl _, Nat.zero_le _, Nat.zero_le _, o8, o9, fun i hi => absurd hi (Nat.not_lt_zero i), fun i hi => absurd hi (Nat.not_lt_zero i), o12, o13⟩
theorem tx_point_ok {d : ps_S} (ho : ps_ok d) {a b : Nat} (h5 : d.1 5 < 40) (ha : a < 2 ^ d.1 0) (hb : b < 2 ^ d.1 0) : ps_ok (tx_point d a b) := by
  obtain ⟨o1, o2, o3, o4, o5, o6, o7, o8, o9, o10, o11, o12, o13⟩ := ho
  refine ⟨o1, o2, o3, o4, o5, o6, by show d.1 5 + 1 ≤ 40; omega, o8, o9, o10, fun i hi => ?_, o12, o13⟩
  have hi : i < d.1 5 + 1 := hi
  show (if i = d.1 5 then a else d.2 6 i) < 2 ^ d.1 0 ∧ (if i = d.1 5 then b else d.2 7 i) < 2 ^ d.1 0
  by_cases e : i = d.1 5
  · rw [if_pos e, if_pos e]; exact ⟨ha, hb⟩
  · rw [if_neg e, if_neg e]; exact o11 i (by omega)
/-- the numbers told of an item -/
def tx_V (h : Nat → Nat) (d : ps_S) (p : Nat) : Nat → Nat := (it_n h (tx_k h p) (2 ^ d.1 0) (tx_many (tx_k h p)) (tx_many (tx_k h p)) 0 (tx_q h p) (fun _ => 0)).2.2
theorem tx_item_ok {h : Nat → Nat} {k p : Nat} {d : ps_S} (ho : ps_ok d) (e : (tx_item h k d p).1 = 0) : tx_m (tx_k h p) k (d.1 4) (d.1 5) = true ∧ (it_n h (tx_k h p) (2 ^ d.1 0) (tx_many (tx_k h p)) (tx_many (tx_k h p)) 0 (tx_q h p) (fun _ => 0)).1 = 0 ∧ (tx_item h k d p).2.2 = tx_put d (h p) (tx_k h p) (tx_V h d p) ∧ ps_ok (tx_put d (h p) (tx_k h p) (tx_V h d p)) ∧ p < (tx_item h k d p).2.1 ∧ (tx_item h k d p).2.1 = (it_n h (tx_k h p) (2 ^ d.1 0) (tx_many (tx_k h p)) (tx_many (tx_k h p)) 0 (tx_q h p) (fun _ => 0)).2.1 := by
  unfold tx_item at e ⊢
  by_cases c1 : tx_m (tx_k h p) k (d.1 4) (d.1 5) = true
  · rw [if_pos c1] at e ⊢
    by_cases c2 : (it_n h (tx_k h p) (2 ^ d.1 0) (tx_many (tx_k h p)) (tx_many (tx_k h p)) 0 (tx_q h p) (fun _ => 0)).1 = 0
    · rw [if_pos c2]
      have hp := it_n_p h (tx_k h p) (2 ^ d.1 0) (tx_many (tx_k h p)) _ _ _ _ c2
      have hq := tx_q_lt h p
      have ok := (it_n_ok h (tx_k h p) (2 ^ d.1 0) (tx_many (tx_k h p)) _ _ _ _ c2).2
      refine ⟨c1, c2, rfl, ?_, by show p < (it_n h (tx_k h p) (2 ^ d.1 0) (tx_many (tx_k h p)) (tx_many (tx_k h p)) 0 (tx_q h p) (fun _ => 0)).2.1; omega, rfl⟩
      have eV : (it_n h (tx_k h p) (2 ^ d.1 0) (tx_many (tx_k h p)) (tx_many (tx_k h p)) 0 (tx_q h p) (fun _ => 0)).2.2 = tx_V h d p := rfl
      rw [eV] at ok
      have m := tx_m_t.mp c1
      have hp2 := nz_p2 ho.2.1
      generalize tx_V h d p = V at *
      unfold tx_put
      rcases tx_k_c h p with q | q | q | q | q <;> rw [q] at ok m ⊢
      · rw [if_pos rfl]
        exact tx_begin_ok ho (tx_tb_w0.mp (ok 0 (by decide) (by decide))) (tx_tb_w1.mp (ok 1 (by decide) (by decide)))
      · rw [if_neg (by decide), if_pos rfl]
        have m2 := m.2.2
        rw [if_pos rfl] at m2
        exact tx_point_ok ho m2 ((tx_tb_o (by decide) (by decide)).mp (ok 0 (by decide) (by decide))).1 ((tx_tb_o (by decide) (by decide)).mp (ok 1 (by decide) (by decide))).1
      · rw [if_neg (by decide), if_neg (by decide)]
        have m2 := m.2.2
        rw [if_neg (by decide)] at m2
        have a0 := ((tx_tb_o (by decide) (by decide)).mp (ok 0 (by decide) (by decide))).1
        have a1 := ((tx_tb_o (by decide) (by decide)).mp (ok 1 (by decide) (by decide))).1
        have a2 := ((tx_tb_o (by decide) (by decide)).mp (ok 2 (by decide) (by decide))).1
        have a3 := ((tx_tb_o (by decide) (by decide)).mp (ok 3 (by decide) (by decide))).1
        refine ps_more_ok ho m2 ⟨?_, Nat.zero_le _, ?_, ?_, ?_, ?_⟩
        · show (if h p = 43 then 1 else 0) ≤ 1
          split <;> omega
        · show V 0 < 64; omega
        · show V 1 < 64; omega
        · show V 2 < 64; omega
        · show V 3 < 64; omega
      · rw [if_neg (by decide), if_neg (by decide)]
        have m2 := m.2.2
        rw [if_neg (by decide)] at m2
        have a0 := ((tx_tb_o (by decide) (by decide)).mp (ok 0 (by decide) (by decide))).1
        have a1 := ((tx_tb_o (by decide) (by decide)).mp (ok 1 (by decide) (by decide))).1
        have a2 := tx_tb_d2.mp (ok 2 (by decide) (by decide))
        refine ps_more_ok ho m2 ⟨?_, Nat.le_refl 1, ?_, ?_, ?_, Nat.zero_lt_succ _⟩
        · show (if h p = 43 then 1 else 0) ≤ 1
          split <;> omega
        · show V 0 < 64; omega
        · show V 1 < 64; omega
        · show V 2 < 64; omega
      · exact absurd rfl m.1
    · rw [if_neg c2] at e; exact absurd e c2
  · rw [if_neg c1] at e; exact absurd e (show ¬ (1 : Nat) = 0 by decide)
theorem tx_item_code {h : Nat → Nat} {k p : Nat} {d : ps_S} : (tx_item h k d p).1 < 24 := by
  unfold tx_item
  by_cases c1 : tx_m (tx_k h p) k (d.1 4) (d.1 5) = true
  · rw [if_pos c1]
    by_cases c2 : (it_n h (tx_k h p) (2 ^ d.1 0) (tx_many (tx_k h p)) (tx_many (tx_k h p)) 0 (tx_q h p) (fun _ => 0)).1 = 0
    · rw [if_pos c2]; show 0 < 24; decide
    · rw [if_neg c2]
      exact it_n_code _ _ _ _ _ _ _ _ (by have := tx_many_le (tx_k h p); omega)
  · rw [if_neg c1]; show 1 < 24; decide
