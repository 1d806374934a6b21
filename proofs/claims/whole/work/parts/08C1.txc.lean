/-! ===== the class reads the text ===== -/
def tx_S (q : Nat) (M : am_M) : Prop := M.2.2.1 1 0 = some 2 ∧ M.2.2.1 1 1 = some 3 ∧ M.2.2.1 1 2 = some 4 ∧ am_len M 2 = 200 ∧ am_len M 3 = 4 ∧ am_len M 4 = 3 ∧ M.2.2.1 q 0 = some (q + 1) ∧ M.2.2.1 q 1 = some (q + 6) ∧ M.2.2.1 (q + 1) 0 = some (q + 2) ∧ M.2.2.1 (q + 1) 1 = some (q + 3) ∧ am_len M (q + 2) = 40 ∧ am_len M (q + 3) = 40 ∧ am_len M (q + 6) = 8 ∧ 4 < q ∧ q < 39 ∧ ∃ pi : Nat → Nat, (∀ i, i < 8 → pi i < 8 ∧ M.2.2.1 (q + 6) i = some (q + 7 + pi i)) ∧ ∀ i j, i < 8 → j < 8 → pi i = pi j → i = j
theorem tx_S.fr {q : Nat} {M T : am_M} (h : tx_S q M) (e : T.2 = M.2) : tx_S q T := by
  unfold tx_S am_len at *
  rw [e]
  exact h
def tx_C (s : ps_S) (p : Nat) (T : am_M) : Prop := T.1 1 3 = nI (s.1 6) ∧ T.1 1 5 = nI p ∧ ∀ i, i < s.1 6 → T.1 2 i = nI (s.2 8 i)
def am_f3 (M T : am_M) : Prop := T.2 = M.2 ∧ (∀ k, k ≠ 1 → k ≠ 3 → T.1 k = M.1 k) ∧ ∀ j, j ≠ 5 → T.1 1 j = M.1 1 j
theorem am_f3.rf (M : am_M) : am_f3 M M := ⟨rfl, fun _ _ _ => rfl, fun _ _ => rfl⟩
theorem am_f3.tr {M T U : am_M} (h : am_f3 M T) (h' : am_f3 T U) : am_f3 M U := ⟨h'.1.trans h.1, fun k a b => (h'.2.1 k a b).trans (h.2.1 k a b), fun j a => (h'.2.2 j a).trans (h.2.2 j a)⟩
theorem am_f3.p5 {M T : am_M} (h : am_f3 M T) (x : Int32) : am_f3 M (am_pI T 1 5 x) := ⟨h.1, fun k a b => (am_pI_r _ _ _ _ a).trans (h.2.1 k a b), fun j a => by rw [am_pI_1, if_neg (fun q => a q.2)]; exact h.2.2 j a⟩
theorem am_f3.p3 {M T : am_M} (h : am_f3 M T) (i : Nat) (x : Int32) : am_f3 M (am_pI T 3 i x) := ⟨h.1, fun k a b => (am_pI_r _ _ _ _ b).trans (h.2.1 k a b), fun j a => by rw [am_pI_r _ _ _ _ (by decide)]; exact h.2.2 j a⟩
theorem tx_C.p5 {s : ps_S} {p q : Nat} {T : am_M} (h : tx_C s p T) : tx_C s q (am_pI T 1 5 (nI q)) := ⟨by rw [am_pI_1, if_neg (by omega)]; exact h.1, by rw [am_pI_1, if_pos ⟨rfl, rfl⟩], fun i hi => by rw [am_pI_r _ _ _ _ (by decide)]; exact h.2.2 i hi⟩
theorem tx_C.p3 {s : ps_S} {p : Nat} {T : am_M} (h : tx_C s p T) (i : Nat) (x : Int32) : tx_C s p (am_pI T 3 i x) := ⟨by rw [am_pI_r _ _ _ _ (by decide)]; exact h.1, by rw [am_pI_r _ _ _ _ (by decide)]; exact h.2.1, fun i hi => by rw [am_pI_r _ _ _ _ (by decide)]; exact h.2.2 i hi⟩
theorem nz_u16 {x : Nat} (h : x ≤ 126) : (nI x).toUInt32.toUInt16.toUInt32.toInt32 = nI x := by
  have k : ∀ x : Fin 127, (nI x.val).toUInt32.toUInt16.toUInt32.toInt32 = nI x.val := by decide +kernel
  exact k ⟨x, by omega⟩
theorem px_here {s : ps_S} {q p : Nat} {T : am_M} (ho : ps_ok s) (hS : tx_S q T) (hC : tx_C s p T) (hp : p < 100000) : fX7_letterHere 1 T = some (nI (tx_h s p), T) := by
  have o8 := ho.2.2.2.2.2.2.2.1
  have o12 := ho.2.2.2.2.2.2.2.2.2.2.2.1
  obtain ⟨s1, s2, s3, s4, -⟩ := hS
  obtain ⟨c1, c2, c3⟩ := hC
  unfold fX7_letterHere tx_h
  rw [c1, c2]
  simp only [nm_le (show s.1 6 < 2147483648 by omega) (show p < 2147483648 by omega)]
  by_cases c : p < s.1 6
  · rw [if_neg (by omega), if_pos c]
    simp only [s1, am_bs, s4, nm_cl (show p < 2147483648 by omega), am_ixc (show p < 200 by omega) (show 200 < 2147483648 by decide), if_false, c3 p c, nz_u16 (o12 p c).2]
  · rw [if_pos (by omega), if_neg c]; rfl
theorem px_fig {x : Nat} (h : x ≤ 126) (M : am_M) : fX7_isFigure (nI x) M = some (if 48 ≤ x ∧ x ≤ 57 then 1 else 0, M) := by
  unfold fX7_isFigure
  have e1 : (nI x < (48 : Int32)) = (x < 48) := by rw [nm_48, nm_lt (by omega) (by decide)]
  have e2 : ((57 : Int32) < nI x) = (57 < x) := by rw [nm_57, nm_lt (by decide) (by omega)]
  simp only [e1, e2]
  by_cases c1 : x < 48
  · rw [if_pos c1, if_neg (by omega)]
  · rw [if_neg c1]
    by_cases c2 : 57 < x
    · rw [if_pos c2, if_neg (by omega)]
    · rw [if_neg c2, if_pos (by omega)]
theorem px_n50 {s : ps_S} {q p i e j : Nat} {T T1 : am_M} (ho : ps_ok s) (hS : tx_S q T1) (hi : i < 4) (he : 0 < e ∧ e ≤ 126) (hp : p ≤ 202) (hj : j ≤ 3) (hC : tx_C s (p + j) T1) (hF : am_f3 T T1) (h3 : ∀ u, T1.1 3 u = T.1 3 u) (hd : ∀ u, u < j → nb_d (tx_h s) (p + u)) (hx : j < 3 → ¬ nb_d (tx_h s) (p + j)) : ∃ T', fX7_readNumber_50 1 (nI i) (nI e) (nI (nb_w (tx_h s) p j)) (nI j) T1 = some (nI (nb_r (tx_h s) p e), T') ∧ am_f3 T T' ∧ (nb_r (tx_h s) p e = 0 → tx_C s (p + nb_c (tx_h s) p + 1) T' ∧ T'.1 3 i = nI (nb_w (tx_h s) p (nb_c (tx_h s) p)) ∧ (∀ u, u ≠ i → T'.1 3 u = T.1 3 u) ∧ p + nb_c (tx_h s) p + 1 ≤ 200) := by
  have hl := tx_h_le ho
  have o8 := ho.2.2.2.2.2.2.2.1
  obtain ⟨s1, s2, s3, s4, s5, -⟩ := id hS
  have e0 : (nI j = (0 : Int32)) = (j = 0) := nm_eq (by omega) (by decide)
  have eh := px_here ho hS hC (by omega)
  have ef := px_fig (hl (p + j)) T1
  unfold fX7_readNumber_50
  simp only [e0, eh, am_bs, ef, nm_if0]
  by_cases c0 : j = 0
  · subst c0
    have hc : nb_c (tx_h s) p = 0 := nb_c_eq (by decide) hd (fun _ => hx (by decide))
    have hr : nb_r (tx_h s) p e = 2 := by unfold nb_r; rw [if_pos (Or.inl hc)]
    refine ⟨T1, by rw [if_pos rfl, hr]; rfl, hF, fun z => by rw [hr] at z; exact absurd z (by decide)⟩
  · rw [if_neg c0]
    by_cases c1 : nb_d (tx_h s) (p + j)
    · have e3 : j = 3 := by
        rcases Nat.lt_or_ge j 3 with z | z
        · exact absurd c1 (hx z)
        · omega
      subst e3
      have hc : nb_c (tx_h s) p = 4 := nb_c_eq (Nat.le_refl 4) (fun u hu => by
        by_cases z : u = 3
        · rw [z]; exact c1
        · exact hd u (by omega)) (fun z => absurd z (by decide))
      have hr : nb_r (tx_h s) p e = 2 := by unfold nb_r; rw [if_pos (Or.inr hc)]
      refine ⟨T1, by rw [if_neg (not_not_intro c1), hr]; rfl, hF, fun z => by rw [hr] at z; exact absurd z (by decide)⟩
    · have hc : nb_c (tx_h s) p = j := nb_c_eq (by omega) hd (fun _ => c1)
      have b := hl (p + j)
      have ee : (nI (tx_h s (p + j)) = nI e) = (tx_h s (p + j) = e) := nm_eq (by omega) (by omega)
      simp only [c1, not_false_eq_true, if_true, ee]
      by_cases c2 : tx_h s (p + j) = e
      · have hr : nb_r (tx_h s) p e = 0 := by unfold nb_r; rw [hc, if_neg (by omega), if_neg (not_not_intro c2)]
        have hlt : p + j < s.1 6 := by
          rcases Nat.lt_or_ge (p + j) (s.1 6) with z | z
          · exact z
          · have : tx_h s (p + j) = 0 := by unfold tx_h; rw [if_neg (by omega)]
            omega
        have e5 : T1.1 1 5 + 1 = nI (p + j + 1) := by rw [hC.2.1, nI_1]
        have l3 : am_len (am_pI T1 1 5 (nI (p + j + 1))) 3 = 4 := s5
        refine ⟨am_pI (am_pI T1 1 5 (nI (p + j + 1))) 3 i (nI (nb_w (tx_h s) p j)), ?_, (hF.p5 _).p3 _ _, fun _ => ?_⟩
        · rw [if_pos c2, e5, hr]
          show (T1.2.2.1 1 1).bind _ = _
          simp only [s2, am_bs, l3, nm_cl (show i < 2147483648 by omega), am_ixc (show i < 4 by omega) (show 4 < 2147483648 by decide), if_false]
          rfl
        · rw [hc]
          refine ⟨hC.p5.p3 _ _, by rw [am_pI_1, if_pos ⟨rfl, rfl⟩], fun u hu => ?_, by omega⟩
          rw [am_pI_1, if_neg (fun z => hu z.2), am_pI_r _ _ _ _ (by decide)]; exact h3 u
      · have hr : nb_r (tx_h s) p e = 3 := by unfold nb_r; rw [hc, if_neg (by omega), if_pos c2]
        refine ⟨T1, by rw [if_neg c2, hr]; rfl, hF, fun z => by rw [hr] at z; exact absurd z (by decide)⟩
theorem px_num {s : ps_S} {q p i e : Nat} {T : am_M} (ho : ps_ok s) (hS : tx_S q T) (hi : i < 4) (he : 0 < e ∧ e ≤ 126) (hp : p ≤ 202) (hC : tx_C s p T) : ∃ T', fX7_readNumber 1 (nI i) (nI e) T = some (nI (nb_r (tx_h s) p e), T') ∧ am_f3 T T' ∧ (nb_r (tx_h s) p e = 0 → tx_C s (p + nb_c (tx_h s) p + 1) T' ∧ T'.1 3 i = nI (nb_w (tx_h s) p (nb_c (tx_h s) p)) ∧ (∀ u, u ≠ i → T'.1 3 u = T.1 3 u) ∧ p + nb_c (tx_h s) p + 1 ≤ 200) := by
  have hl := tx_h_le ho
  exact am_loop_inv (f := fX7_readNumber_5) (fun j st => ∃ T1, st = (1, nI i, nI e, nI (nb_w (tx_h s) p j), nI j, T1) ∧ am_f3 T T1 ∧ (∀ u, T1.1 3 u = T.1 3 u) ∧ tx_C s (p + j) T1 ∧ ∀ u, u < j → nb_d (tx_h s) (p + u)) (fun r => ∃ T', r = some (nI (nb_r (tx_h s) p e), T') ∧ am_f3 T T' ∧ (nb_r (tx_h s) p e = 0 → tx_C s (p + nb_c (tx_h s) p + 1) T' ∧ T'.1 3 i = nI (nb_w (tx_h s) p (nb_c (tx_h s) p)) ∧ (∀ u, u ≠ i → T'.1 3 u = T.1 3 u) ∧ p + nb_c (tx_h s) p + 1 ≤ 200)) 3
    (fun j st kk hj ⟨T1, est, h1, h2, h3, h4⟩ => by
      subst est
      have hS1 := hS.fr h1.1
      have eh := px_here ho hS1 h3 (by omega)
      have ef := px_fig (hl (p + j)) T1
      have e3 : ((3 : Int32) ≤ nI j) = False := by rw [nm_3, nm_le (by decide) (by omega)]; exact eq_false (by omega)
      have bw := nb_w_le hl p (show j ≤ 4 by omega)
      by_cases c : nb_d (tx_h s) (p + j)
      · left
        have e5 : T1.1 1 5 + 1 = nI (p + (j + 1)) := by rw [h3.2.1, nI_1]; rfl
        have ew : (10 : Int32) * nI (nb_w (tx_h s) p j) + nI (tx_h s (p + j)) - 48 = nI (nb_w (tx_h s) p (j + 1)) := by
          rw [nm_10, nm_48, pk_mul, nI_add, nm_sub (by have := c.1; omega)]
          congr 1
          show 10 * nb_w (tx_h s) p j + tx_h s (p + j) - 48 = 10 * nb_w (tx_h s) p j + (tx_h s (p + j) - 48)
          have := c.1
          omega
        refine ⟨_, ⟨am_pI T1 1 5 (nI (p + (j + 1))), rfl, h1.p5 _, fun u => by rw [am_pI_r _ _ _ _ (by decide)]; exact h2 u, h3.p5, fun u hu => ?_⟩, ?_⟩
        · by_cases z : u = j
          · rw [z]; exact c
          · exact h4 u (by omega)
        · unfold fX7_readNumber_5
          simp only [e3, if_false, eh, am_bs, ef, c, and_self, if_true, nm_1f, ew, e5, nI_1]
      · right
        obtain ⟨T', t1, t2⟩ := px_n50 ho hS1 hi he hp (show j ≤ 3 by omega) h3 h1 h2 h4 (fun _ => c)
        refine ⟨T', ?_, t2⟩
        unfold fX7_readNumber_5
        simp only [e3, if_false, eh, am_bs, ef, nm_if0]
        rw [if_pos c]
        exact t1)
    (fun st kk ⟨T1, est, h1, h2, h3, h4⟩ => by
      subst est
      obtain ⟨T', t1, t2⟩ := px_n50 ho (hS.fr h1.1) hi he hp (Nat.le_refl 3) h3 h1 h2 h4 (fun z => absurd z (by decide))
      refine ⟨T', ?_, t2⟩
      unfold fX7_readNumber_5
      simp only [show ((3 : Int32) ≤ nI 3) = True from eq_true (by decide), if_true]
      exact t1)
    100000 0 (1, nI i, nI e, 0, 0, T) (by decide) (by decide) ⟨T, rfl, am_f3.rf T, fun _ => rfl, hC, fun u hu => absurd hu (Nat.not_lt_zero u)⟩
theorem nb_r_le (h : Nat → Nat) (p e : Nat) : nb_r h p e ≤ 3 := by
  unfold nb_r
  repeat' split
  all_goals omega
theorem px_side {q D : Nat} {T : am_M} (hD : D ≤ 6) (h : T.1 q 3 = nI D) : fX5_side q T = some (nI (2 ^ D), T) := by
  unfold fX5_side
  rw [h, nm_1, nm_31, nm_shl1 (by omega)]
theorem px_told {q kd i x D : Nat} {v : Nat → Nat} {T : am_M} (hS : tx_S q T) (hD : D ≤ 6) (h3 : T.1 q 3 = nI D) (hk : kd = 119 ∨ kd = 112 ∨ kd = 98 ∨ kd = 100) (hi : i < tx_many kd) (hx : x ≤ 86658) (hv : ∀ j, j < i → T.1 3 j = nI (v j) ∧ v j ≤ 86658) (hT : T.1 3 i = nI x) : fX7_isTold 1 q (nI kd) (nI i) T = some (if tx_tb kd (2 ^ D) i x v = true then 1 else 0, T) := by
  have hi4 := (tx_many_le kd).1
  have hp2 := nz_p2 hD
  obtain ⟨s1, s2, s3, s4, s5, -⟩ := id hS
  have es := px_side hD h3
  have o69 : (¬ kd = 119) → ¬ (kd = 100 ∧ i = 2) → fX7_isTold_69 1 q (nI i) (nI x) T = some (if tx_tb kd (2 ^ D) i x v = true then 1 else 0, T) := fun a1 a2 => by
    have e := tx_tb_o (kd := kd) (sd := 2 ^ D) (i := i) (x := x) (v := v) a1 a2
    unfold fX7_isTold_69
    have ei : (nI i < (2 : Int32)) = (i < 2) := by rw [nm_2, nm_lt (by omega) (by decide)]
    simp only [es, am_bs, nm_le (show 2 ^ D < 2147483648 by omega) (show x < 2147483648 by omega), ei]
    by_cases c1 : 2 ^ D ≤ x
    · rw [if_pos c1, if_neg (fun z => by have := e.mp z; omega)]
    · rw [if_neg c1]
      by_cases c2 : i < 2
      · rw [if_pos c2, if_pos (e.mpr ⟨by omega, Or.inl c2⟩)]
      · have e2 : nI i - 2 = nI (i - 2) := nm_sub (b := 2) (by omega)
        obtain ⟨w1, w2⟩ := hv (i - 2) (by omega)
        rw [if_neg c2]
        simp only [s2, am_bs, e2, s5, nm_cl (show i - 2 < 2147483648 by omega), am_ixc (show i - 2 < 4 by omega) (show 4 < 2147483648 by decide), if_false, w1, nm_lt (show x < 2147483648 by omega) (show v (i - 2) < 2147483648 by omega)]
        by_cases c3 : x < v (i - 2)
        · rw [if_pos c3, if_neg (fun z => by have := e.mp z; omega)]
        · rw [if_neg c3, if_pos (e.mpr ⟨by omega, Or.inr (by omega)⟩)]
  have e119 : (nI kd = (119 : Int32)) = (kd = 119) := nm_eq (by omega) (by decide)
  have e100 : (nI kd = (100 : Int32)) = (kd = 100) := nm_eq (by omega) (by decide)
  have ei0 : (nI i = (0 : Int32)) = (i = 0) := nm_eq (by omega) (by decide)
  have ei2 : (nI i = (2 : Int32)) = (i = 2) := nm_eq (by omega) (by decide)
  unfold fX7_isTold
  simp only [s2, am_bs, s5, nm_cl (show i < 2147483648 by omega), am_ixc (show i < 4 by omega) (show 4 < 2147483648 by decide), if_false, e119, e100, ei0, ei2, hT]
  by_cases c1 : kd = 119
  · subst c1
    rw [if_pos rfl]
    have hi2 : i = 0 ∨ i = 1 := by
      have : tx_many 119 = 2 := rfl
      omega
    rcases hi2 with rfl | rfl
    · rw [if_pos rfl]
      have e := tx_tb_w0 (sd := 2 ^ D) (x := x) (v := v)
      have x1 : (nI x < (1 : Int32)) = (x < 1) := by rw [nm_1, nm_lt (by omega) (by decide)]
      have x6 : ((6 : Int32) < nI x) = (6 < x) := by rw [nm_6, nm_lt (by decide) (by omega)]
      simp only [x1, x6]
      by_cases c2 : x < 1
      · rw [if_pos c2, if_neg (fun z => by have := e.mp z; omega)]
      · rw [if_neg c2]
        by_cases c3 : 6 < x
        · rw [if_pos c3, if_neg (fun z => by have := e.mp z; omega)]
        · rw [if_neg c3, if_pos (e.mpr (by omega))]
    · rw [if_neg (by decide)]
      have e := tx_tb_w1 (sd := 2 ^ D) (x := x) (v := v)
      have x1 : (nI x = (0 : Int32) ∨ nI x = (1 : Int32)) = (x ≤ 1) := by
        rw [show (nI x = (0 : Int32)) = (x = 0) from nm_eq (by omega) (by decide), show (nI x = (1 : Int32)) = (x = 1) from nm_eq (by omega) (by decide)]
        apply propext; omega
      rw [px_bit, am_bs]
      simp only [x1, nz_ifa]
      by_cases c2 : x ≤ 1
      · rw [if_pos c2, if_pos (e.mpr c2)]
      · rw [if_neg c2, if_neg (fun z => c2 (e.mp z))]
  · rw [if_neg c1]
    by_cases c2 : kd = 100
    · rw [if_pos c2]
      by_cases c3 : i = 2
      · rw [if_pos c3]
        subst c2 c3
        have e := tx_tb_d2 (sd := 2 ^ D) (x := x) (v := v)
        have x6 : ((63 : Int32) < nI x) = (63 < x) := by rw [nm_63, nm_lt (by decide) (by omega)]
        simp only [x6]
        by_cases c4 : 63 < x
        · rw [if_pos c4, if_neg (fun z => by have := e.mp z; omega)]
        · rw [if_neg c4, if_pos (e.mpr (by omega))]
      · rw [if_neg c3]; exact o69 c1 (fun z => c3 z.2)
    · rw [if_neg c2]; exact o69 c1 (fun z => c2 z.1)
/-- the numbers of an item -/
theorem px_itn {s : ps_S} {q kd D : Nat} (ho : ps_ok s) (hD : D ≤ 6) (hk : kd = 119 ∨ kd = 112 ∨ kd = 98 ∨ kd = 100) (x3 : Int32) : ∀ (f i p : Nat) (v : Nat → Nat) (T : am_M) (N : Nat), i + f = tx_many kd → f < N → p ≤ 202 → tx_S q T → tx_C s p T → T.1 q 3 = nI D → (∀ j, j < i → T.1 3 j = nI (v j) ∧ v j ≤ 86658) → ∃ T', am_f3 T T' ∧ am_loop fX7_readItem_52 N (1, q, x3, nI kd, nI (tx_many kd), nI i, T) = (if (it_n (tx_h s) kd (2 ^ D) (tx_many kd) f i p v).1 = 0 then (fX7_put 1 q x3 (nI kd) T').bind (fun M24 => some (0, M24)) else some (nI (it_n (tx_h s) kd (2 ^ D) (tx_many kd) f i p v).1, T')) ∧ ((it_n (tx_h s) kd (2 ^ D) (tx_many kd) f i p v).1 = 0 → tx_C s (it_n (tx_h s) kd (2 ^ D) (tx_many kd) f i p v).2.1 T' ∧ (it_n (tx_h s) kd (2 ^ D) (tx_many kd) f i p v).2.1 ≤ 202 ∧ ∀ j, j < tx_many kd → T'.1 3 j = nI ((it_n (tx_h s) kd (2 ^ D) (tx_many kd) f i p v).2.2 j))
  | 0, i, p, v, T, N + 1, hf, hN, hp, hS, hC, h3, hv => by
    have e : i = tx_many kd := by omega
    subst e
    refine ⟨T, am_f3.rf T, ?_, fun _ => ⟨hC, hp, fun j hj => (hv j hj).1⟩⟩
    rw [it_n, if_pos rfl]
    show fX7_readItem_52 _ (1, q, x3, nI kd, nI (tx_many kd), nI (tx_many kd), T) = _
    unfold fX7_readItem_52
    simp only [Int32.le_refl, if_true]
  | f + 1, i, p, v, T, N + 1, hf, hN, hp, hS, hC, h3, hv => by
    have hm := tx_many_le kd
    have hl := tx_h_le ho
    have hqb : 4 < q := hS.2.2.2.2.2.2.2.2.2.2.2.2.2.1
    have e1 : (nI (tx_many kd) ≤ nI i) = False := by rw [nm_le (by omega) (by omega)]; exact eq_false (by omega)
    have e2 : (nI (tx_many kd) - 1 ≤ nI i) = (¬ i + 1 < tx_many kd) := by
      rw [show nI (tx_many kd) - 1 = nI (tx_many kd - 1) from nm_sub (b := 1) (by omega), nm_le (by omega) (by omega)]
      apply propext; omega
    have he : 0 < (if i + 1 < tx_many kd then 44 else 59) ∧ (if i + 1 < tx_many kd then 44 else 59) ≤ 126 := by split <;> omega
    have st : ∀ kk : (Nat × Nat × Int32 × Int32 × Int32 × Int32 × am_M) → Option (Int32 × am_M), fX7_readItem_52 kk (1, q, x3, nI kd, nI (tx_many kd), nI i, T) = fX7_readItem_78 kk 1 q x3 (nI kd) (nI (tx_many kd)) (nI i) (nI (if i + 1 < tx_many kd then 44 else 59)) (nI i) 1 T := fun kk => by
      unfold fX7_readItem_52
      simp only [e1, if_false, e2]
      by_cases c : i + 1 < tx_many kd
      · rw [if_neg (not_not_intro c), if_pos c]; rfl
      · rw [if_pos c, if_neg c]; rfl
    obtain ⟨T1, t1, t2, t3⟩ := px_num (i := i) ho hS (by omega) he hp hC
    have bw := nb_w_le hl p (nb_c_le (tx_h s) p)
    have ez : (nI (nb_r (tx_h s) p (if i + 1 < tx_many kd then 44 else 59)) = (0 : Int32)) = (nb_r (tx_h s) p (if i + 1 < tx_many kd then 44 else 59) = 0) := nm_eq (by have := nb_r_le (tx_h s) p (if i + 1 < tx_many kd then 44 else 59); omega) (by decide)
    rw [it_n]
    show ∃ T', am_f3 T T' ∧ fX7_readItem_52 (am_loop fX7_readItem_52 N) (1, q, x3, nI kd, nI (tx_many kd), nI i, T) = _ ∧ _
    rw [st]
    by_cases c1 : nb_r (tx_h s) p (if i + 1 < tx_many kd then 44 else 59) = 0
    · obtain ⟨u1, u2, u3, u4⟩ := t3 c1
      have hv1 : ∀ j, j < i → T1.1 3 j = nI (v j) ∧ v j ≤ 86658 := fun j hj => ⟨by rw [u3 j (by omega)]; exact (hv j hj).1, (hv j hj).2⟩
      have h31 : T1.1 q 3 = nI D := by rw [t2.2.1 q (by omega) (by omega)]; exact h3
      have tl := px_told (hS.fr t2.1) hD h31 hk (show i < tx_many kd by omega) bw hv1 u2
      rw [if_pos c1]
      by_cases c2 : tx_tb kd (2 ^ D) i (nb_w (tx_h s) p (nb_c (tx_h s) p)) v = true
      · rw [if_pos c2] at tl ⊢
        obtain ⟨T', w1, w2, w3⟩ := px_itn (q := q) ho hD hk x3 f (i + 1) (p + nb_c (tx_h s) p + 1) (tx_u v i (nb_w (tx_h s) p (nb_c (tx_h s) p))) T1 N (by omega) (by omega) (by omega) (hS.fr t2.1) u1 h31 (fun j hj => by
          unfold tx_u
          by_cases z : j = i
          · rw [if_pos z, z]; exact ⟨u2, bw⟩
          · rw [if_neg z]; exact hv1 j (by omega))
        refine ⟨T', t2.tr w1, ?_, w3⟩
        rw [← w2]
        unfold fX7_readItem_78
        rw [c1] at t1
        simp only [t1, am_bs, show (nI 0 = (0 : Int32)) = True from eq_true rfl, if_true, tl, nm_1f, if_false, nI_1]
      · rw [if_neg c2] at tl ⊢
        refine ⟨T1, t2, ?_, fun z => absurd z (by show ¬ 20 + i = 0; omega)⟩
        have e20 : ¬ (20 + i, p, v).1 = 0 := by show ¬ 20 + i = 0; omega
        rw [if_neg e20]
        rw [c1] at t1
        unfold fX7_readItem_78
        simp only [t1, am_bs, show (nI 0 = (0 : Int32)) = True from eq_true rfl, if_true, tl]
        rw [nm_20, nI_add]
    · rw [if_neg c1]
      refine ⟨T1, t2, ?_, fun z => absurd z c1⟩
      rw [if_neg c1]
      unfold fX7_readItem_78
      simp only [t1, am_bs, ez, c1, if_false]
