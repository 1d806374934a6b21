/-! count, rest -/
theorem ps_ct_mo {f g : Nat → Bool} {a : Nat} : ∀ {n : Nat}, (∀ i, i < n → f (a + i) = true → g (a + i) = true) → ps_ct (fun k => decide (¬ g k = f k)) a n + ps_ct f a n = ps_ct g a n
  | 0, _ => rfl
  | n + 1, h => by
    have ih := ps_ct_mo (n := n) (fun i hi => h i (by omega))
    have hn := h n (by omega)
    have key : ∀ u v : Bool, (u = true → v = true) → (if decide (¬ v = u) = true then 1 else 0) + (if u = true then 1 else 0) = (if v = true then 1 else 0) := by decide
    have k2 := key _ _ hn
    show ps_ct _ a n + (if decide (¬ g (a + n) = f (a + n)) = true then 1 else 0) + (ps_ct f a n + if f (a + n) = true then 1 else 0) = ps_ct g a n + if g (a + n) = true then 1 else 0
    omega
theorem ps_ct_pos {f : Nat → Bool} {a : Nat} : ∀ {n i : Nat}, i < n → f (a + i) = true → 0 < ps_ct f a n
  | 0, i, h, _ => absurd h (Nat.not_lt_zero i)
  | n + 1, i, h, hf => by
    rw [ps_ct]
    by_cases e : i = n
    · subst e; rw [if_pos hf]; omega
    · have := ps_ct_pos (n := n) (i := i) (by omega) hf
      omega
theorem ps_ct_full {f : Nat → Bool} {a : Nat} : ∀ {n : Nat}, ps_ct f a n = n → ∀ i, i < n → f (a + i) = true
  | 0, _, i, h => absurd h (Nat.not_lt_zero i)
  | n + 1, h, i, hi => by
    rw [ps_ct] at h
    have hl := ps_ct_le f a n
    by_cases c : f (a + n) = true
    · rw [if_pos c] at h
      by_cases e : i = n
      · subst e; exact c
      · exact ps_ct_full (n := n) (by omega) i (by omega)
    · rw [if_neg c] at h; omega
theorem ps_ct_all {f : Nat → Bool} {a : Nat} : ∀ {n : Nat}, (∀ i, i < n → f (a + i) = true) → ps_ct f a n = n
  | 0, _ => rfl
  | n + 1, h => by rw [ps_ct, ps_ct_all (n := n) (fun i hi => h i (by omega)), if_pos (h n (by omega))]
theorem ps_sk_lt {s : ps_S} {k : Nat} (h : ps_sk s k = true) : k < 4 ^ s.1 0 := by
  unfold ps_sk at h
  rw [Bool.and_eq_true] at h
  exact of_decide_eq_true h.1
theorem ps_cov_0 {s : ps_S} {k : Nat} (h : ps_sk s k = true) : ps_cov s 0 k = true := by
  have hz : 0 < ps_sz s (s.1 3) := Nat.pow_pos (by decide)
  unfold ps_cov
  rw [decide_eq_true (ps_sk_lt h), Bool.true_and, if_pos rfl]
  apply decide_eq_true
  have e : k / ps_sz s (s.1 3) * ps_sz s (s.1 3) + k % ps_sz s (s.1 3) = k := Nat.div_add_mod' k _
  exact ps_ct_pos (Nat.mod_lt k hz) (by rw [e]; exact h)
theorem ps_cov_1 {s : ps_S} {k : Nat} (h : ps_cov s 1 k = true) : ps_sk s k = true := by
  have hz : 0 < ps_sz s (s.1 3) := Nat.pow_pos (by decide)
  unfold ps_cov at h
  rw [Bool.and_eq_true, if_neg (by decide)] at h
  have h2 := ps_ct_full (of_decide_eq_true h.2) (k % ps_sz s (s.1 3)) (Nat.mod_lt k hz)
  rw [Nat.div_add_mod'] at h2
  exact h2
theorem ks_all {M : am_M} {a q : Nat} {f : Nat → Bool} (hk : ps_kq M a q) (h : ps_ks M q f) {D : Nat} (hD : D ≤ 6) : fX3_countIn a 0 (nI (4 ^ D)) M = some (nI (ps_ct f 0 (4 ^ D)), M) := by
  have hp := nz_p4 hD
  have e := ks_count hk h (e := D) (t := 0) hD (by omega)
  rw [Nat.zero_mul] at e
  exact e
theorem pm_all {M : am_M} {D : Nat} {g : Nat → Bool} (hD : D ≤ 6) (h0 : M.1 53 0 = nI D) (r : M.2.2.1 53 21 = some 60) (l60 : am_len M 60 = 4096) (hrow : ps_row M 60 (4 ^ D) g) : fX10_shapeIn 53 0 0 M = some (nI (ps_ct g 0 (4 ^ D)), M) := by
  have e := pm_shapeIn hD h0 r l60 hrow (l := 0) (k := 0) (Nat.zero_le _) (by decide)
  rw [Nat.zero_mul, Nat.sub_zero] at e
  exact e
theorem op_count (a : Int32) : ps_op (fX9_count 0 a) (fX10_count 53 a) := by
  intro s ho
  obtain ⟨o1, o2, o3, -⟩ := id ho
  by_cases h6 : a = 6
  · subst h6
    refine ⟨nI (ps_ct (ps_sk s) 0 (4 ^ s.1 0)), s, ho, fun pl M hX => ?_, fun M hM => ?_⟩
    · obtain ⟨p1, p2, p3, p4, p5, p6, p7, p8, -⟩ := hX.pl
      obtain ⟨T, t1, t2, t3, t4⟩ := px_refresh ho hX
      obtain ⟨⟨q1, -⟩, k1, -, -, q2, -⟩ := t2.ks t4
      obtain ⟨u1, u2, u3, u4, u5, u6, u7, u8, -⟩ := t2.pl
      refine ⟨pl, T, ?_, t2, t3⟩
      unfold fX9_count
      simp only [show ((6 : Int32) = 0) = False from eq_false (by decide), show ((6 : Int32) = 1) = False from eq_false (by decide), show ((6 : Int32) = 2) = False from eq_false (by decide), show ((6 : Int32) = 3) = False from eq_false (by decide), show ((6 : Int32) = 4) = False from eq_false (by decide), show ((6 : Int32) = 5) = False from eq_false (by decide), if_false, if_true, p8, p2, am_bs, t1, u8, u2, q2, px_size0 o2 u4, ks_all q1 k1 o2]
    · obtain ⟨T, t1, t2, t3⟩ := pm_setShape ho hM
      obtain ⟨-, -, r21, -, -, -, -, -, -, -, l60, -⟩ := t2.1.r
      refine ⟨T, ?_, t2.1, t2.2⟩
      unfold fX10_count fX10_shapeMany
      simp only [show ((6 : Int32) = 0) = False from eq_false (by decide), show ((6 : Int32) = 1) = False from eq_false (by decide), show ((6 : Int32) = 2) = False from eq_false (by decide), show ((6 : Int32) = 3) = False from eq_false (by decide), show ((6 : Int32) = 4) = False from eq_false (by decide), show ((6 : Int32) = 5) = False from eq_false (by decide), if_false, if_true, t1, am_bs, pm_all o2 t2.1.2.2.1 r21 l60 t3]
  · refine ⟨if a = 0 then nI (s.1 0) else if a = 1 then nI (s.1 1) else if a = 2 then nI (s.1 2) else if a = 3 then nI (s.1 3) else if a = 4 then nI (s.1 4) else if a = 5 then nI (s.1 5) else if a = 7 then nI (s.1 6) else if a = 8 then nI (s.1 7) else -1, s, ho, ps_ox.same (fun pl M hX => ?_), ps_om.same (fun M hM => ?_)⟩
    · obtain ⟨p1, p2, p3, p4, p5, p6, p7, p8, p9, -⟩ := hX.pl
      have e1 := hX.2.2.2.2.1 0 0 1 (by decide) rfl
      obtain ⟨-, -, -, -, -, -, g1, g2, g3, g4, g5, g6, g7, g8, g9, g10, -⟩ := id hX
      unfold fX9_count
      simp only [h6, if_false, p2, am_bs, p3, p4, p5, p6, p7, p9, g6, e1, g9, g10]
      repeat' split
      all_goals rfl
    · obtain ⟨m1, m2, m3, m4, m5, m6, m7, m8, m9, m10, -⟩ := id hM
      unfold fX10_count
      simp only [h6, if_false, m3, m4, m5, m6, m7, m8, m9, m10]
      repeat' split
      all_goals rfl
theorem px_keysOf {M : am_M} (r1 : M.2.2.1 5 1 = some 8) (r2 : M.2.2.1 5 2 = some 10) {b : Nat} (hb : b ≤ 1) : fX0_keysOf 5 (nI b) M = some (8 + 2 * b, M) := by
  unfold fX0_keysOf
  rcases (show b = 0 ∨ b = 1 by omega) with rfl | rfl
  · rw [if_pos (show nI 0 = (0 : Int32) from rfl), r1]; rfl
  · rw [if_neg (show ¬ nI 1 = (0 : Int32) by decide), r2]; rfl
theorem ps_X.kc {s : ps_S} {pl : Nat} {M : am_M} (h : ps_X s pl M) (f : M.1 5 5 = nI 1) {b : Nat} (hb : b ≤ 1) : ps_kq M (8 + 2 * b) (9 + 2 * b) ∧ ps_ks M (9 + 2 * b) (ps_cov s b) ∧ fX0_keysOf 5 (nI b) M = some (8 + 2 * b, M) := by
  obtain ⟨⟨q1, q2, q3⟩, k1, k2, k3, r0, r1, r2, -⟩ := h.ks f
  refine ⟨?_, ?_, px_keysOf r1 r2 hb⟩
  · rcases (show b = 0 ∨ b = 1 by omega) with rfl | rfl
    · exact q2
    · exact q3
  · rcases (show b = 0 ∨ b = 1 by omega) with rfl | rfl
    · exact k2
    · exact k3
/-- cells in just one of cover and shape -/
def ps_rest (s : ps_S) (w : Nat) : Nat := ps_ct (fun k => decide (¬ ps_cov s w k = ps_sk s k)) 0 (4 ^ s.1 0)
theorem ps_rest_0 (s : ps_S) : ps_rest s 0 + ps_ct (ps_sk s) 0 (4 ^ s.1 0) = ps_ct (ps_cov s 0) 0 (4 ^ s.1 0) := ps_ct_mo (fun i _ h => ps_cov_0 h)
theorem ps_rest_1 (s : ps_S) : ps_rest s 1 + ps_ct (ps_cov s 1) 0 (4 ^ s.1 0) = ps_ct (ps_sk s) 0 (4 ^ s.1 0) := by
  have h := ps_ct_mo (f := ps_cov s 1) (g := ps_sk s) (a := 0) (n := 4 ^ s.1 0) (fun i _ h => ps_cov_1 h)
  rw [← h]
  congr 1
  unfold ps_rest
  exact ps_ct_cg (fun i _ => decide_eq_decide.mpr ⟨fun h e => h e.symm, fun h e => h e.symm⟩)
theorem nm_negc {d : Nat} (h0 : 0 < d) (h : d < 2147483648) : ¬ (0 : Int32) ≤ -(nI d) := by
  rw [Int32.le_iff_toInt_le, Int32.toInt_neg, nI_toInt h, Int.bmod_eq_of_le (by omega) (by omega)]
  show ¬ (0 : Int) ≤ -(d : Int)
  omega
theorem nm_abs {a b : Nat} (ha : a < 2147483648) (hb : b < 2147483648) : (if 0 ≤ nI a - nI b then nI a - nI b else 0 - (nI a - nI b)) = nI ((a - b) + (b - a)) := by
  rcases Nat.lt_or_ge a b with h | h
  · have e : nI a - nI b = -(nI (b - a)) := by rw [← Int32.neg_sub, nm_sub (by omega)]
    rw [e, if_neg (nm_negc (by omega) (by omega)), Int32.zero_sub, Int32.neg_neg]
    congr 1
    omega
  · rw [nm_sub h, if_pos (nI_pos' (by omega))]
    congr 1
    omega
theorem nz_p0 (a : Nat) : nI a + 0 = nI a := by rw [nm_0, nI_add]; rfl
theorem op_rest (a : Int32) : ps_op (fX9_rest 0 a) (fX10_rest 53 a) := by
  intro s ho
  obtain ⟨o1, o2, o3, -⟩ := id ho
  have hp4 := nz_p4 o2
  by_cases hQ : a = 0 ∨ a = 1
  · obtain ⟨b, hb, rfl⟩ := nm_bits hQ
    refine ⟨nI (ps_rest s b), s, ho, fun pl M hX => ?_, fun M hM => ?_⟩
    · obtain ⟨p1, p2, p3, p4, p5, p6, p7, p8, -⟩ := hX.pl
      obtain ⟨T, t1, t2, t3, t4⟩ := px_refresh ho hX
      obtain ⟨⟨q1, -⟩, k1, -, -, q2, -⟩ := t2.ks t4
      obtain ⟨v1, v2, v3⟩ := t2.kc t4 hb
      obtain ⟨u1, u2, u3, u4, u5, u6, u7, u8, -⟩ := t2.pl
      refine ⟨pl, T, ?_, t2, t3⟩
      have l1 := ps_ct_le (ps_cov s b) 0 (4 ^ s.1 0)
      have l2 := ps_ct_le (ps_sk s) 0 (4 ^ s.1 0)
      unfold fX9_rest
      simp only [px_bit, hQ, if_true, am_bs, nm_1f, if_false, p8, p2, t1, u2, u8, px_size0 o2 u4, v3, ks_all v1 v2 o2, q2, ks_all q1 k1 o2]
      congr 2
      rw [nm_abs (by omega) (by omega)]
      congr 1
      rcases (show b = 0 ∨ b = 1 by omega) with rfl | rfl
      · have h := ps_rest_0 s
        omega
      · have h := ps_rest_1 s
        omega
    · obtain ⟨T, t1, t2, t3, t4⟩ := pm_setCover ho hM hb
      obtain ⟨-, -, r21, r22, -, -, -, -, -, -, l60, l61, -⟩ := t2.1.r
      refine ⟨T, ?_, t2.1, t2.2⟩
      have L := am_loop_inv (f := fX10_rest_20) (fun i st => st = (53, nI (ps_ct (fun k => decide (¬ ps_cov s b k = ps_sk s k)) 0 i), nI i, T)) (fun r => r = some (nI (ps_rest s b), T)) (4 ^ s.1 0)
        (fun i st k hi e => by
          subst e
          refine Or.inl ⟨_, rfl, ?_⟩
          unfold fX10_rest_20 fX10_rest_49
          simp only [pm_cells o2 t2.1.2.2.1, am_bs, nm_le (show 4 ^ s.1 0 < 2147483648 by omega) (show i < 2147483648 by omega), show (4 ^ s.1 0 ≤ i) = False from eq_false (by omega), if_false, r21, r22, l60, l61, nm_cl (show i < 2147483648 by omega), am_ixc (show i < 4096 by omega) (show 4096 < 2147483648 by decide), t3 i hi, t4 i hi, nI_1, nz_p0, ps_ct, Nat.zero_add]
          cases ps_cov s b i <;> cases ps_sk s i <;> rfl)
        (fun st k e => by
          subst e
          unfold fX10_rest_20
          simp only [pm_cells o2 t2.1.2.2.1, am_bs, Int32.le_refl, if_true]
          rfl)
        100000 0 (53, nI 0, nI 0, T) (Nat.zero_le _) (by omega) rfl
      unfold fX10_rest
      simp only [pm_bit, hQ, if_true, am_bs, nm_1f, if_false, t1]
      exact L
  · refine ⟨-1, s, ho, ps_ox.same (fun pl M hX => ?_), ps_om.same (fun M hM => ?_)⟩
    · unfold fX9_rest
      simp only [px_bit, hQ, if_false, am_bs, if_true]
    · unfold fX10_rest
      simp only [pm_bit, hQ, if_false, am_bs, if_true]
