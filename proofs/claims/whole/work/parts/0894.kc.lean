/-! how many keys of a tile -/
theorem ks_word {M : am_M} {q : Nat} {f : Nat → Bool} (h : ps_ks M q f) {w : Nat} (hw : w < 64) : ps_ct (lg_n (M.2.1 q w)).testBit 0 64 = ps_ct f (64 * w) 64 := ps_ct_cg (fun i hi => by rw [Nat.zero_add]; exact ks_bit h hw hi)
theorem ks_part (x : Int64) {b n : Nat} (hn : n = 1 ∨ n = 4 ∨ n = 16) (hb : b + n ≤ 64) : ps_ct (lg_n (lg_r x (nI b) &&& (((1 : Int64) <<< ((nI n).toInt64 &&& 63)) - 1))).testBit 0 64 = ps_ct (lg_n x).testBit b n := by
  have e1 : lg_n (((1 : Int64) <<< ((nI n).toInt64 &&& 63)) - 1) = 2 ^ n - 1 := by
    rcases hn with rfl | rfl | rfl <;> decide +kernel
  have e2 : lg_n (lg_r x (nI b) &&& (((1 : Int64) <<< ((nI n).toInt64 &&& 63)) - 1)) = (lg_n x / 2 ^ b) % 2 ^ n := by
    rw [lg_n_and, lg_n_r _ (by omega), e1, Nat.and_two_pow_sub_one_eq_mod]
  rw [e2, show (64 : Nat) = n + (64 - n) by omega, ps_ct_add]
  rw [ps_ct_0 (f := (lg_n x / 2 ^ b % 2 ^ n).testBit) (a := 0 + n) (n := 64 - n) (fun i hi => by rw [Nat.testBit_mod_two_pow, decide_eq_false (by omega), Bool.false_and]), Nat.add_zero]
  refine ps_ct_cg (fun i hi => ?_)
  rw [Nat.testBit_mod_two_pow, decide_eq_true (by omega), Bool.true_and, ← Nat.shiftRight_eq_div_pow, Nat.testBit_shiftRight, Nat.zero_add]
theorem nz_al : ∀ {e : Nat}, e ≤ 2 → (4 ^ e = 1 ∨ 4 ^ e = 4 ∨ 4 ^ e = 16) := by
  intro e he
  rcases (show e = 0 ∨ e = 1 ∨ e = 2 by omega) with rfl | rfl | rfl
  · exact Or.inl rfl
  · exact Or.inr (Or.inl rfl)
  · exact Or.inr (Or.inr rfl)
theorem ks_count {M : am_M} {a q : Nat} {f : Nat → Bool} (hk : ps_kq M a q) (h : ps_ks M q f) {e t : Nat} (he : e ≤ 6) (ht : t * 4 ^ e + 4 ^ e ≤ 4096) : fX3_countIn a (nI (t * 4 ^ e)) (nI (4 ^ e)) M = some (nI (ps_ct f (t * 4 ^ e) (4 ^ e)), M) := by
  have hp := nz_p4 he
  have c1 : (nI (4 ^ e) < 1) = False := by rw [nm_1, nm_lt (by omega) (by decide)]; exact eq_false (by omega)
  have c2 : (nI (t * 4 ^ e) ≤ 4096 - nI (4 ^ e)) = True := by rw [nm_4096, nm_sub (by omega), nm_le (by omega) (by omega)]; exact eq_true (by omega)
  have c3 : ((64 : Int32) ≤ nI (4 ^ e)) = (64 ≤ 4 ^ e) := by rw [nm_64, nm_le (by decide) (by omega)]
  have e1 : nI (t * 4 ^ e) / 64 = nI (t * 4 ^ e / 64) := nm_div (d := 64) (by omega) (by decide) (by decide)
  have e2 : nI (t * 4 ^ e) - nI (t * 4 ^ e / 64) * 64 = nI (t * 4 ^ e % 64) := by rw [← e1]; exact nm_rem (d := 64) (by omega) (by decide) (by decide)
  have e4 : nI (t * 4 ^ e + 4 ^ e) / 64 = nI ((t * 4 ^ e + 4 ^ e) / 64) := nm_div (d := 64) (by omega) (by decide) (by decide)
  unfold fX3_countIn
  simp only [nz_lt0 (show t * 4 ^ e < 2147483648 by omega), c1, c2, c3, if_false, if_true, e1, e2]
  by_cases h3 : 3 ≤ e
  · obtain ⟨d, rfl⟩ : ∃ d, e = 3 + d := ⟨e - 3, by omega⟩
    have hd : 4 ^ (3 + d) = 64 * 4 ^ d := by rw [Nat.pow_add]
    have hd0 : 0 < 4 ^ d := Nat.pow_pos (by decide)
    rw [if_pos (by omega)]
    have ha : t * 4 ^ (3 + d) = 64 * (t * 4 ^ d) := by rw [hd, Nat.mul_left_comm]
    rw [ha] at ht e4 ⊢
    rw [hd] at ht e4 ⊢
    have e5 : (64 * (t * 4 ^ d) + 64 * 4 ^ d) / 64 = t * 4 ^ d + 4 ^ d := by omega
    rw [e5] at e4
    rw [show 64 * (t * 4 ^ d) / 64 = t * 4 ^ d by omega]
    have L := am_loop_inv (f := fX3_countIn_60) (fun i st => st = (a, nI (64 * (t * 4 ^ d)), nI (64 * 4 ^ d), nI (ps_ct f (64 * (t * 4 ^ d)) (64 * i)), nI (t * 4 ^ d + i), M)) (fun r => r = some (nI (ps_ct f (64 * (t * 4 ^ d)) (64 * 4 ^ d)), M)) (4 ^ d)
      (fun i st k hi e => by
        subst e
        refine Or.inl ⟨_, rfl, ?_⟩
        have w := ks_word h (w := t * 4 ^ d + i) (by omega)
        unfold fX3_countIn_60
        simp only [nI_add, e4, nm_le (show t * 4 ^ d + 4 ^ d < 2147483648 by omega) (show t * 4 ^ d + i < 2147483648 by omega), show (t * 4 ^ d + 4 ^ d ≤ t * 4 ^ d + i) = False from eq_false (by omega), if_false, hk.1, am_bs, hk.2, nm_cl (show t * 4 ^ d + i < 2147483648 by omega), am_ixc (show t * 4 ^ d + i < 64 by omega) (show 64 < 2147483648 by decide), px_bc, w, nI_1, Nat.add_assoc]
        rw [show 64 * (i + 1) = 64 * i + 64 by omega, ps_ct_add, show 64 * (t * 4 ^ d) + 64 * i = 64 * (t * 4 ^ d + i) by omega])
      (fun st k e => by
        subst e
        unfold fX3_countIn_60
        simp only [nI_add, e4, Int32.le_refl, if_true])
      100000 0 (a, nI (64 * (t * 4 ^ d)), nI (64 * 4 ^ d), nI 0, nI (t * 4 ^ d), M) (Nat.zero_le _) (by omega) rfl
    exact L
  · have hn := nz_al (show e ≤ 2 by omega)
    rw [if_neg (by omega)]
    have hb : t * 4 ^ e % 64 + 4 ^ e ≤ 64 := by
      rcases hn with q | q | q <;> rw [q] <;> omega
    have w := ks_part (M.2.1 q (t * 4 ^ e / 64)) hn hb
    have w2 : ps_ct (lg_n (M.2.1 q (t * 4 ^ e / 64))).testBit (t * 4 ^ e % 64) (4 ^ e) = ps_ct f (t * 4 ^ e) (4 ^ e) := ps_ct_cg (fun i hi => by
      rw [ks_bit h (by omega) (by omega)]
      congr 1
      omega)
    simp only [hk.1, am_bs, hk.2, nm_cl (show t * 4 ^ e / 64 < 2147483648 by omega), am_ixc (show t * 4 ^ e / 64 < 64 by omega) (show 64 < 2147483648 by decide), px_bc]
    rw [← w2, ← w]
    rfl
