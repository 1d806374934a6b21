/-! ===== the key sets of the class ===== -/
/-- M1 differs in the row of longs q alone -/
def am_fj (q : Nat) (M M1 : am_M) : Prop := M1.1 = M.1 ∧ M1.2.2 = M.2.2 ∧ ∀ k, k ≠ q → M1.2.1 k = M.2.1 k
theorem am_fj.rf (q : Nat) (M : am_M) : am_fj q M M := ⟨rfl, rfl, fun _ _ => rfl⟩
theorem am_fj.tr {q : Nat} {M M1 M2 : am_M} (h : am_fj q M M1) (h' : am_fj q M1 M2) : am_fj q M M2 := ⟨h'.1.trans h.1, h'.2.1.trans h.2.1, fun k hk => (h'.2.2 k hk).trans (h.2.2 k hk)⟩
theorem am_fj.pJ {q : Nat} {M M1 : am_M} (h : am_fj q M M1) (j : Nat) (x : Int64) : am_fj q M (am_pJ M1 q j x) := ⟨h.1, h.2.1, fun k hk => (am_up_ne _ _ _ hk).trans (h.2.2 k hk)⟩
/-- a key set at a, its row at q -/
def ps_kq (M : am_M) (a q : Nat) : Prop := M.2.2.1 a 0 = some q ∧ am_len M q = 64
theorem ps_kq.fj {M M1 : am_M} {a q p : Nat} (h : ps_kq M a q) (f : am_fj p M M1) : ps_kq M1 a q := by
  obtain ⟨-, f2, -⟩ := f
  unfold ps_kq am_len
  rw [f2]
  exact h
theorem lg_z (y : Int64) : (lg_cmp y 0 = 0) = (lg_n y = 0) := by
  apply propext
  unfold lg_cmp
  have hz : lg_n y = 0 → y = 0 := fun e => Int64.toBitVec_inj.mp (BitVec.eq_of_toNat_eq e)
  by_cases h : y > 0
  · rw [if_pos h]
    refine ⟨fun e => absurd e (by decide), fun e => ?_⟩
    rw [hz e] at h
    exact absurd h (by decide)
  · rw [if_neg h]
    by_cases h0 : y = 0
    · rw [if_pos h0]; subst h0; exact ⟨fun _ => rfl, fun _ => rfl⟩
    · rw [if_neg h0]
      exact ⟨fun e => absurd e (by decide), fun e => absurd (hz e) h0⟩
theorem ks_bit {M : am_M} {q : Nat} {f : Nat → Bool} (h : ps_ks M q f) {w i : Nat} (hw : w < 64) (hi : i < 64) : (lg_n (M.2.1 q w)).testBit i = f (64 * w + i) := by
  have e := h (64 * w + i) (by omega)
  rw [show (64 * w + i) / 64 = w by omega, show (64 * w + i) % 64 = i by omega] at e
  exact e
theorem ks_has {M : am_M} {a q : Nat} {f : Nat → Bool} (hk : ps_kq M a q) (h : ps_ks M q f) {k : Nat} (hlt : k < 4096) : fX3_has a (nI k) M = some (if f k = true then 1 else 0, M) := by
  have e1 : nI k / 64 = nI (k / 64) := nm_div (d := 64) (by omega) (by decide) (by decide)
  have e2 : nI k - nI (k / 64) * 64 = nI (k % 64) := by rw [← e1]; exact nm_rem (d := 64) (by omega) (by decide) (by decide)
  have e3 : ((4096 : Int32) ≤ nI k) = False := by rw [nm_4096, nm_le (by decide) (by omega)]; exact eq_false (by omega)
  have hb := ks_bit h (w := k / 64) (i := k % 64) (by omega) (by omega)
  rw [show 64 * (k / 64) + k % 64 = k by omega] at hb
  have hc := bc_bit (lg_n (M.2.1 q (k / 64))) (k % 64)
  have hd : lg_n (lg_r (M.2.1 q (k / 64)) (nI (k % 64)) &&& 1) = lg_n (M.2.1 q (k / 64)) / 2 ^ (k % 64) % 2 := by
    rw [lg_n_and, lg_n_r _ (by omega), show lg_n 1 = 1 from rfl, Nat.and_one_is_mod]
  unfold fX3_has
  simp only [e1, e2, e3, nz_lt0 (show k < 2147483648 by omega), if_false, hk.1, am_bs, hk.2, nm_cl (show k / 64 < 2147483648 by omega), am_ixc (show k / 64 < 64 by omega) (show 64 < 2147483648 by decide)]
  show (if lg_cmp (lg_r (M.2.1 q (k / 64)) (nI (k % 64)) &&& 1) 0 = 0 then some ((0 : Int32), M) else some (1, M)) = _
  simp only [lg_z, hd, ← hc, hb]
  cases f k <;> rfl
theorem ks_has_m {M : am_M} {a : Nat} {k : Int32} (h : k < 0 ∨ 4096 ≤ k) : fX3_has a k M = some (0, M) := by
  unfold fX3_has
  by_cases h1 : k < 0
  · rw [if_pos h1]
  · rcases h with h | h
    · exact absurd h h1
    · rw [if_neg h1, if_pos h]
theorem ks_clear {M : am_M} {a q : Nat} (hk : ps_kq M a q) : ∃ T, fX3_clear a M = some T ∧ am_fj q M T ∧ ps_ks T q (fun _ => false) := by
  have L := am_loop_inv (f := fJ7_fill_d0a16_6) (fun i st => ∃ T, st = (q, (0 : Int64), nI i, nI 64, T) ∧ am_fj q M T ∧ ∀ j, j < i → T.2.1 q j = 0) (fun r => ∃ T, r = some T ∧ am_fj q M T ∧ ∀ j, j < 64 → T.2.1 q j = 0) 64
    (fun i st k hi ⟨T, e, h1, h2⟩ => by
      subst e
      refine Or.inl ⟨_, ⟨am_pJ T q i 0, rfl, h1.pJ i 0, fun j hj => ?_⟩, ?_⟩
      · show am_up T.2.1 q i 0 q j = 0
        unfold am_up
        by_cases e : j = i
        · rw [if_pos ⟨rfl, e⟩]
        · rw [if_neg (fun c => e c.2)]; exact h2 j (by omega)
      · have hl : am_len T q = 64 := (hk.fj h1).2
        unfold fJ7_fill_d0a16_6
        simp only [nm_le (show 64 < 2147483648 by decide) (show i < 2147483648 by omega), show (64 ≤ i) = False from eq_false (by omega), if_false, hl, nm_cl (show i < 2147483648 by omega), nz_lt0 (show i < 2147483648 by omega), or_self, if_false, nI_1])
    (fun st k ⟨T, e, h1, h2⟩ => by
      subst e
      refine ⟨T, ?_, h1, h2⟩
      unfold fJ7_fill_d0a16_6
      simp only [Int32.le_refl, if_true])
    100000 0 (q, 0, nI 0, nI 64, M) (by decide) (by decide) ⟨M, rfl, am_fj.rf q M, fun j hj => absurd hj (Nat.not_lt_zero j)⟩
  obtain ⟨T, e, h1, h2⟩ := L
  refine ⟨T, ?_, h1, fun k hlt => ?_⟩
  · unfold fX3_clear fJ7_fill_d0a16
    simp only [hk.1, hk.2, am_bs]
    rw [show am_loop fJ7_fill_d0a16_6 100000 (q, 0, 0, Int32.ofNat 64, M) = some T from e]
    rfl
  · rw [h2 _ (by omega)]
    exact BitVec.getLsbD_zero
theorem ks_one : ∀ b i : Fin 64, ((1 : Int64) <<< ((nI b.val).toInt64 &&& 63)).toBitVec.getLsbD i.val = decide (i.val = b.val) := by decide +kernel
theorem ks_add {M : am_M} {a q : Nat} {f : Nat → Bool} (hk : ps_kq M a q) (h : ps_ks M q f) {k : Nat} (hlt : k < 4096) : ∃ T, fX3_add a (nI k) M = some T ∧ am_fj q M T ∧ ps_ks T q (fun j => f j || decide (j = k)) := by
  have e1 : nI k / 64 = nI (k / 64) := nm_div (d := 64) (by omega) (by decide) (by decide)
  have e2 : nI k - nI (k / 64) * 64 = nI (k % 64) := by rw [← e1]; exact nm_rem (d := 64) (by omega) (by decide) (by decide)
  have e3 : ((4096 : Int32) ≤ nI k) = False := by rw [nm_4096, nm_le (by decide) (by omega)]; exact eq_false (by omega)
  refine ⟨am_pJ M q (k / 64) (M.2.1 q (k / 64) ||| ((1 : Int64) <<< ((nI (k % 64)).toInt64 &&& 63))), ?_, (am_fj.rf q M).pJ _ _, fun j hj => ?_⟩
  · unfold fX3_add
    simp only [e1, e2, e3, nz_lt0 (show k < 2147483648 by omega), if_false, hk.1, am_bs, hk.2, nm_cl (show k / 64 < 2147483648 by omega), am_ixc (show k / 64 < 64 by omega) (show 64 < 2147483648 by decide)]
  · show (am_up M.2.1 q (k / 64) _ q (j / 64)).toBitVec.getLsbD (j % 64) = _
    unfold am_up
    by_cases e : j / 64 = k / 64
    · rw [if_pos ⟨rfl, e⟩, Int64.toBitVec_or, BitVec.getLsbD_or, ← e, h j hj, ks_one ⟨k % 64, Nat.mod_lt _ (by decide)⟩ ⟨j % 64, Nat.mod_lt _ (by decide)⟩]
      congr 1
      apply decide_eq_decide.mpr
      show j % 64 = k % 64 ↔ j = k
      omega
    · show _ = (f j || decide (j = k))
      rw [if_neg (fun c => e c.2), h j hj, show decide (j = k) = false from decide_eq_false (fun c => e (by rw [c])), Bool.or_false]
theorem ps_ks.cg {M : am_M} {q : Nat} {f g : Nat → Bool} (h : ps_ks M q f) (e : ∀ k, k < 4096 → f k = g k) : ps_ks M q g := fun k hk => (h k hk).trans (e k hk)
theorem ks_addAll {M : am_M} {a q : Nat} {f : Nat → Bool} (hk : ps_kq M a q) (h : ps_ks M q f) {b n : Nat} (hlt : b + n ≤ 4096) : ∃ T, fX3_addAll a (nI b) (nI n) M = some T ∧ am_fj q M T ∧ ps_ks T q (fun j => f j || decide (b ≤ j ∧ j < b + n)) := by
  have L := am_loop_inv (f := fX3_addAll_2) (fun i st => ∃ T, st = (a, nI b, nI n, nI (b + i), T) ∧ am_fj q M T ∧ ps_ks T q (fun j => f j || decide (b ≤ j ∧ j < b + i))) (fun r => ∃ T, r = some T ∧ am_fj q M T ∧ ps_ks T q (fun j => f j || decide (b ≤ j ∧ j < b + n))) n
    (fun i st k hi ⟨T, e, h1, h2⟩ => by
      subst e
      obtain ⟨T2, t1, t2, t3⟩ := ks_add (hk.fj h1) h2 (k := b + i) (by omega)
      refine Or.inl ⟨_, ⟨T2, rfl, h1.tr t2, t3.cg (fun j hj => ?_)⟩, ?_⟩
      · show (f j || decide (b ≤ j ∧ j < b + i) || decide (j = b + i)) = (f j || decide (b ≤ j ∧ j < b + (i + 1)))
        rw [Bool.or_assoc, ← Bool.decide_or]
        congr 1
        apply decide_eq_decide.mpr
        omega
      · unfold fX3_addAll_2
        simp only [nI_add, nm_le (show b + n < 2147483648 by omega) (show b + i < 2147483648 by omega), show (b + n ≤ b + i) = False from eq_false (by omega), if_false, t1, am_bs, nI_1, Nat.add_assoc])
    (fun st k ⟨T, e, h1, h2⟩ => by
      subst e
      refine ⟨T, ?_, h1, h2⟩
      unfold fX3_addAll_2
      simp only [nI_add, Int32.le_refl, if_true])
    100000 0 (a, nI b, nI n, nI (b + 0), M) (Nat.zero_le _) (by omega) ⟨M, rfl, am_fj.rf q M, h.cg (fun j _ => by rw [show decide (b ≤ j ∧ j < b + 0) = false from decide_eq_false (by omega), Bool.or_false])⟩
  exact L
