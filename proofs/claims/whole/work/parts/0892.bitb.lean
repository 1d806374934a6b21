/-! the word's count of bits by its bits -/
theorem ps_ct_add (f : Nat → Bool) (a m : Nat) : ∀ n, ps_ct f a (m + n) = ps_ct f a m + ps_ct f (a + m) n
  | 0 => rfl
  | n + 1 => by
    rw [← Nat.add_assoc, ps_ct, ps_ct, ps_ct_add f a m n, Nat.add_assoc a m n]
    omega
theorem ps_ct_cg {f g : Nat → Bool} {a b : Nat} : ∀ {n : Nat}, (∀ i, i < n → f (a + i) = g (b + i)) → ps_ct f a n = ps_ct g b n
  | 0, _ => rfl
  | n + 1, h => by
    rw [ps_ct, ps_ct, ps_ct_cg (n := n) (fun i hi => h i (by omega)), h n (by omega)]
theorem ps_ct_0 {f : Nat → Bool} {a : Nat} : ∀ {n : Nat}, (∀ i, i < n → f (a + i) = false) → ps_ct f a n = 0
  | 0, _ => rfl
  | n + 1, h => by
    rw [ps_ct, ps_ct_0 (n := n) (fun i hi => h i (by omega)), h n (by omega)]
    rfl
theorem bc_bit (n i : Nat) : (if n.testBit i = true then 1 else 0) = n / 2 ^ i % 2 := by
  rw [Nat.testBit_eq_decide_div_mod_eq]
  by_cases h : n / 2 ^ i % 2 = 1
  · rw [if_pos (by simp [h]), h]
  · rw [if_neg (by simp [h])]; omega
theorem bc_byte (n a : Nat) : ps_ct n.testBit a 8 = bc_p (n / 2 ^ a % 256) := by
  simp only [ps_ct, bc_bit, Nat.add_zero, Nat.zero_add, Nat.pow_add, ← Nat.div_div_eq_div_mul]
  generalize n / 2 ^ a = m
  unfold bc_p
  simp only [Nat.reducePow]
  omega
theorem bc_ct (n : Nat) : ps_ct n.testBit 0 64 = bc_p (n % 256) + bc_p (n / 256 % 256) + bc_p (n / 65536 % 256) + bc_p (n / 16777216 % 256) + bc_p (n / 4294967296 % 256) + bc_p (n / 1099511627776 % 256) + bc_p (n / 281474976710656 % 256) + bc_p (n / 72057594037927936 % 256) := by
  have h0 := bc_byte n 0
  have h1 := bc_byte n 8
  have h2 := bc_byte n 16
  have h3 := bc_byte n 24
  have h4 := bc_byte n 32
  have h5 := bc_byte n 40
  have h6 := bc_byte n 48
  have h7 := bc_byte n 56
  simp only [Nat.reducePow, Nat.div_one] at h0 h1 h2 h3 h4 h5 h6 h7
  rw [← h0, ← h1, ← h2, ← h3, ← h4, ← h5, ← h6, ← h7]
  have a1 := ps_ct_add n.testBit 0 8 56
  have a2 := ps_ct_add n.testBit 8 8 48
  have a3 := ps_ct_add n.testBit 16 8 40
  have a4 := ps_ct_add n.testBit 24 8 32
  have a5 := ps_ct_add n.testBit 32 8 24
  have a6 := ps_ct_add n.testBit 40 8 16
  have a7 := ps_ct_add n.testBit 48 8 8
  simp only [Nat.reduceAdd] at a1 a2 a3 a4 a5 a6 a7
  omega
def lg_n (x : Int64) : Nat := x.toBitVec.toNat
def lg_r (x : Int64) (k : Int32) : Int64 := (x.toUInt64 >>> (k.toInt64.toUInt64 &&& Int64.toUInt64 63)).toInt64
theorem lg_n_lt (x : Int64) : lg_n x < 18446744073709551616 := x.toBitVec.isLt
theorem lg_n_and (x y : Int64) : lg_n (x &&& y) = lg_n x &&& lg_n y := by
  unfold lg_n
  rw [Int64.toBitVec_and, BitVec.toNat_and]
theorem lg_n_add (x y : Int64) : lg_n (x + y) = (lg_n x + lg_n y) % 18446744073709551616 := by
  unfold lg_n
  rw [Int64.toBitVec_add, BitVec.toNat_add]
theorem lg_n_sub (x y : Int64) (h : lg_n y ≤ lg_n x) : lg_n (x - y) = lg_n x - lg_n y := by
  have h1 := lg_n_lt x
  unfold lg_n at *
  rw [Int64.toBitVec_sub, BitVec.toNat_sub]
  omega
theorem lg_n_r (x : Int64) {k : Nat} (hk : k < 64) : lg_n (lg_r x (nI k)) = lg_n x / 2 ^ k := by
  have h : ∀ k : Fin 64, ((nI k.val).toInt64.toUInt64 &&& Int64.toUInt64 63).toNat = k.val := by decide +kernel
  have hk' := h ⟨k, hk⟩
  show (x.toUInt64 >>> ((nI k).toInt64.toUInt64 &&& Int64.toUInt64 63)).toNat = x.toUInt64.toNat / 2 ^ k
  rw [UInt64.toNat_shiftRight, hk', Nat.mod_eq_of_lt hk, Nat.shiftRight_eq_div_pow]
theorem px_bc (x : Int64) (M : am_M) : fJ13_bitCount_95d88 x M = some (nI (ps_ct (lg_n x).testBit 0 64), M) := by
  have hx := lg_n_lt x
  obtain ⟨y1, hy1⟩ : ∃ y, y = x - (lg_r x 1 &&& 6148914691236517205) := ⟨_, rfl⟩
  obtain ⟨y2, hy2⟩ : ∃ y, y = (y1 &&& 3689348814741910323) + (lg_r y1 2 &&& 3689348814741910323) := ⟨_, rfl⟩
  obtain ⟨y3, hy3⟩ : ∃ y, y = (y2 + lg_r y2 4) &&& 1085102592571150095 := ⟨_, rfl⟩
  obtain ⟨y4, hy4⟩ : ∃ y, y = y3 + lg_r y3 8 := ⟨_, rfl⟩
  obtain ⟨y5, hy5⟩ : ∃ y, y = y4 + lg_r y4 16 := ⟨_, rfl⟩
  obtain ⟨y6, hy6⟩ : ∃ y, y = y5 + lg_r y5 32 := ⟨_, rfl⟩
  have e : fJ13_bitCount_95d88 x M = some (y6.toInt32 &&& 127, M) := by
    rw [hy6, hy5, hy4, hy3, hy2, hy1]
    rfl
  have m5 : lg_n 6148914691236517205 = bc_m 85 8 := by decide +kernel
  have m3 : lg_n 3689348814741910323 = bc_m 51 8 := by decide +kernel
  have m0 : lg_n 1085102592571150095 = bc_m 15 8 := by decide +kernel
  have v3 : bc_m 51 8 = 3689348814741910323 := by decide +kernel
  have v6 : bc_m 68 8 = 4919131752989213764 := by decide +kernel
  have n1 : lg_n y1 = bc_1 8 (lg_n x) := by
    have t : lg_n (lg_r x 1 &&& 6148914691236517205) = (lg_n x / 2 &&& bc_m 85 8) := by rw [lg_n_and, nm_1, lg_n_r x (by decide), m5]
    have t2 : (lg_n x / 2 &&& bc_m 85 8) ≤ lg_n x / 2 := Nat.and_le_left
    rw [hy1, lg_n_sub _ _ (by rw [t]; omega), t]
    rfl
  have n2 : lg_n y2 = bc_w 8 (lg_n x) := by
    have t1 : (lg_n y1 &&& bc_m 51 8) ≤ bc_m 51 8 := Nat.and_le_right
    have t2 : (lg_n y1 / 4 &&& bc_m 51 8) ≤ bc_m 51 8 := Nat.and_le_right
    rw [hy2, lg_n_add, lg_n_and, lg_n_and, nm_2, lg_n_r y1 (by decide), m3, show (2 : Nat) ^ 2 = 4 from rfl, Nat.mod_eq_of_lt (by omega), n1]
    rfl
  have n3 : lg_n y3 = bc_s (lg_n x) 8 := by
    have t1 := bc_w_le 8 (lg_n x)
    rw [hy3, lg_n_and, lg_n_add, nm_4, lg_n_r y2 (by decide), n2, m0, show (2 : Nat) ^ 4 = 16 from rfl, Nat.mod_eq_of_lt (by omega)]
    exact bc_all 8 (lg_n x)
  obtain ⟨z1, z2⟩ := bc_end (lg_n x)
  rw [← bc_ct] at z1
  generalize ps_ct (lg_n x).testBit 0 64 = P at *
  generalize bc_s (lg_n x) 8 = B at *
  have n4 : lg_n y4 = B + B / 256 := by
    rw [hy4, lg_n_add, nm_8, lg_n_r y3 (by decide), n3, show (2 : Nat) ^ 8 = 256 from rfl, Nat.mod_eq_of_lt (by omega)]
  have n5 : lg_n y5 = B + B / 256 + (B + B / 256) / 65536 := by
    rw [hy5, lg_n_add, nm_16, lg_n_r y4 (by decide), n4, show (2 : Nat) ^ 16 = 65536 from rfl, Nat.mod_eq_of_lt (by omega)]
  have n6 : lg_n y6 = B + B / 256 + (B + B / 256) / 65536 + (B + B / 256 + (B + B / 256) / 65536) / 4294967296 := by
    rw [hy6, lg_n_add, nm_32, lg_n_r y5 (by decide), n5, show (2 : Nat) ^ 32 = 4294967296 from rfl, Nat.mod_eq_of_lt (by omega)]
  have n7 : y6.toInt32 &&& 127 = nI P := by
    rw [← Int32.toBitVec_inj]
    apply BitVec.eq_of_toNat_eq
    rw [Int32.toBitVec_and, BitVec.toNat_and]
    have u1 : y6.toInt32.toBitVec.toNat = lg_n y6 % 4294967296 := by
      rw [Int64.toBitVec_toInt32, BitVec.signExtend_eq_setWidth_of_le _ (by decide), BitVec.toNat_setWidth]
      rfl
    have u2 : (127 : Int32).toBitVec.toNat = 2 ^ 7 - 1 := rfl
    have hP : P < 128 := by rw [← z1]; exact Nat.mod_lt _ (by decide)
    rw [u1, u2, Nat.and_two_pow_sub_one_eq_mod, n6]
    have u3 : (nI P).toBitVec.toNat = P := by
      show P % 2 ^ 32 = P
      rw [Nat.mod_eq_of_lt (by omega)]
    rw [u3]
    omega
  rw [e, n7]
