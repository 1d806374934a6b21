/-! counting the bits of a word -/
def bc_m (b : Nat) : Nat → Nat
  | 0 => 0
  | k + 1 => b + 256 * bc_m b k
def bc_p (n : Nat) : Nat := n % 2 + n / 2 % 2 + n / 4 % 2 + n / 8 % 2 + n / 16 % 2 + n / 32 % 2 + n / 64 % 2 + n / 128 % 2
def bc_s (n : Nat) : Nat → Nat
  | 0 => 0
  | k + 1 => bc_p (n % 256) + 256 * bc_s (n / 256) k
theorem bc_and {c : Nat} (hc : c < 256) (n d : Nat) : n &&& (c + 256 * d) = (n % 256 &&& c) + 256 * (n / 256 &&& d) := by
  have h1 := Nat.and_mod_two_pow (a := n) (b := c + 256 * d) (n := 8)
  have h2 := Nat.and_div_two_pow (a := n) (b := c + 256 * d) (n := 8)
  rw [show (2 : Nat) ^ 8 = 256 from rfl] at h1 h2
  rw [show (c + 256 * d) % 256 = c by omega] at h1
  rw [show (c + 256 * d) / 256 = d by omega] at h2
  rw [← h1, ← h2]
  exact (Nat.mod_add_div _ 256).symm
def bc_1 (k n : Nat) : Nat := n - (n / 2 &&& bc_m 85 k)
def bc_2 (k n : Nat) : Nat := (n &&& bc_m 51 k) + (n / 4 &&& bc_m 51 k)
def bc_3 (k n : Nat) : Nat := (n + n / 16) &&& bc_m 15 k
def bc_h1 (b : Nat) : Nat := b - (b / 2 &&& 85)
def bc_h2 (b : Nat) : Nat := (b &&& 51) + (b / 4 &&& 51)
theorem bc_d1 : ∀ m : Fin 512, (m.val / 2 % 256 &&& 85) = (m.val % 256 / 2 &&& 85) := by decide +kernel
theorem bc_d2 : ∀ m : Fin 1024, (m.val / 4 % 256 &&& 51) = (m.val % 256 / 4 &&& 51) := by decide +kernel
theorem bc_d3 : ∀ b : Fin 256, bc_h1 b.val < 256 ∧ bc_h2 (bc_h1 b.val) ≤ 68 ∧ bc_h2 (bc_h1 b.val) % 16 ≤ 4 ∧ bc_h2 (bc_h1 b.val) % 16 + bc_h2 (bc_h1 b.val) / 16 = bc_p b.val ∧ (b.val / 2 &&& 85) ≤ b.val ∧ bc_p b.val ≤ 8 := by decide +kernel
theorem bc_d4 : ∀ b : Fin 256, (b.val &&& 15) = b.val % 16 := by decide +kernel
theorem bc_1_s (k n : Nat) : bc_1 (k + 1) n = bc_h1 (n % 256) + 256 * bc_1 k (n / 256) := by
  unfold bc_1 bc_h1
  rw [bc_m, bc_and (by decide)]
  have e1 : (n / 2 % 256 &&& 85) = (n % 256 / 2 &&& 85) := by
    have h := bc_d1 ⟨n % 512, Nat.mod_lt _ (by decide)⟩
    simp only at h
    rw [show n % 512 / 2 % 256 = n / 2 % 256 by omega, show n % 512 % 256 = n % 256 by omega] at h
    exact h
  rw [e1, show n / 2 / 256 = n / 256 / 2 by omega]
  have h1 := (bc_d3 ⟨n % 256, Nat.mod_lt _ (by decide)⟩).2.2.2.2.1
  simp only at h1
  have h2 : (n / 256 / 2 &&& bc_m 85 k) ≤ n / 256 / 2 := Nat.and_le_left
  omega
theorem bc_2_s (k a m : Nat) (ha : a < 256) : bc_2 (k + 1) (a + 256 * m) = bc_h2 a + 256 * bc_2 k m := by
  unfold bc_2 bc_h2
  rw [bc_m, bc_and (by decide), bc_and (by decide)]
  have e1 : ((a + 256 * m) / 4 % 256 &&& 51) = (a / 4 &&& 51) := by
    have h := bc_d2 ⟨(a + 256 * m) % 1024, Nat.mod_lt _ (by decide)⟩
    simp only at h
    rw [show (a + 256 * m) % 1024 / 4 % 256 = (a + 256 * m) / 4 % 256 by omega, show (a + 256 * m) % 1024 % 256 = a by omega] at h
    exact h
  rw [e1, show (a + 256 * m) % 256 = a by omega, show (a + 256 * m) / 256 = m by omega, show (a + 256 * m) / 4 / 256 = m / 4 by omega]
  omega
def bc_w (k n : Nat) : Nat := bc_2 k (bc_1 k n)
theorem bc_w_s (k n : Nat) : bc_w (k + 1) n = bc_h2 (bc_h1 (n % 256)) + 256 * bc_w k (n / 256) := by
  unfold bc_w
  rw [bc_1_s]
  exact bc_2_s k _ _ (bc_d3 ⟨n % 256, Nat.mod_lt _ (by decide)⟩).1
theorem bc_w_0 (n : Nat) : bc_w 0 n = 0 := by
  unfold bc_w bc_2
  rw [bc_m, Nat.and_zero, Nat.and_zero]
theorem bc_w_16 : ∀ k n, bc_w k n % 16 ≤ 4
  | 0, n => by rw [bc_w_0]; decide
  | k + 1, n => by
    have h := (bc_d3 ⟨n % 256, Nat.mod_lt _ (by decide)⟩).2.2.1
    simp only at h
    rw [bc_w_s]
    omega
theorem bc_w_le : ∀ k n, bc_w k n ≤ bc_m 68 k
  | 0, n => by rw [bc_w_0]; exact Nat.zero_le _
  | k + 1, n => by
    have h := (bc_d3 ⟨n % 256, Nat.mod_lt _ (by decide)⟩).2.1
    simp only at h
    have h2 := bc_w_le k (n / 256)
    rw [bc_w_s, bc_m]
    omega
theorem bc_all : ∀ k n, bc_3 k (bc_w k n) = bc_s n k
  | 0, n => by
    unfold bc_3
    rw [bc_m, Nat.and_zero]
    rfl
  | k + 1, n => by
    obtain ⟨-, h1, h2, h3, -, h5⟩ := bc_d3 ⟨n % 256, Nat.mod_lt _ (by decide)⟩
    simp only at h1 h2 h3 h5
    have h4 := bc_w_16 k (n / 256)
    rw [bc_s, ← bc_all k (n / 256), bc_w_s]
    unfold bc_3
    rw [bc_m, bc_and (by decide)]
    generalize bc_w k (n / 256) = m at *
    generalize bc_h2 (bc_h1 (n % 256)) = a at *
    rw [show (a + 256 * m + (a + 256 * m) / 16) / 256 = m + m / 16 by omega]
    have e := bc_d4 ⟨(a + 256 * m + (a + 256 * m) / 16) % 256, Nat.mod_lt _ (by decide)⟩
    simp only at e
    rw [e, ← h3]
    omega
theorem bc_p_le (n : Nat) : bc_p n ≤ 8 := by unfold bc_p; omega
/-- the last steps -/
theorem bc_end (n : Nat) : (bc_s n 8 + bc_s n 8 / 256 + (bc_s n 8 + bc_s n 8 / 256) / 65536 + (bc_s n 8 + bc_s n 8 / 256 + (bc_s n 8 + bc_s n 8 / 256) / 65536) / 4294967296) % 128 = bc_p (n % 256) + bc_p (n / 256 % 256) + bc_p (n / 65536 % 256) + bc_p (n / 16777216 % 256) + bc_p (n / 4294967296 % 256) + bc_p (n / 1099511627776 % 256) + bc_p (n / 281474976710656 % 256) + bc_p (n / 72057594037927936 % 256) ∧ bc_s n 8 < 651345242494996481 := by
  have e : bc_s n 8 = bc_p (n % 256) + 256 * bc_p (n / 256 % 256) + 65536 * bc_p (n / 65536 % 256) + 16777216 * bc_p (n / 16777216 % 256) + 4294967296 * bc_p (n / 4294967296 % 256) + 1099511627776 * bc_p (n / 1099511627776 % 256) + 281474976710656 * bc_p (n / 281474976710656 % 256) + 72057594037927936 * bc_p (n / 72057594037927936 % 256) := by
    simp only [bc_s, Nat.div_div_eq_div_mul, Nat.reduceMul]
    generalize bc_p (n % 256) = c0
    generalize bc_p (n / 256 % 256) = c1
    generalize bc_p (n / 65536 % 256) = c2
    generalize bc_p (n / 16777216 % 256) = c3
    generalize bc_p (n / 4294967296 % 256) = c4
    generalize bc_p (n / 1099511627776 % 256) = c5
    generalize bc_p (n / 281474976710656 % 256) = c6
    generalize bc_p (n / 72057594037927936 % 256) = c7
    omega
  have b0 := bc_p_le (n % 256)
  have b1 := bc_p_le (n / 256 % 256)
  have b2 := bc_p_le (n / 65536 % 256)
  have b3 := bc_p_le (n / 16777216 % 256)
  have b4 := bc_p_le (n / 4294967296 % 256)
  have b5 := bc_p_le (n / 1099511627776 % 256)
  have b6 := bc_p_le (n / 281474976710656 % 256)
  have b7 := bc_p_le (n / 72057594037927936 % 256)
  rw [e]
  clear e
  generalize bc_p (n % 256) = c0 at *
  generalize bc_p (n / 256 % 256) = c1 at *
  generalize bc_p (n / 65536 % 256) = c2 at *
  generalize bc_p (n / 16777216 % 256) = c3 at *
  generalize bc_p (n / 4294967296 % 256) = c4 at *
  generalize bc_p (n / 1099511627776 % 256) = c5 at *
  generalize bc_p (n / 281474976710656 % 256) = c6 at *
  generalize bc_p (n / 72057594037927936 % 256) = c7 at *
  have hdv : ∀ (z r x m : Nat), 0 < m → z = r + m * x → r < m → z / m = x := fun z r x m hm h1 h2 => by
    rw [h1, Nat.add_mul_div_left r x hm, Nat.div_eq_of_lt h2, Nat.zero_add]
  have q1 := hdv (c0 + 256 * c1 + 65536 * c2 + 16777216 * c3 + 4294967296 * c4 + 1099511627776 * c5 + 281474976710656 * c6 + 72057594037927936 * c7) c0 (c1 + 256 * c2 + 65536 * c3 + 16777216 * c4 + 4294967296 * c5 + 1099511627776 * c6 + 281474976710656 * c7) 256 (by decide) (by omega) (by omega)
  rw [q1]
  have q2 := hdv (c0 + 256 * c1 + 65536 * c2 + 16777216 * c3 + 4294967296 * c4 + 1099511627776 * c5 + 281474976710656 * c6 + 72057594037927936 * c7 + (c1 + 256 * c2 + 65536 * c3 + 16777216 * c4 + 4294967296 * c5 + 1099511627776 * c6 + 281474976710656 * c7)) (c0 + c1 + 256 * (c1 + c2)) ((c2 + c3) + 256 * (c3 + c4) + 65536 * (c4 + c5) + 16777216 * (c5 + c6) + 4294967296 * (c6 + c7) + 1099511627776 * c7) 65536 (by decide) (by omega) (by omega)
  rw [q2]
  have q3 := hdv (c0 + 256 * c1 + 65536 * c2 + 16777216 * c3 + 4294967296 * c4 + 1099511627776 * c5 + 281474976710656 * c6 + 72057594037927936 * c7 + (c1 + 256 * c2 + 65536 * c3 + 16777216 * c4 + 4294967296 * c5 + 1099511627776 * c6 + 281474976710656 * c7) + ((c2 + c3) + 256 * (c3 + c4) + 65536 * (c4 + c5) + 16777216 * (c5 + c6) + 4294967296 * (c6 + c7) + 1099511627776 * c7)) ((c0 + c1 + c2 + c3) + 256 * (c1 + c2 + c3 + c4) + 65536 * (c2 + c3 + c4 + c5) + 16777216 * (c3 + c4 + c5 + c6)) ((c4 + c5 + c6 + c7) + 256 * (c5 + c6 + c7) + 65536 * (c6 + c7) + 16777216 * c7) 4294967296 (by decide) (by omega) (by omega)
  rw [q3]
  clear q1 q2 q3
  have hS : c0 + c1 + c2 + c3 + c4 + c5 + c6 + c7 < 128 := by omega
  constructor
  · have q4 : ∃ T, c0 + 256 * c1 + 65536 * c2 + 16777216 * c3 + 4294967296 * c4 + 1099511627776 * c5 + 281474976710656 * c6 + 72057594037927936 * c7 + (c1 + 256 * c2 + 65536 * c3 + 16777216 * c4 + 4294967296 * c5 + 1099511627776 * c6 + 281474976710656 * c7) + ((c2 + c3) + 256 * (c3 + c4) + 65536 * (c4 + c5) + 16777216 * (c5 + c6) + 4294967296 * (c6 + c7) + 1099511627776 * c7) + ((c4 + c5 + c6 + c7) + 256 * (c5 + c6 + c7) + 65536 * (c6 + c7) + 16777216 * c7) = (c0 + c1 + c2 + c3 + c4 + c5 + c6 + c7) + 128 * T := ⟨2 * (c1 + c2 + c3 + c4 + c5 + c6 + c7) + 512 * (c2 + c3 + c4 + c5 + c6 + c7) + 131072 * (c3 + c4 + c5 + c6 + c7) + 33554432 * (c4 + c5 + c6 + c7) + 8589934592 * (c5 + c6 + c7) + 2199023255552 * (c6 + c7) + 562949953421312 * c7, by omega⟩
    obtain ⟨T, hT⟩ := q4
    rw [hT, Nat.add_mul_mod_self_left, Nat.mod_eq_of_lt hS]
  · omega
