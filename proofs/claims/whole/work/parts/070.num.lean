/-! ===== numbers: Int32 by naturals (nI) ===== -/
theorem nm_0 : (0 : Int32) = nI 0 := rfl
theorem nm_1 : (1 : Int32) = nI 1 := rfl
theorem nm_2 : (2 : Int32) = nI 2 := rfl
theorem nm_3 : (3 : Int32) = nI 3 := rfl
theorem nm_4 : (4 : Int32) = nI 4 := rfl
theorem nm_5 : (5 : Int32) = nI 5 := rfl
theorem nm_6 : (6 : Int32) = nI 6 := rfl
theorem nm_7 : (7 : Int32) = nI 7 := rfl
theorem nm_8 : (8 : Int32) = nI 8 := rfl
theorem nm_9 : (9 : Int32) = nI 9 := rfl
theorem nm_10 : (10 : Int32) = nI 10 := rfl
theorem nm_11 : (11 : Int32) = nI 11 := rfl
theorem nm_12 : (12 : Int32) = nI 12 := rfl
theorem nm_13 : (13 : Int32) = nI 13 := rfl
theorem nm_14 : (14 : Int32) = nI 14 := rfl
theorem nm_15 : (15 : Int32) = nI 15 := rfl
theorem nm_16 : (16 : Int32) = nI 16 := rfl
theorem nm_17 : (17 : Int32) = nI 17 := rfl
theorem nm_18 : (18 : Int32) = nI 18 := rfl
theorem nm_19 : (19 : Int32) = nI 19 := rfl
theorem nm_20 : (20 : Int32) = nI 20 := rfl
theorem nm_21 : (21 : Int32) = nI 21 := rfl
theorem nm_22 : (22 : Int32) = nI 22 := rfl
theorem nm_23 : (23 : Int32) = nI 23 := rfl
theorem nm_24 : (24 : Int32) = nI 24 := rfl
theorem nm_25 : (25 : Int32) = nI 25 := rfl
theorem nm_26 : (26 : Int32) = nI 26 := rfl
theorem nm_27 : (27 : Int32) = nI 27 := rfl
theorem nm_28 : (28 : Int32) = nI 28 := rfl
theorem nm_29 : (29 : Int32) = nI 29 := rfl
theorem nm_30 : (30 : Int32) = nI 30 := rfl
theorem nm_31 : (31 : Int32) = nI 31 := rfl
theorem nm_32 : (32 : Int32) = nI 32 := rfl
theorem nm_33 : (33 : Int32) = nI 33 := rfl
theorem nm_34 : (34 : Int32) = nI 34 := rfl
theorem nm_35 : (35 : Int32) = nI 35 := rfl
theorem nm_36 : (36 : Int32) = nI 36 := rfl
theorem nm_37 : (37 : Int32) = nI 37 := rfl
theorem nm_38 : (38 : Int32) = nI 38 := rfl
theorem nm_39 : (39 : Int32) = nI 39 := rfl
theorem nm_40 : (40 : Int32) = nI 40 := rfl
theorem nm_41 : (41 : Int32) = nI 41 := rfl
theorem nm_42 : (42 : Int32) = nI 42 := rfl
theorem nm_43 : (43 : Int32) = nI 43 := rfl
theorem nm_44 : (44 : Int32) = nI 44 := rfl
theorem nm_45 : (45 : Int32) = nI 45 := rfl
theorem nm_46 : (46 : Int32) = nI 46 := rfl
theorem nm_47 : (47 : Int32) = nI 47 := rfl
theorem nm_48 : (48 : Int32) = nI 48 := rfl
theorem nm_57 : (57 : Int32) = nI 57 := rfl
theorem nm_59 : (59 : Int32) = nI 59 := rfl
theorem nm_63 : (63 : Int32) = nI 63 := rfl
theorem nm_64 : (64 : Int32) = nI 64 := rfl
theorem nm_68 : (68 : Int32) = nI 68 := rfl
theorem nm_91 : (91 : Int32) = nI 91 := rfl
theorem nm_98 : (98 : Int32) = nI 98 := rfl
theorem nm_99 : (99 : Int32) = nI 99 := rfl
theorem nm_100 : (100 : Int32) = nI 100 := rfl
theorem nm_112 : (112 : Int32) = nI 112 := rfl
theorem nm_119 : (119 : Int32) = nI 119 := rfl
theorem nm_126 : (126 : Int32) = nI 126 := rfl
theorem nm_127 : (127 : Int32) = nI 127 := rfl
theorem nm_200 : (200 : Int32) = nI 200 := rfl
theorem nm_4096 : (4096 : Int32) = nI 4096 := rfl
theorem nm_65536 : (65536 : Int32) = nI 65536 := rfl
theorem nm_100000 : (100000 : Int32) = nI 100000 := rfl
theorem nm_1000000 : (1000000 : Int32) = nI 1000000 := rfl
theorem nm_lt {a b : Nat} (ha : a < 2147483648) (hb : b < 2147483648) : (nI a < nI b) = (a < b) := propext (nI_ltI ha hb)
theorem nm_le {a b : Nat} (ha : a < 2147483648) (hb : b < 2147483648) : (nI a ≤ nI b) = (a ≤ b) := propext (nI_leI ha hb)
theorem nm_eq {a b : Nat} (ha : a < 2147483648) (hb : b < 2147483648) : (nI a = nI b) = (a = b) := propext (nI_eq ha hb)
theorem nm_cl {a : Nat} (ha : a < 2147483648) : (nI a).toNatClampNeg = a := nI_clamp ha
theorem nm_sub {a b : Nat} (h : b ≤ a) : nI a - nI b = nI (a - b) := pk_sub h
theorem nm_m1 {a : Nat} (h : 1 ≤ a) : nI a + (-1) = nI (a - 1) := by
  obtain ⟨b, rfl⟩ : ∃ b, a = b + 1 := ⟨a - 1, by omega⟩
  rw [pk_m1]; rfl
theorem nm_div {a d : Nat} (ha : a < 2147483648) (h0 : 0 < d) (hd : d < 2147483648) : nI a / nI d = nI (a / d) := pk_div ha h0 hd
theorem nm_rem {a d : Nat} (ha : a < 2147483648) (h0 : 0 < d) (hd : d < 2147483648) : nI a - nI a / nI d * nI d = nI (a % d) := pk_rem ha h0 hd
theorem nm_a31 {k : Nat} (hk : k < 32) : nI k &&& nI 31 = nI k := by
  have h := pk_andN (n := k) (by omega) (m := nI 31) 5 rfl
  rw [h, Nat.mod_eq_of_lt hk]
theorem nm_sh32 {k : Nat} (hk : k < 32) : ((nI k).toBitVec.smod 32).toNat = k := by
  have h : ∀ k : Fin 32, ((nI k.val).toBitVec.smod 32).toNat = k.val := by decide
  exact h ⟨k, hk⟩
theorem nm_shl {a k : Nat} (hk : k < 31) (h : a * 2 ^ k < 4294967296) : nI a <<< (nI k &&& nI 31) = nI (a * 2 ^ k) := by
  rw [nm_a31 (by omega)]
  exact pk_shlN (nI k) k (nm_sh32 (by omega)) h
theorem nm_shl1 {k : Nat} (hk : k < 31) : nI 1 <<< (nI k &&& nI 31) = nI (2 ^ k) := by
  have h2 : 2 ^ k < 2 ^ 31 := Nat.pow_lt_pow_right (by decide) hk
  rw [nm_shl hk (by omega), Nat.one_mul]
theorem nm_shr {a k : Nat} (ha : a < 2147483648) (hk : k < 31) : nI a >>> (nI k &&& nI 31) = nI (a / 2 ^ k) := by
  rw [nm_a31 (by omega)]
  exact pk_shrN ha (nI k) k (nm_sh32 (by omega))
theorem nm_and3 {a : Nat} (h : a < 4294967296) : nI a &&& nI 3 = nI (a % 4) := pk_andN h (m := nI 3) 2 rfl
theorem nm_and1 {a : Nat} (h : a < 4294967296) : nI a &&& nI 1 = nI (a % 2) := pk_andN h (m := nI 1) 1 rfl
theorem nm_and1_0 : nI 0 &&& nI 1 = nI 0 := rfl
theorem nm_and1_1 : nI 1 &&& nI 1 = nI 1 := rfl
theorem nm_p0 : (2 : Nat) ^ 0 = 1 := rfl
/-- a loop that counts: its turns and its end -/
theorem am_loop_run {σ β : Type} {f : (σ → Option β) → σ → Option β} (en : Nat → σ) (r : Option β) (n : Nat) (hs : ∀ (i : Nat) (k : σ → Option β), i < n → f k (en i) = k (en (i + 1))) (he : ∀ k : σ → Option β, f k (en n) = r) : ∀ (N i : Nat), i ≤ n → n - i < N → am_loop f N (en i) = r
  | 0, i, _, h => absurd h (Nat.not_lt_zero _)
  | N + 1, i, hi, h => by
    rcases Nat.lt_or_ge i n with q | q
    · show f (am_loop f N) (en i) = r
      rw [hs i _ q]
      exact am_loop_run en r n hs he N (i + 1) q (by omega)
    · have e : i = n := by omega
      subst e
      exact he _
theorem am_loop_s {σ β : Type} (f : (σ → Option β) → σ → Option β) (n : Nat) (s : σ) : am_loop f (n + 1) s = f (am_loop f n) s := rfl
theorem am_fuel {σ β : Type} (f : (σ → Option β) → σ → Option β) (s : σ) : am_loop f 100000 s = am_loop f (99999 + 1) s := rfl
