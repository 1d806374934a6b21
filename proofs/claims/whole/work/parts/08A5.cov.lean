/-! ===== tiles of a cover ===== -/
theorem nz_and {k e : Nat} (hk : k < 4294967296) (he : e ≤ 6) : nI k &&& (nI (4 ^ e) - 1) = nI (k % 4 ^ e) := by
  have hm : ∀ e : Fin 7, (nI (4 ^ e.val) - 1).toBitVec.toNat = 2 ^ (2 * e.val) - 1 := by decide
  have h := pk_andN (n := k) hk (m := nI (4 ^ e) - 1) (2 * e) (hm ⟨e, by omega⟩)
  rw [Nat.pow_mul] at h
  exact h
abbrev cw_P (s : ps_S) (f : Nat → Bool) (k l : Nat) : Prop := k % ps_sz s l = 0 ∧ ps_ct f k (ps_sz s l) = ps_sz s l
def cw_w (s : ps_S) (f : Nat → Bool) (k : Nat) : Nat → Nat → Nat
  | 0, l => l
  | n + 1, l => if cw_P s f k l then l else cw_w s f k n (l + 1)
theorem cw_w_ok {s : ps_S} {f : Nat → Bool} {k : Nat} : ∀ (n l : Nat), cw_P s f k (l + n) → l ≤ cw_w s f k n l ∧ cw_w s f k n l ≤ l + n ∧ cw_P s f k (cw_w s f k n l)
  | 0, l, h => ⟨Nat.le_refl l, Nat.le_refl l, h⟩
  | n + 1, l, h => by
    rw [cw_w]
    by_cases c : cw_P s f k l
    · rw [if_pos c]; exact ⟨Nat.le_refl l, by omega, c⟩
    · rw [if_neg c]
      have e : l + (n + 1) = l + 1 + n := by omega
      rw [e] at h ⊢
      obtain ⟨h1, h2, h3⟩ := cw_w_ok n (l + 1) h
      exact ⟨by omega, h2, h3⟩
theorem cw_P_f {s : ps_S} {f : Nat → Bool} {k l : Nat} (h : cw_P s f k l) : f k = true := by
  have hz : 0 < ps_sz s l := Nat.pow_pos (by decide)
  have := ps_ct_full h.2 0 hz
  exact this
theorem nz_n4 {a : Nat} (h : a < 2147483648) : (nI a = (-4 : Int32)) = False := rn_n4 h
/-- the class's look for the widest tile -/
theorem px_wid {s : ps_S} {pl : Nat} {M : am_M} (ho : ps_ok s) (hX : ps_X s pl M) {a q : Nat} {f : Nat → Bool} (hk : ps_kq M a q) (h : ps_ks M q f) {k : Nat} (hlt : k < 4 ^ s.1 0) (hhi : f k = true → cw_P s f k (s.1 3)) : ∀ (n l N : Nat), l + n = s.1 3 → n + 1 < N → am_loop fX0_widestAt_5 N (pl, a, nI k, nI l, M) = some (if f k = true then nI (cw_w s f k n l) else -4, M)
  | n, l, N + 1, hl, hN => by
    obtain ⟨o1, o2, o3, o4, o5, -⟩ := id ho
    obtain ⟨-, -, -, p4, -, -, p7, -⟩ := hX.pl
    have hp4 := nz_p4 o2
    have hz := nz_p4 (show s.1 0 - l ≤ 6 by omega)
    have hsz : ps_sz s l = 4 ^ (s.1 0 - l) := rfl
    have hm := Nat.mod_le k (4 ^ (s.1 0 - l))
    have hml := Nat.mod_lt k hz.1
    have step : ∀ kk : (Nat × Nat × Int32 × Int32 × am_M) → Option (Int32 × am_M), fX0_widestAt_5 kk (pl, a, nI k, nI l, M) = if cw_P s f k l then some (nI l, M) else kk (pl, a, nI k, nI (l + 1), M) := fun kk => by
      unfold fX0_widestAt_5 fX0_widestAt_34 fX0_widestAt_55
      simp only [p7, nm_lt (show s.1 3 < 2147483648 by omega) (show l < 2147483648 by omega), show (s.1 3 < l) = False from eq_false (by omega), if_false, px_size o2 (show l ≤ s.1 0 by omega) p4, am_bs, nz_and (show k < 4294967296 by omega) (show s.1 0 - l ≤ 6 by omega), nz_eq0 (show k % 4 ^ (s.1 0 - l) < 2147483648 by omega), nm_1f, nI_1]
      by_cases c1 : k % 4 ^ (s.1 0 - l) = 0
      · have hdm := Nat.div_add_mod' k (4 ^ (s.1 0 - l))
        rw [c1, Nat.add_zero] at hdm
        have hle : k + 4 ^ (s.1 0 - l) ≤ 4096 := by
          have e1 : 4 ^ (s.1 0 - l) * 4 ^ l = 4 ^ s.1 0 := by rw [← Nat.pow_add, show s.1 0 - l + l = s.1 0 by omega]
          have e2 : k / 4 ^ (s.1 0 - l) < 4 ^ l := Nat.div_lt_of_lt_mul (by rw [e1]; exact hlt)
          have e3 : (k / 4 ^ (s.1 0 - l) + 1) * 4 ^ (s.1 0 - l) ≤ 4 ^ l * 4 ^ (s.1 0 - l) := Nat.mul_le_mul_right _ e2
          rw [Nat.succ_mul, hdm, Nat.mul_comm, e1] at e3
          omega
        have kc := ks_count hk h (e := s.1 0 - l) (t := k / 4 ^ (s.1 0 - l)) (by omega) (by rw [hdm]; exact hle)
        rw [hdm] at kc
        have b1 := ps_ct_le f k (4 ^ (s.1 0 - l))
        simp only [c1, if_true, kc, am_bs, nm_eq (show ps_ct f k (4 ^ (s.1 0 - l)) < 2147483648 by omega) (show 4 ^ (s.1 0 - l) < 2147483648 by omega), if_false]
        by_cases c2 : ps_ct f k (4 ^ (s.1 0 - l)) = 4 ^ (s.1 0 - l)
        · rw [if_pos c2, if_pos ⟨c1, c2⟩]
        · rw [if_neg c2, if_neg (fun z => c2 z.2)]
      · simp only [c1, if_false, if_true]
        rw [if_neg (fun z => c1 z.1)]
    show fX0_widestAt_5 (am_loop fX0_widestAt_5 N) (pl, a, nI k, nI l, M) = _
    rw [step]
    cases n with
    | zero =>
      have e : l = s.1 3 := hl
      subst e
      by_cases c : f k = true
      · rw [if_pos (hhi c), if_pos c]; rfl
      · rw [if_neg (fun z => c (cw_P_f z)), if_neg c]
        obtain ⟨N', rfl⟩ : ∃ N', N = N' + 1 := ⟨N - 1, by omega⟩
        show fX0_widestAt_5 _ (pl, a, nI k, nI (s.1 3 + 1), M) = _
        unfold fX0_widestAt_5
        simp only [p7, nm_lt (show s.1 3 < 2147483648 by omega) (show s.1 3 + 1 < 2147483648 by omega), show (s.1 3 < s.1 3 + 1) = True from eq_true (by omega), if_true]
    | succ n =>
      by_cases c : cw_P s f k l
      · rw [if_pos c, if_pos (cw_P_f c), cw_w, if_pos c]
      · rw [if_neg c, px_wid ho hX hk h hlt hhi n (l + 1) N (by omega) (by omega), cw_w, if_neg c]
def cw_W (s : ps_S) (f : Nat → Bool) (k : Nat) : Nat := cw_w s f k (s.1 3 - s.1 2) (s.1 2)
theorem px_widest {s : ps_S} {pl : Nat} {M : am_M} (ho : ps_ok s) (hX : ps_X s pl M) {a q : Nat} {f : Nat → Bool} (hk : ps_kq M a q) (h : ps_ks M q f) {k : Nat} (hlt : k < 4 ^ s.1 0) (hhi : f k = true → cw_P s f k (s.1 3)) : fX0_widestAt pl a (nI k) M = some (if f k = true then nI (cw_W s f k) else -4, M) := by
  obtain ⟨o1, o2, o3, o4, o5, -⟩ := id ho
  obtain ⟨-, -, -, -, -, p6, -⟩ := hX.pl
  unfold fX0_widestAt
  rw [p6]
  exact px_wid ho hX hk h hlt hhi (s.1 3 - s.1 2) (s.1 2) 100000 (by omega) (by omega)
/-- the reference's -/
theorem pm_whole {s : ps_S} {M : am_M} {f : Nat → Bool} (ho : ps_ok s) (hM : ps_M s M) (hrow : ps_row M 61 (4 ^ s.1 0) f) {k z : Nat} (hkz : k + z ≤ 4 ^ s.1 0) : fX10_isWhole 53 (nI k) (nI z) M = some (if ps_ct f k z = z then 1 else 0, M) := by
  obtain ⟨o1, o2, -⟩ := id ho
  have hp4 := nz_p4 o2
  obtain ⟨-, -, -, r22, -, -, -, -, -, -, -, l61, -⟩ := hM.r
  exact am_loop_inv (f := fX10_isWhole_5) (fun i st => (st = (53, nI k, nI z, 1, nI (k + i), M) ∧ ∀ u, u < i → f (k + u) = true) ∨ (st = (53, nI k, nI z, 0, nI (k + i), M) ∧ ∃ u, u < i ∧ f (k + u) = false)) (fun r => r = some (if ps_ct f k z = z then 1 else 0, M)) z
    (fun i st kk hi hI => by
      have nw : (∃ u, u < z ∧ f (k + u) = false) → ¬ ps_ct f k z = z := fun ⟨u, u1, u2⟩ q => by
        rw [ps_ct_full q u u1] at u2; exact absurd u2 (by decide)
      rcases hI with ⟨e, hI⟩ | ⟨e, u, u1, u2⟩
      · subst e
        left
        have hr := hrow (k + i) (by omega)
        cases hf : f (k + i) with
        | true =>
          refine ⟨_, Or.inl ⟨rfl, fun u hu => ?_⟩, ?_⟩
          · by_cases c : u = i
            · rw [c]; exact hf
            · exact hI u (by omega)
          · rw [hf] at hr
            unfold fX10_isWhole_5 fX10_isWhole_33
            simp only [nI_add, nm_le (show k + z < 2147483648 by omega) (show k + i < 2147483648 by omega), show (k + z ≤ k + i) = False from eq_false (by omega), if_false, nm_1f, r22, am_bs, l61, nm_cl (show k + i < 2147483648 by omega), am_ixc (show k + i < 4096 by omega) (show 4096 < 2147483648 by decide), hr, if_true, show (nI 1 = (1 : Int32)) = True from eq_true rfl, nI_1, Nat.add_assoc]
        | false =>
          refine ⟨_, Or.inr ⟨rfl, i, by omega, hf⟩, ?_⟩
          rw [hf] at hr
          unfold fX10_isWhole_5 fX10_isWhole_33
          simp only [nI_add, nm_le (show k + z < 2147483648 by omega) (show k + i < 2147483648 by omega), show (k + z ≤ k + i) = False from eq_false (by omega), if_false, nm_1f, r22, am_bs, l61, nm_cl (show k + i < 2147483648 by omega), am_ixc (show k + i < 4096 by omega) (show 4096 < 2147483648 by decide), hr, Bool.false_eq_true, show (nI 0 = (1 : Int32)) = False from eq_false (by decide), nI_1, Nat.add_assoc]
      · subst e
        right
        rw [if_neg (nw ⟨u, by omega, u2⟩)]
        unfold fX10_isWhole_5
        simp only [nI_add, nm_le (show k + z < 2147483648 by omega) (show k + i < 2147483648 by omega), show (k + z ≤ k + i) = False from eq_false (by omega), if_false, if_true]
        rfl)
    (fun st kk hI => by
      rcases hI with ⟨e, hI⟩ | ⟨e, u, u1, u2⟩
      · subst e
        rw [if_pos (ps_ct_all hI)]
        unfold fX10_isWhole_5
        simp only [nI_add, Int32.le_refl, if_true]
        rfl
      · subst e
        rw [if_neg (fun q => by rw [ps_ct_full q u u1] at u2; exact absurd u2 (by decide))]
        unfold fX10_isWhole_5
        simp only [nI_add, Int32.le_refl, if_true]
        rfl)
    100000 0 (53, nI k, nI z, 1, nI k, M) (Nat.zero_le _) (by omega) (Or.inl ⟨rfl, fun u hu => absurd hu (Nat.not_lt_zero u)⟩)
theorem pm_lev {s : ps_S} {M : am_M} {f : Nat → Bool} (ho : ps_ok s) (hM : ps_M s M) (hrow : ps_row M 61 (4 ^ s.1 0) f) {k : Nat} (hlt : k < 4 ^ s.1 0) (hhi : cw_P s f k (s.1 3)) : ∀ (n l N : Nat), l + n = s.1 3 → n < N → am_loop fX10_levelAt_5 N (53, nI k, nI l, M) = some (nI (cw_w s f k n l), M)
  | n, l, N + 1, hl, hN => by
    obtain ⟨o1, o2, o3, o4, o5, -⟩ := id ho
    have hp4 := nz_p4 o2
    have hz := nz_p4 (show s.1 0 - l ≤ 6 by omega)
    have hm := Nat.mod_le k (4 ^ (s.1 0 - l))
    have step : ∀ kk : (Nat × Int32 × Int32 × am_M) → Option (Int32 × am_M), fX10_levelAt_5 kk (53, nI k, nI l, M) = if cw_P s f k l then some (nI l, M) else kk (53, nI k, nI (l + 1), M) := fun kk => by
      unfold fX10_levelAt_5 fX10_levelAt_28
      simp only [pm_size o2 (show l ≤ s.1 0 by omega) hM.2.2.1, am_bs, nz_eq0 (show 4 ^ (s.1 0 - l) < 2147483648 by omega), show (4 ^ (s.1 0 - l) = 0) = False from eq_false (by omega), if_false, nm_rem (show k < 2147483648 by omega) hz.1 (show 4 ^ (s.1 0 - l) < 2147483648 by omega), nz_eq0 (show k % 4 ^ (s.1 0 - l) < 2147483648 by omega), nI_1]
      by_cases c1 : k % 4 ^ (s.1 0 - l) = 0
      · have hdm := Nat.div_add_mod' k (4 ^ (s.1 0 - l))
        rw [c1, Nat.add_zero] at hdm
        have hle : k + 4 ^ (s.1 0 - l) ≤ 4 ^ s.1 0 := by
          have e1 : 4 ^ (s.1 0 - l) * 4 ^ l = 4 ^ s.1 0 := by rw [← Nat.pow_add, show s.1 0 - l + l = s.1 0 by omega]
          have e2 : k / 4 ^ (s.1 0 - l) < 4 ^ l := Nat.div_lt_of_lt_mul (by rw [e1]; exact hlt)
          have e3 : (k / 4 ^ (s.1 0 - l) + 1) * 4 ^ (s.1 0 - l) ≤ 4 ^ l * 4 ^ (s.1 0 - l) := Nat.mul_le_mul_right _ e2
          rw [Nat.succ_mul, hdm, Nat.mul_comm, e1] at e3
          exact e3
        simp only [c1, if_true, pm_whole ho hM hrow hle, am_bs, nm_if0]
        by_cases c2 : ps_ct f k (4 ^ (s.1 0 - l)) = 4 ^ (s.1 0 - l)
        · rw [if_neg (not_not_intro c2), if_pos ⟨c1, c2⟩]
        · rw [if_pos c2, if_neg (fun z => c2 z.2)]
      · rw [if_neg c1, if_neg (fun z => c1 z.1)]
    show fX10_levelAt_5 (am_loop fX10_levelAt_5 N) (53, nI k, nI l, M) = _
    rw [step]
    cases n with
    | zero =>
      have e : l = s.1 3 := hl
      subst e
      rw [if_pos hhi]; rfl
    | succ n =>
      rw [cw_w]
      by_cases c : cw_P s f k l
      · rw [if_pos c, if_pos c]
      · rw [if_neg c, if_neg c, pm_lev ho hM hrow hlt hhi n (l + 1) N (by omega) (by omega)]
theorem pm_levelAt {s : ps_S} {M : am_M} {f : Nat → Bool} (ho : ps_ok s) (hM : ps_M s M) (hrow : ps_row M 61 (4 ^ s.1 0) f) {k : Nat} (hlt : k < 4 ^ s.1 0) (hhi : cw_P s f k (s.1 3)) : fX10_levelAt 53 (nI k) M = some (nI (cw_W s f k), M) := by
  obtain ⟨o1, o2, o3, o4, o5, -⟩ := id ho
  unfold fX10_levelAt
  rw [hM.2.2.2.2.1]
  exact pm_lev ho hM hrow hlt hhi (s.1 3 - s.1 2) (s.1 2) 100000 (by omega) (by omega)
