/-! ===== shape and covers of the class found anew ===== -/
/-- what the finding reads of the plan -/
def ps_W (s : ps_S) (pl : Nat) (M : am_M) : Prop := M.2.2.1 pl 1 = some (pl + 6) ∧ am_len M (pl + 6) = 8 ∧ M.1 pl 2 = nI (s.1 4) ∧ M.1 pl 3 = nI (s.1 0) ∧ M.1 pl 4 = nI (s.1 1) ∧ M.1 pl 6 = nI (s.1 3) ∧ 5 < pl ∧ ∀ i, i < s.1 4 → ∃ q, M.2.2.1 (pl + 6) i = some q ∧ 5 < q ∧ ∀ j, j < 6 → M.1 q j = nI (s.2 j i)
theorem ps_W.jj {s : ps_S} {pl : Nat} {M M1 : am_M} (h : ps_W s pl M) (f1 : M1.1 = M.1) (f2 : M1.2.2 = M.2.2) : ps_W s pl M1 := by
  unfold ps_W am_len at *
  rw [f1, f2]
  exact h
theorem ps_X.w {s : ps_S} {pl : Nat} {M : am_M} (h : ps_X s pl M) : ps_W s pl M := by
  obtain ⟨p1, p2, p3, p4, p5, p6, p7, p8, p9, p10, p11, p12, p13, p14, p15, p16, p17, p18, p19⟩ := h.pl
  obtain ⟨-, -, -, -, -, -, -, -, -, -, -, -, -, g8, -⟩ := id h
  refine ⟨p10, p19, p3, p4, p5, p7, by omega, fun i hi => ?_⟩
  obtain ⟨q, q1, q2, -, q4⟩ := g8 i hi
  exact ⟨q, q1, by omega, q4⟩
theorem ps_W.pI5 {s : ps_S} {pl : Nat} {M : am_M} (h : ps_W s pl M) (j : Nat) (x : Int32) : ps_W s pl (am_pI M 5 j x) := by
  obtain ⟨h1, h2, h3, h4, h5, h6, h7, h8⟩ := h
  have e : ∀ k, 5 < k → (am_pI M 5 j x).1 k = M.1 k := fun k hk => am_pI_r _ _ _ _ (by omega)
  refine ⟨h1, h2, by rw [e _ h7]; exact h3, by rw [e _ h7]; exact h4, by rw [e _ h7]; exact h5, by rw [e _ h7]; exact h6, h7, fun i hi => ?_⟩
  obtain ⟨q, q1, q2, q4⟩ := h8 i hi
  exact ⟨q, q1, q2, fun j hj => by rw [e _ q2]; exact q4 j hj⟩
theorem px_inw_loop {s : ps_S} {pl : Nat} {M : am_M} (ho : ps_ok s) (hW : ps_W s pl M) {x y : Nat} (hx : x < 64) (hy : y < 64) : ∀ (n N : Nat), n ≤ s.1 4 → n < N → am_loop fX5_inShape_7 N (pl, nI x, nI y, nI n - 1, M) = some (if ps_scan s x y n = true then 1 else 0, M)
  | 0, N + 1, _, _ => by
    show fX5_inShape_7 _ (pl, nI x, nI y, nI 0 - 1, M) = _
    unfold fX5_inShape_7
    simp only [show (nI 0 - 1 < (0 : Int32)) = True from eq_true (by decide), if_true]
    rfl
  | n + 1, N + 1, hn, hN => by
    have o := ho.2.2.2.2.2.1
    have b0 := (ho.2.2.2.2.2.2.2.2.2.1 n (by omega)).1
    obtain ⟨q, q1, -, q4⟩ := hW.2.2.2.2.2.2.2 n (by omega)
    have p10 := hW.1
    have p19 := hW.2.1
    show fX5_inShape_7 (am_loop fX5_inShape_7 N) (pl, nI x, nI y, nI (n + 1) - 1, M) = _
    unfold fX5_inShape_7
    simp only [nm_pr, show (nI n < (0 : Int32)) = False from eq_false (nI_pos (by omega)), if_false, p10, am_bs, p19, nm_cl (show n < 2147483648 by omega), false_or, show (8 ≤ n) = False from eq_false (by omega), q1, px_has ho (show n < s.1 4 by omega) q4 hx hy, nm_if0]
    rw [ps_scan]
    by_cases c : ps_has s n x y = true
    · unfold fX4_putsOn
      simp only [c, not_true_eq_false, if_false, if_true, am_bs, q4 0 (by decide), nm_b11 b0]
    · rw [if_pos c, if_neg c, nm_dn]
      exact px_inw_loop ho hW hx hy n N (by omega) (by omega)
theorem px_inw {s : ps_S} {pl : Nat} {M : am_M} (ho : ps_ok s) (hW : ps_W s pl M) {x y : Nat} (hx : x < 64) (hy : y < 64) : fX5_inShape pl (nI x) (nI y) M = some (if ps_in s x y = true then 1 else 0, M) := by
  have o := ho.2.2.2.2.2.1
  unfold fX5_inShape
  rw [hW.2.2.1]
  exact px_inw_loop ho hW hx hy _ _ (Nat.le_refl _) (by omega)
theorem ks_x1 (g : Nat → Bool) {i : Nat} {b : Bool} (hb : g i = b) (j : Nat) : (decide (j < i) && g j || (b && decide (j = i))) = (decide (j < i + 1) && g j) := by
  by_cases e : j = i
  · subst e
    rw [hb]
    cases b <;> simp
  · rw [decide_eq_false e, Bool.and_false, Bool.or_false]
    congr 1
    apply decide_eq_decide.mpr
    omega
theorem px_findShape {s : ps_S} {pl : Nat} {M : am_M} (ho : ps_ok s) (hW : ps_W s pl M) (hk : ps_kq M 6 7) (h5 : M.2.2.1 5 0 = some 6) : ∃ T, fX0_findShape 5 pl M = some T ∧ am_fj 7 M T ∧ ps_ks T 7 (ps_sk s) := by
  obtain ⟨o1, o2, o3, -⟩ := id ho
  have hp4 := nz_p4 o2
  obtain ⟨T0, c1, c2, c3⟩ := ks_clear hk
  have L := am_loop_inv (f := fX0_findShape_15) (fun i st => ∃ T, st = (5, pl, nI (4 ^ s.1 0), nI i, T) ∧ am_fj 7 M T ∧ ps_ks T 7 (fun j => decide (j < i) && ps_sk s j)) (fun r => ∃ T, r = some T ∧ am_fj 7 M T ∧ ps_ks T 7 (ps_sk s)) (4 ^ s.1 0)
    (fun i st k hi ⟨T, e, h1, h2⟩ => by
      subst e
      have hW' := hW.jj h1.1 h1.2.1
      have hk' := hk.fj h1
      have h5' : T.2.2.1 5 0 = some 6 := by rw [h1.2.1]; exact h5
      have pq := cv_p64 (c := s.1 1) o2 i
      have hsk : ps_sk s i = ps_in s (cv_p (s.1 1) (s.1 0) 0 0 0 i).1 (cv_p (s.1 1) (s.1 0) 0 0 0 i).2 := by
        unfold ps_sk
        rw [decide_eq_true hi, Bool.true_and]
      have e1 := px_placeOf (D := s.1 0) (c := s.1 1) (g := i) o3 o2 (by omega) T
      generalize cv_p (s.1 1) (s.1 0) 0 0 0 i = P at *
      have e2 := px_half0 pq.1 pq.2.1 T
      have e3 := px_half1 pq.1 pq.2.1 T
      have e4 := px_inw ho hW' pq.1 pq.2.1
      have d1 := hW'.2.2.2.1
      have d2 := hW'.2.2.2.2.1
      by_cases c : ps_in s P.1 P.2 = true
      · obtain ⟨T2, t1, t2, t3⟩ := ks_add hk' h2 (k := i) (by omega)
        refine Or.inl ⟨_, ⟨T2, rfl, h1.tr t2, t3.cg (fun j _ => ?_)⟩, ?_⟩
        · have := ks_x1 (ps_sk s) (hsk.trans c) j
          rw [Bool.true_and] at this
          exact this
        · unfold fX0_findShape_15 fX0_findShape_61
          simp only [nm_le (show 4 ^ s.1 0 < 2147483648 by omega) (show i < 2147483648 by omega), show (4 ^ s.1 0 ≤ i) = False from eq_false (by omega), if_false, d1, d2, e1, am_bs, e2, e3, e4, nm_if0, c, not_true_eq_false, h5', t1, nI_1]
      · refine Or.inl ⟨_, ⟨T, rfl, h1, h2.cg (fun j _ => ?_)⟩, ?_⟩
        · have := ks_x1 (ps_sk s) (hsk.trans (Bool.eq_false_iff.mpr c)) j
          rw [Bool.false_and, Bool.or_false] at this
          exact this
        · unfold fX0_findShape_15 fX0_findShape_61
          simp only [nm_le (show 4 ^ s.1 0 < 2147483648 by omega) (show i < 2147483648 by omega), show (4 ^ s.1 0 ≤ i) = False from eq_false (by omega), if_false, d1, d2, e1, am_bs, e2, e3, e4, nm_if0, c, Bool.false_eq_true, not_false_eq_true, if_true, nI_1])
    (fun st k ⟨T, e, h1, h2⟩ => by
      subst e
      refine ⟨T, ?_, h1, h2.cg (fun j _ => ?_)⟩
      · unfold fX0_findShape_15
        simp only [Int32.le_refl, if_true]
      · unfold ps_sk
        rw [← Bool.and_assoc, Bool.and_self])
    100000 0 (5, pl, nI (4 ^ s.1 0), nI 0, T0) (Nat.zero_le _) (by omega) ⟨T0, rfl, c2, c3.cg (fun j _ => rfl)⟩
  obtain ⟨T, e, h1, h2⟩ := L
  refine ⟨T, ?_, h1, h2⟩
  have hW0 := hW.jj c2.1 c2.2.1
  unfold fX0_findShape
  simp only [h5, am_bs, c1, px_size0 o2 hW0.2.2.2.1]
  exact e
def am_fjj (M M1 : am_M) : Prop := M1.1 = M.1 ∧ M1.2.2 = M.2.2 ∧ ∀ k, k ≠ 9 → k ≠ 11 → M1.2.1 k = M.2.1 k
theorem am_fjj.j {M M1 M2 : am_M} (h : am_fjj M M1) {q : Nat} (hq : q = 9 ∨ q = 11) (f : am_fj q M1 M2) : am_fjj M M2 := ⟨f.1.trans h.1, f.2.1.trans h.2.1, fun k h9 h11 => (f.2.2 k (by omega)).trans (h.2.2 k h9 h11)⟩
theorem am_fj.ks {M M1 : am_M} {p q : Nat} {f : Nat → Bool} (h : am_fj p M M1) (hq : q ≠ p) (k : ps_ks M q f) : ps_ks M1 q f := k.fr (h.2.2 q hq)
theorem ks_xt (g : Nat → Bool) {j z : Nat} {b : Bool} (hb : ∀ k, j * z ≤ k → k < j * z + z → g k = b) (k : Nat) : (decide (k < j * z) && g k || (b && decide (j * z ≤ k ∧ k < j * z + z))) = (decide (k < (j + 1) * z) && g k) := by
  have e : (j + 1) * z = j * z + z := Nat.succ_mul j z
  rw [e]
  by_cases c1 : j * z ≤ k ∧ k < j * z + z
  · rw [hb k c1.1 c1.2, decide_eq_true c1, decide_eq_false (show ¬ k < j * z by omega), decide_eq_true c1.2]
    cases b <;> rfl
  · rw [decide_eq_false c1, Bool.and_false, Bool.or_false]
    congr 1
    apply decide_eq_decide.mpr
    omega
theorem ps_cov_in {s : ps_S} {j k : Nat} (ho : ps_ok s) (hj : j < 4 ^ s.1 3) (h1 : j * ps_sz s (s.1 3) ≤ k) (h2 : k < j * ps_sz s (s.1 3) + ps_sz s (s.1 3)) (w : Nat) : k < 4 ^ s.1 0 ∧ ps_cov s w k = if w = 0 then decide (0 < ps_ct (ps_sk s) (j * ps_sz s (s.1 3)) (ps_sz s (s.1 3))) else decide (ps_ct (ps_sk s) (j * ps_sz s (s.1 3)) (ps_sz s (s.1 3)) = ps_sz s (s.1 3)) := by
  obtain ⟨o1, o2, o3, o4, o5, -⟩ := id ho
  have hz : 0 < ps_sz s (s.1 3) := Nat.pow_pos (by decide)
  have hm : 4 ^ s.1 3 * ps_sz s (s.1 3) = 4 ^ s.1 0 := by
    unfold ps_sz
    rw [← Nat.pow_add, show s.1 3 + (s.1 0 - s.1 3) = s.1 0 by omega]
  have h3 : (j + 1) * ps_sz s (s.1 3) ≤ 4 ^ s.1 3 * ps_sz s (s.1 3) := Nat.mul_le_mul_right _ hj
  rw [hm, Nat.succ_mul] at h3
  have hk : k < 4 ^ s.1 0 := by omega
  have hq : k / ps_sz s (s.1 3) = j := by
    apply Nat.div_eq_of_lt_le
    · exact h1
    · rw [Nat.succ_mul]; exact h2
  refine ⟨hk, ?_⟩
  unfold ps_cov
  rw [decide_eq_true hk, Bool.true_and, hq]
theorem px_findCovers {s : ps_S} {pl : Nat} {M : am_M} (ho : ps_ok s) (hW : ps_W s pl M) (k6 : ps_kq M 6 7) (k8 : ps_kq M 8 9) (k10 : ps_kq M 10 11) (r0 : M.2.2.1 5 0 = some 6) (r1 : M.2.2.1 5 1 = some 8) (r2 : M.2.2.1 5 2 = some 10) (hsh : ps_ks M 7 (ps_sk s)) : ∃ T, fX0_findCovers 5 pl M = some T ∧ am_fjj M T ∧ ps_ks T 9 (ps_cov s 0) ∧ ps_ks T 11 (ps_cov s 1) := by
  obtain ⟨o1, o2, o3, o4, o5, -⟩ := id ho
  have hp4 := nz_p4 o2
  have hp3 := nz_p4 (show s.1 3 ≤ 6 by omega)
  have hz0 : 0 < ps_sz s (s.1 3) := Nat.pow_pos (by decide)
  have hm : 4 ^ s.1 3 * ps_sz s (s.1 3) = 4 ^ s.1 0 := by
    unfold ps_sz
    rw [← Nat.pow_add, show s.1 3 + (s.1 0 - s.1 3) = s.1 0 by omega]
  have hzd : ps_sz s (s.1 3) = 4 ^ (s.1 0 - s.1 3) := rfl
  obtain ⟨T0, c1, c2, c3⟩ := ks_clear k8
  obtain ⟨T1, d1, d2, d3⟩ := ks_clear (k10.fj c2)
  have F0 : am_fjj M M := ⟨rfl, rfl, fun _ _ _ => rfl⟩
  have F1 : am_fjj M T1 := (F0.j (Or.inl rfl) c2).j (Or.inr rfl) d2
  have L := am_loop_inv (f := fX0_findCovers_35) (fun i st => ∃ T, st = (5, nI (ps_sz s (s.1 3)), nI (4 ^ s.1 3), nI i, T) ∧ am_fjj M T ∧ ps_ks T 9 (fun j => decide (j < i * ps_sz s (s.1 3)) && ps_cov s 0 j) ∧ ps_ks T 11 (fun j => decide (j < i * ps_sz s (s.1 3)) && ps_cov s 1 j)) (fun r => ∃ T, r = some T ∧ am_fjj M T ∧ ps_ks T 9 (ps_cov s 0) ∧ ps_ks T 11 (ps_cov s 1)) (4 ^ s.1 3)
    (fun i st k hi ⟨T, e, h1, h2, h3⟩ => by
      subst e
      have hkq : ∀ {a q : Nat} {T' : am_M}, am_fjj M T' → ps_kq M a q → ps_kq T' a q := fun {a q T'} f h => by
        unfold ps_kq am_len at *
        rw [f.2.1]; exact h
      have hrr : ∀ {a j q : Nat} {T' : am_M}, am_fjj M T' → M.2.2.1 a j = some q → T'.2.2.1 a j = some q := fun {a j q T'} f h => by rw [f.2.1]; exact h
      have hcv := fun kk => ps_cov_in (k := kk) ho hi
      have hup : (i + 1) * ps_sz s (s.1 3) ≤ 4 ^ s.1 3 * ps_sz s (s.1 3) := Nat.mul_le_mul_right _ hi
      rw [hm, Nat.succ_mul] at hup
      have hct : fX3_countIn 6 (nI (i * ps_sz s (s.1 3))) (nI (ps_sz s (s.1 3))) T = some (nI (ps_ct (ps_sk s) (i * ps_sz s (s.1 3)) (ps_sz s (s.1 3))), T) :=
        ks_count (e := s.1 0 - s.1 3) (t := i) (hkq h1 k6) (hsh.fr (h1.2.2 7 (by decide) (by decide))) (by omega) (by rw [← hzd]; omega)
      have hcl := ps_ct_le (ps_sk s) (i * ps_sz s (s.1 3)) (ps_sz s (s.1 3))
      generalize ps_ct (ps_sk s) (i * ps_sz s (s.1 3)) (ps_sz s (s.1 3)) = C at *
      generalize ps_sz s (s.1 3) = z at *
      have s1 : ∃ T1, fX0_findCovers_35 k (5, nI z, nI (4 ^ s.1 3), nI i, T) = fX0_findCovers_72 k 5 (nI z) (nI (4 ^ s.1 3)) (nI i) (nI C) T1 ∧ am_fjj M T1 ∧ ps_ks T1 9 (fun j => decide (j < (i + 1) * z) && ps_cov s 0 j) ∧ ps_ks T1 11 (fun j => decide (j < i * z) && ps_cov s 1 j) := by
        by_cases c : C = 0
        · refine ⟨T, ?_, h1, h2.cg (fun j _ => ?_), h3⟩
          · unfold fX0_findCovers_35
            simp only [nm_le (show 4 ^ s.1 3 < 2147483648 by omega) (show i < 2147483648 by omega), show (4 ^ s.1 3 ≤ i) = False from eq_false (by omega), if_false, hrr h1 r0, am_bs, pk_mul, hct, c, show (nI 0 ≤ (0 : Int32)) = True from eq_true (by decide), if_true]
          · have := ks_xt (ps_cov s 0) (j := i) (z := z) (b := false) (fun kk a b => by rw [(hcv kk a b 0).2, if_pos rfl, c]; rfl) j
            rw [Bool.false_and, Bool.or_false] at this
            exact this
        · obtain ⟨T2, t1, t2, t3⟩ := ks_addAll (hkq h1 k8) h2 (b := i * z) (n := z) (by omega)
          refine ⟨T2, ?_, h1.j (Or.inl rfl) t2, t3.cg (fun j _ => ?_), t2.ks (by decide) h3⟩
          · unfold fX0_findCovers_35
            simp only [nm_le (show 4 ^ s.1 3 < 2147483648 by omega) (show i < 2147483648 by omega), show (4 ^ s.1 3 ≤ i) = False from eq_false (by omega), if_false, hrr h1 r0, hrr h1 r1, am_bs, pk_mul, hct, nm_0, nm_le (show C < 2147483648 by omega) (show 0 < 2147483648 by decide), show (C ≤ 0) = False from eq_false (by omega), t1]
          · have := ks_xt (ps_cov s 0) (j := i) (z := z) (b := true) (fun kk a b => by rw [(hcv kk a b 0).2, if_pos rfl]; exact decide_eq_true (by omega)) j
            rw [Bool.true_and] at this
            exact this
      obtain ⟨T3, u0, u1, u2, u3⟩ := s1
      have s2 : ∃ T4, fX0_findCovers_72 k 5 (nI z) (nI (4 ^ s.1 3)) (nI i) (nI C) T3 = k (5, nI z, nI (4 ^ s.1 3), nI (i + 1), T4) ∧ am_fjj M T4 ∧ ps_ks T4 9 (fun j => decide (j < (i + 1) * z) && ps_cov s 0 j) ∧ ps_ks T4 11 (fun j => decide (j < (i + 1) * z) && ps_cov s 1 j) := by
        by_cases c : C = z
        · obtain ⟨T2, t1, t2, t3⟩ := ks_addAll (hkq u1 k10) u3 (b := i * z) (n := z) (by omega)
          refine ⟨T2, ?_, u1.j (Or.inr rfl) t2, t2.ks (by decide) u2, t3.cg (fun j _ => ?_)⟩
          · unfold fX0_findCovers_72 fX0_findCovers_90
            simp only [c, if_true, hrr u1 r2, am_bs, pk_mul, t1, nI_1]
          · have := ks_xt (ps_cov s 1) (j := i) (z := z) (b := true) (fun kk a b => by rw [(hcv kk a b 1).2, if_neg (by decide)]; exact decide_eq_true c) j
            rw [Bool.true_and] at this
            exact this
        · refine ⟨T3, ?_, u1, u2, u3.cg (fun j _ => ?_)⟩
          · unfold fX0_findCovers_72 fX0_findCovers_90
            simp only [nm_eq (show C < 2147483648 by omega) (show z < 2147483648 by omega), c, if_false, nI_1]
          · have := ks_xt (ps_cov s 1) (j := i) (z := z) (b := false) (fun kk a b => by rw [(hcv kk a b 1).2, if_neg (by decide)]; exact decide_eq_false c) j
            rw [Bool.false_and, Bool.or_false] at this
            exact this
      obtain ⟨T4, v0, v1, v2, v3⟩ := s2
      exact Or.inl ⟨_, ⟨T4, rfl, v1, v2, v3⟩, u0.trans v0⟩)
    (fun st k ⟨T, e, h1, h2, h3⟩ => by
      subst e
      rw [hm] at h2 h3
      refine ⟨T, ?_, h1, h2.cg (fun j _ => ?_), h3.cg (fun j _ => ?_)⟩
      · unfold fX0_findCovers_35
        simp only [Int32.le_refl, if_true]
      · unfold ps_cov
        rw [← Bool.and_assoc, Bool.and_self]
      · unfold ps_cov
        rw [← Bool.and_assoc, Bool.and_self])
    100000 0 (5, nI (ps_sz s (s.1 3)), nI (4 ^ s.1 3), nI 0, T1) (Nat.zero_le _) (by omega) ⟨T1, rfl, F1, by
      refine (d2.ks (by decide) c3).cg (fun j _ => ?_)
      rw [Nat.zero_mul]; rfl, d3.cg (fun j _ => by rw [Nat.zero_mul]; rfl)⟩
  obtain ⟨T, e, h1, h2, h3⟩ := L
  refine ⟨T, ?_, h1, h2, h3⟩
  have hW1 := hW.jj F1.1 F1.2.1
  have r2' : T0.2.2.1 5 2 = some 10 := by rw [c2.2.1]; exact r2
  unfold fX0_findCovers
  simp only [r1, am_bs, c1, r2', d1, hW1.2.2.2.2.2.1, px_size o2 o5 hW1.2.2.2.1, nm_p4 (show s.1 3 ≤ 6 by omega)]
  exact e
theorem px_refresh {s : ps_S} {pl : Nat} {M : am_M} (ho : ps_ok s) (hX : ps_X s pl M) : ∃ T, fX0_refresh 5 pl M = some T ∧ ps_X s pl T ∧ am_fx M T ∧ T.1 5 5 = nI 1 := by
  obtain ⟨h1, h2, h3, h4, h5, h6, g1, g2, g3, g4, g5, g6, g7, g8, g9, g10, g11, g12, g13, g14⟩ := id hX
  rcases g13 with g | ⟨g, k1, k2, k3⟩
  · have g14' : M.1 5 6 = nI 0 := by
      rcases g14 with q | ⟨-, q, -⟩
      · exact q
      · rw [g] at q; exact absurd q (by decide)
    have hW : ps_W s pl (am_pI M 5 5 1) := hX.w.pI5 5 1
    have kq : ∀ a q, a < 53 → am_rf a 0 = some q → am_SH[q]? = some (1, 64) → ps_kq M a q := fun a q ha h hq => ⟨h5 a 0 q ha h, by
      have := am_len_SH h1 q
      rw [hq] at this
      exact this⟩
    obtain ⟨T1, a1, a2, a3⟩ := px_findShape ho hW (kq 6 7 (by decide) rfl rfl) (h5 5 0 6 (by decide) rfl)
    obtain ⟨T2, b1, b2, b3, b4⟩ := px_findCovers ho (hW.jj a2.1 a2.2.1) ((show ps_kq (am_pI M 5 5 1) 6 7 from kq 6 7 (by decide) rfl rfl).fj a2) ((show ps_kq (am_pI M 5 5 1) 8 9 from kq 8 9 (by decide) rfl rfl).fj a2) ((show ps_kq (am_pI M 5 5 1) 10 11 from kq 10 11 (by decide) rfl rfl).fj a2) (by rw [a2.2.1]; exact h5 5 0 6 (by decide) rfl) (by rw [a2.2.1]; exact h5 5 1 8 (by decide) rfl) (by rw [a2.2.1]; exact h5 5 2 10 (by decide) rfl) a3
    have e1 : T2.1 = (am_pI M 5 5 1).1 := b2.1.trans a2.1
    have e2 : T2.2.2 = M.2.2 := b2.2.1.trans a2.2.1
    have r : ∀ k, k ≠ 5 → T2.1 k = M.1 k := fun k hk => by rw [e1]; exact am_pI_r _ _ _ _ hk
    have c5 : T2.1 5 5 = nI 1 := by rw [e1, am_pI_1, if_pos ⟨rfl, rfl⟩]; rfl
    have c6 : T2.1 5 6 = nI 0 := by rw [e1, am_pI_1, if_neg (by omega)]; exact g14'
    refine ⟨T2, ?_, ?_, ⟨by rw [e2], fun k hk => ⟨r k (by omega), by rw [e2]⟩⟩, c5⟩
    · have : (M.1 5 5 = 0) = True := eq_true g
      unfold fX0_refresh
      simp only [this, if_true, a1, am_bs, b1]
    · refine ⟨by rw [e2]; exact h1, h2, by rw [e2]; exact h3, by rw [e2]; exact h4, by rw [e2]; exact h5, by rw [e2]; exact h6, ?_⟩
      rw [r pl (by omega), r (pl + 1) (by omega), r (pl + 2) (by omega), r (pl + 3) (by omega), r 1 (by decide), r 2 (by decide), r 4 (by decide), e2]
      refine ⟨g1, g2, g3, g4, g5, g6, g7, fun i hi => ?_, g9, g10, g11, g12, Or.inr ⟨c5, a3.fr (b2.2.2 7 (by decide) (by decide)), b3, b4⟩, Or.inl c6⟩
      obtain ⟨q, q1, q2, q3, q4⟩ := g8 i hi
      exact ⟨q, q1, q2, q3, fun j hj => by rw [r q (by omega)]; exact q4 j hj⟩
  · refine ⟨M, ?_, hX, am_fx.rf M, g⟩
    have : (M.1 5 5 = 0) = False := by rw [g]; exact eq_false (by decide)
    unfold fX0_refresh
    simp only [this, if_false]
/-- what a fresh object's key sets hold -/
theorem ps_X.ks {s : ps_S} {pl : Nat} {M : am_M} (h : ps_X s pl M) (f : M.1 5 5 = nI 1) : (ps_kq M 6 7 ∧ ps_kq M 8 9 ∧ ps_kq M 10 11) ∧ ps_ks M 7 (ps_sk s) ∧ ps_ks M 9 (ps_cov s 0) ∧ ps_ks M 11 (ps_cov s 1) ∧ M.2.2.1 5 0 = some 6 ∧ M.2.2.1 5 1 = some 8 ∧ M.2.2.1 5 2 = some 10 ∧ M.2.2.1 5 3 = some 12 ∧ M.2.2.1 5 4 = some 14 := by
  obtain ⟨h1, h2, h3, h4, h5, h6, g1, g2, g3, g4, g5, g6, g7, g8, g9, g10, g11, g12, g13, g14⟩ := h
  rcases g13 with g | ⟨g, k1, k2, k3⟩
  · rw [g] at f; exact absurd f (by decide)
  · exact ⟨⟨⟨h5 6 0 7 (by decide) rfl, am_len_SH h1 7⟩, ⟨h5 8 0 9 (by decide) rfl, am_len_SH h1 9⟩, ⟨h5 10 0 11 (by decide) rfl, am_len_SH h1 11⟩⟩, k1, k2, k3, h5 5 0 6 (by decide) rfl, h5 5 1 8 (by decide) rfl, h5 5 2 10 (by decide) rfl, h5 5 3 12 (by decide) rfl, h5 5 4 14 (by decide) rfl⟩
