/-! ===== shape and covers of the reference ===== -/
def ps_row (M : am_M) (q n : Nat) (g : Nat → Bool) : Prop := ∀ k, k < n → M.1 q k = nI (if g k = true then 1 else 0)
theorem ps_row.cg {M M1 : am_M} {q n : Nat} {g : Nat → Bool} (h : ps_row M q n g) (e : M1.1 q = M.1 q) : ps_row M1 q n g := by
  intro k hk
  rw [e]
  exact h k hk
theorem ps_M.r {s : ps_S} {M : am_M} (hM : ps_M s M) : M.2.2.1 53 7 = some 55 ∧ M.2.2.1 53 8 = some 56 ∧ M.2.2.1 53 21 = some 60 ∧ M.2.2.1 53 22 = some 61 ∧ M.2.2.1 53 25 = some 62 ∧ M.2.2.1 53 26 = some 63 ∧ M.2.2.1 53 27 = some 64 ∧ M.2.2.1 53 28 = some 65 ∧ am_len M 55 = 40 ∧ am_len M 56 = 40 ∧ am_len M 60 = 4096 ∧ am_len M 61 = 4096 ∧ am_len M 62 = 91 ∧ am_len M 63 = 13 ∧ am_len M 64 = 13 ∧ am_len M 65 = 4096 :=
  ⟨hM.2.1 53 7 55 (by decide) rfl, hM.2.1 53 8 56 (by decide) rfl, hM.2.1 53 21 60 (by decide) rfl, hM.2.1 53 22 61 (by decide) rfl, hM.2.1 53 25 62 (by decide) rfl, hM.2.1 53 26 63 (by decide) rfl, hM.2.1 53 27 64 (by decide) rfl, hM.2.1 53 28 65 (by decide) rfl, am_len_SH hM.1 55, am_len_SH hM.1 56, am_len_SH hM.1 60, am_len_SH hM.1 61, am_len_SH hM.1 62, am_len_SH hM.1 63, am_len_SH hM.1 64, am_len_SH hM.1 65⟩
theorem pm_setShape0 {s : ps_S} {M : am_M} (ho : ps_ok s) (hM : ps_M s M) : ∃ T, fX10_setShape 53 M = some T ∧ ps_R s M T ∧ ∀ x y, x < 2 ^ s.1 0 → y < 2 ^ s.1 0 → T.1 60 (cv_k (s.1 1) (s.1 0) x y 0) = nI (if ps_in s x y = true then 1 else 0) := by
  obtain ⟨o1, o2, o3, -⟩ := id ho
  have hp2 := nz_p2 o2
  have hp4 := nz_p4 o2
  have L := am_loop_inv (f := fX10_setShape_2) (fun i st => ∃ T, st = (53, nI i, T) ∧ ps_R s M T ∧ ∀ x y, x < i → y < 2 ^ s.1 0 → T.1 60 (cv_k (s.1 1) (s.1 0) x y 0) = nI (if ps_in s x y = true then 1 else 0)) (fun r => ∃ T, r = some T ∧ ps_R s M T ∧ ∀ x y, x < 2 ^ s.1 0 → y < 2 ^ s.1 0 → T.1 60 (cv_k (s.1 1) (s.1 0) x y 0) = nI (if ps_in s x y = true then 1 else 0)) (2 ^ s.1 0)
    (fun i st k hi ⟨T, e, h1, h2⟩ => by
      subst e
      left
      have K := am_loop_inv (f := fX10_setShape_12 k) (fun j st => ∃ T, st = (53, nI i, nI j, T) ∧ ps_R s M T ∧ (∀ x y, x < i → y < 2 ^ s.1 0 → T.1 60 (cv_k (s.1 1) (s.1 0) x y 0) = nI (if ps_in s x y = true then 1 else 0)) ∧ ∀ y, y < j → T.1 60 (cv_k (s.1 1) (s.1 0) i y 0) = nI (if ps_in s i y = true then 1 else 0)) (fun r => ∃ st', (∃ T, st' = (53, nI (i + 1), T) ∧ ps_R s M T ∧ ∀ x y, x < i + 1 → y < 2 ^ s.1 0 → T.1 60 (cv_k (s.1 1) (s.1 0) x y 0) = nI (if ps_in s x y = true then 1 else 0)) ∧ r = k st') (2 ^ s.1 0)
        (fun j st k2 hj ⟨T, e, h1, h2, h3⟩ => by
          subst e
          have hkl := cv_k_lt (s.1 1) (s.1 0) i j
          have e1 := pm_side o2 h1.1.2.2.1
          have e2 := pm_keyOf o3 o2 h1.1.2.2.1 h1.1.2.2.2.1 hi hj
          have e3 := pm_isShape ho h1.1 (show i < 64 by omega) (show j < 64 by omega)
          obtain ⟨-, -, e4, -, -, -, -, -, -, -, e5, -⟩ := h1.1.r
          have hinj : ∀ x y, x < 2 ^ s.1 0 → y < 2 ^ s.1 0 → cv_k (s.1 1) (s.1 0) x y 0 = cv_k (s.1 1) (s.1 0) i j 0 → x = i ∧ y = j := fun x y hx hy h => cv_k_inj _ _ hx hy hi hj h
          generalize hkey : cv_k (s.1 1) (s.1 0) i j 0 = key at e2 hinj hkl
          refine Or.inl ⟨(53, nI i, nI (j + 1), am_pI T 60 key (nI (if ps_in s i j = true then 1 else 0))), ⟨_, rfl, h1.pI (Or.inr (by decide)) _, fun x y hx hy => ?_, fun y hy => ?_⟩, ?_⟩
          · rw [am_pI_1]
            by_cases c : cv_k (s.1 1) (s.1 0) x y 0 = key
            · obtain ⟨c1, c2⟩ := hinj x y (by omega) hy c
              omega
            · rw [if_neg (fun q => c q.2)]; exact h2 x y hx hy
          · rw [am_pI_1]
            by_cases c : cv_k (s.1 1) (s.1 0) i y 0 = key
            · obtain ⟨c1, c2⟩ := hinj i y hi (by omega) c
              rw [if_pos ⟨rfl, c⟩, c2]
            · have : y ≠ j := fun q => c (by rw [q]; exact hkey)
              rw [if_neg (fun q => c q.2)]; exact h3 y (by omega)
          · unfold fX10_setShape_12 fX10_setShape_44
            by_cases c : ps_in s i j = true
            · simp only [e1, am_bs, nm_le (show 2 ^ s.1 0 < 2147483648 by omega) (show j < 2147483648 by omega), show (2 ^ s.1 0 ≤ j) = False from eq_false (by omega), if_false, e2, e3, e4, e5, c, nm_if0, not_true_eq_false, if_true, nm_cl (show key < 2147483648 by omega), am_ixc (show key < 4096 by omega) (show 4096 < 2147483648 by decide), nI_1] <;> rfl
            · simp only [e1, am_bs, nm_le (show 2 ^ s.1 0 < 2147483648 by omega) (show j < 2147483648 by omega), show (2 ^ s.1 0 ≤ j) = False from eq_false (by omega), if_false, e2, e3, e4, e5, c, nm_if0, not_false_eq_true, if_true, nm_cl (show key < 2147483648 by omega), am_ixc (show key < 4096 by omega) (show 4096 < 2147483648 by decide), nI_1, Bool.false_eq_true] <;> rfl)
        (fun st k2 ⟨T, e, h1, h2, h3⟩ => by
          subst e
          refine ⟨_, ⟨T, rfl, h1, fun x y hx hy => ?_⟩, ?_⟩
          · by_cases c : x = i
            · subst c; exact h3 y hy
            · exact h2 x y (by omega) hy
          · unfold fX10_setShape_12
            simp only [pm_side o2 h1.1.2.2.1, am_bs, Int32.le_refl, if_true, nI_1])
        100000 0 (53, nI i, nI 0, T) (Nat.zero_le _) (by omega) ⟨T, rfl, h1, h2, fun y hy => absurd hy (Nat.not_lt_zero y)⟩
      obtain ⟨st', q1, q2⟩ := K
      refine ⟨st', q1, ?_⟩
      rw [← q2]
      unfold fX10_setShape_2
      simp only [pm_side o2 h1.1.2.2.1, am_bs, nm_le (show 2 ^ s.1 0 < 2147483648 by omega) (show i < 2147483648 by omega), show (2 ^ s.1 0 ≤ i) = False from eq_false (by omega), if_false] <;> rfl)
    (fun st k ⟨T, e, h1, h2⟩ => by
      subst e
      refine ⟨T, ?_, h1, h2⟩
      unfold fX10_setShape_2
      simp only [pm_side o2 h1.1.2.2.1, am_bs, Int32.le_refl, if_true])
    100000 0 (53, nI 0, M) (Nat.zero_le _) (by omega) ⟨M, rfl, ps_R.rf hM, fun x y hx => absurd hx (Nat.not_lt_zero x)⟩
  exact L
theorem pm_setShape {s : ps_S} {M : am_M} (ho : ps_ok s) (hM : ps_M s M) : ∃ T, fX10_setShape 53 M = some T ∧ ps_R s M T ∧ ps_row T 60 (4 ^ s.1 0) (ps_sk s) := by
  obtain ⟨T, e, h1, h2⟩ := pm_setShape0 ho hM
  refine ⟨T, e, h1, fun k hk => ?_⟩
  have q := cv_p64 (c := s.1 1) ho.2.1 k
  have := h2 _ _ q.2.2.1 q.2.2.2
  rw [cv_kp _ _ _ hk] at this
  unfold ps_sk
  rw [decide_eq_true hk, Bool.true_and]
  exact this
theorem pm_shapeIn {M : am_M} {D : Nat} {g : Nat → Bool} (hD : D ≤ 6) (h0 : M.1 53 0 = nI D) (r : M.2.2.1 53 21 = some 60) (l60 : am_len M 60 = 4096) (hrow : ps_row M 60 (4 ^ D) g) {l k : Nat} (hl : l ≤ D) (hk : k < 4 ^ l) : fX10_shapeIn 53 (nI l) (nI k) M = some (nI (ps_ct g (k * 4 ^ (D - l)) (4 ^ (D - l))), M) := by
  have hz := nz_p4 (show D - l ≤ 6 by omega)
  have hp4 := nz_p4 hD
  have hm : 4 ^ l * 4 ^ (D - l) = 4 ^ D := by rw [← Nat.pow_add, show l + (D - l) = D by omega]
  have hs := pm_size hD hl h0
  generalize 4 ^ (D - l) = z at *
  have hup : (k + 1) * z ≤ 4 ^ l * z := Nat.mul_le_mul_right _ hk
  rw [hm, Nat.succ_mul] at hup
  have he : (k + 1) * z = k * z + z := Nat.succ_mul k z
  have L := am_loop_inv (f := fX10_shapeIn_11) (fun i st => st = (53, nI l, nI k, nI (ps_ct g (k * z) i), nI (k * z + i), M)) (fun r => r = some (nI (ps_ct g (k * z) z), M)) z
    (fun i st k2 hi e => by
      subst e
      refine Or.inl ⟨_, rfl, ?_⟩
      have hr := hrow (k * z + i) (by omega)
      unfold fX10_shapeIn_11
      simp only [hs, am_bs, nI_1, pk_mul, he, nm_le (show k * z + z < 2147483648 by omega) (show k * z + i < 2147483648 by omega), show (k * z + z ≤ k * z + i) = False from eq_false (by omega), if_false, r, l60, nm_cl (show k * z + i < 2147483648 by omega), am_ixc (show k * z + i < 4096 by omega) (show 4096 < 2147483648 by decide), hr, nI_add, Nat.add_assoc]
      rfl)
    (fun st k2 e => by
      subst e
      unfold fX10_shapeIn_11
      simp only [hs, am_bs, nI_1, pk_mul, he, Int32.le_refl, if_true])
    100000 0 (53, nI l, nI k, nI 0, nI (k * z), M) (Nat.zero_le _) (by omega) rfl
  unfold fX10_shapeIn
  simp only [hs, am_bs, pk_mul]
  exact L
theorem pm_setCover {s : ps_S} {M : am_M} (ho : ps_ok s) (hM : ps_M s M) {w : Nat} (hw : w ≤ 1) : ∃ T, fX10_setCover 53 (nI w) M = some T ∧ ps_R s M T ∧ ps_row T 60 (4 ^ s.1 0) (ps_sk s) ∧ ps_row T 61 (4 ^ s.1 0) (ps_cov s w) := by
  obtain ⟨o1, o2, o3, o4, o5, -⟩ := id ho
  have hp4 := nz_p4 o2
  have hp3 := nz_p4 (show s.1 3 ≤ 6 by omega)
  have hz := nz_p4 (show s.1 0 - s.1 3 ≤ 6 by omega)
  obtain ⟨T0, a1, a2, a3⟩ := pm_setShape ho hM
  have hm : 4 ^ s.1 3 * ps_sz s (s.1 3) = 4 ^ s.1 0 := by
    unfold ps_sz
    rw [← Nat.pow_add, show s.1 3 + (s.1 0 - s.1 3) = s.1 0 by omega]
  have hsz : ps_sz s (s.1 3) = 4 ^ (s.1 0 - s.1 3) := rfl
  have L := am_loop_inv (f := fX10_setCover_6) (fun i st => ∃ T, st = (53, nI w, nI i, T) ∧ ps_R s M T ∧ ps_row T 60 (4 ^ s.1 0) (ps_sk s) ∧ ps_row T 61 (i * ps_sz s (s.1 3)) (ps_cov s w)) (fun r => ∃ T, r = some T ∧ ps_R s M T ∧ ps_row T 60 (4 ^ s.1 0) (ps_sk s) ∧ ps_row T 61 (4 ^ s.1 0) (ps_cov s w)) (4 ^ s.1 3)
    (fun i st k hi ⟨T, e, h1, h2, h3⟩ => by
      subst e
      left
      have hcv := fun kk => ps_cov_in (k := kk) ho hi
      obtain ⟨-, -, r21, r22, -, -, -, -, -, -, l60, l61, -⟩ := h1.1.r
      have d0 := h1.1.2.2.1
      have d3 := h1.1.2.2.2.2.2.1
      have e1 := pm_shapeIn o2 d0 r21 l60 h2 o5 hi
      rw [← hsz] at e1 hz
      have e2 := pm_size o2 o5 d0
      rw [← hsz] at e2
      have hup : (i + 1) * ps_sz s (s.1 3) ≤ 4 ^ s.1 3 * ps_sz s (s.1 3) := Nat.mul_le_mul_right _ hi
      rw [hm, Nat.succ_mul] at hup
      have hcl := ps_ct_le (ps_sk s) (i * ps_sz s (s.1 3)) (ps_sz s (s.1 3))
      generalize ps_ct (ps_sk s) (i * ps_sz s (s.1 3)) (ps_sz s (s.1 3)) = C at *
      have hb : ∃ b : Bool, (∀ kk, i * ps_sz s (s.1 3) ≤ kk → kk < i * ps_sz s (s.1 3) + ps_sz s (s.1 3) → ps_cov s w kk = b) ∧ fX10_setCover_6 k (53, nI w, nI i, T) = fX10_setCover_61 k 53 (nI w) (nI i) (nI (if b = true then 1 else 0)) T := by
        rcases (show w = 0 ∨ w = 1 by omega) with rfl | rfl
        · refine ⟨decide (0 < C), fun kk q1 q2 => by rw [(hcv kk q1 q2 0).2, if_pos rfl], ?_⟩
          unfold fX10_setCover_6
          by_cases c : C = 0
          · simp only [d3, nm_p4 (show s.1 3 ≤ 6 by omega), nm_le (show 4 ^ s.1 3 < 2147483648 by omega) (show i < 2147483648 by omega), show (4 ^ s.1 3 ≤ i) = False from eq_false (by omega), if_false, e1, am_bs, show (nI 0 = (0 : Int32)) = True from eq_true rfl, if_true, c, show (nI 0 ≤ (0 : Int32)) = True from eq_true (by decide)]
            rfl
          · simp only [d3, nm_p4 (show s.1 3 ≤ 6 by omega), nm_le (show 4 ^ s.1 3 < 2147483648 by omega) (show i < 2147483648 by omega), show (4 ^ s.1 3 ≤ i) = False from eq_false (by omega), if_false, e1, am_bs, show (nI 0 = (0 : Int32)) = True from eq_true rfl, if_true, show (nI C ≤ (0 : Int32)) = False from by rw [nm_0, nm_le (by omega) (by decide)]; exact eq_false (by omega), show decide (0 < C) = true from decide_eq_true (by omega)]
            rfl
        · refine ⟨decide (C = ps_sz s (s.1 3)), fun kk q1 q2 => by rw [(hcv kk q1 q2 1).2, if_neg (by decide)], ?_⟩
          unfold fX10_setCover_6
          by_cases c : C = ps_sz s (s.1 3)
          · simp only [d3, nm_p4 (show s.1 3 ≤ 6 by omega), nm_le (show 4 ^ s.1 3 < 2147483648 by omega) (show i < 2147483648 by omega), show (4 ^ s.1 3 ≤ i) = False from eq_false (by omega), if_false, e1, am_bs, show (nI 1 = (0 : Int32)) = False from eq_false (by decide), if_true, e2, c, decide_true]
            rfl
          · simp only [d3, nm_p4 (show s.1 3 ≤ 6 by omega), nm_le (show 4 ^ s.1 3 < 2147483648 by omega) (show i < 2147483648 by omega), show (4 ^ s.1 3 ≤ i) = False from eq_false (by omega), if_false, e1, am_bs, show (nI 1 = (0 : Int32)) = False from eq_false (by decide), if_true, e2, nm_eq (show C < 2147483648 by omega) (show ps_sz s (s.1 3) < 2147483648 by omega), c, decide_false]
            rfl
      obtain ⟨b, hb1, hb2⟩ := hb
      have he : (i + 1) * ps_sz s (s.1 3) = i * ps_sz s (s.1 3) + ps_sz s (s.1 3) := Nat.succ_mul _ _
      have K := am_loop_inv (f := fX10_setCover_75 k) (fun j st => ∃ T, st = (53, nI w, nI i, nI (if b = true then 1 else 0), nI (i * ps_sz s (s.1 3) + j), T) ∧ ps_R s M T ∧ ps_row T 60 (4 ^ s.1 0) (ps_sk s) ∧ ps_row T 61 (i * ps_sz s (s.1 3) + j) (ps_cov s w)) (fun r => ∃ st', (∃ T, st' = (53, nI w, nI (i + 1), T) ∧ ps_R s M T ∧ ps_row T 60 (4 ^ s.1 0) (ps_sk s) ∧ ps_row T 61 ((i + 1) * ps_sz s (s.1 3)) (ps_cov s w)) ∧ r = k st') (ps_sz s (s.1 3))
        (fun j st k2 hj ⟨T, e, h1, h2, h3⟩ => by
          subst e
          obtain ⟨-, -, r21, r22, -, -, -, -, -, -, l60, l61, -⟩ := h1.1.r
          have d0 := h1.1.2.2.1
          have d3 := h1.1.2.2.2.2.2.1
          have e2 := pm_size o2 o5 d0
          rw [← hsz] at e2
          refine Or.inl ⟨_, ⟨am_pI T 61 (i * ps_sz s (s.1 3) + j) (nI (if b = true then 1 else 0)), rfl, h1.pI (Or.inr (by decide)) _, h2.cg (am_pI_r _ _ _ _ (by decide)), fun kk hkk => ?_⟩, ?_⟩
          · rw [am_pI_1]
            by_cases c : kk = i * ps_sz s (s.1 3) + j
            · rw [if_pos ⟨rfl, c⟩, hb1 kk (by omega) (by omega)]
            · rw [if_neg (fun q => c q.2)]; exact h3 kk (by omega)
          · unfold fX10_setCover_75
            simp only [d3, e2, am_bs, nI_1, pk_mul, he, nm_le (show i * ps_sz s (s.1 3) + ps_sz s (s.1 3) < 2147483648 by omega) (show i * ps_sz s (s.1 3) + j < 2147483648 by omega), show (i * ps_sz s (s.1 3) + ps_sz s (s.1 3) ≤ i * ps_sz s (s.1 3) + j) = False from eq_false (by omega), if_false, r22, l61, nm_cl (show i * ps_sz s (s.1 3) + j < 2147483648 by omega), am_ixc (show i * ps_sz s (s.1 3) + j < 4096 by omega) (show 4096 < 2147483648 by decide), Nat.add_assoc])
        (fun st k2 ⟨T, e, h1, h2, h3⟩ => by
          subst e
          have d0 := h1.1.2.2.1
          have d3 := h1.1.2.2.2.2.2.1
          have e2 := pm_size o2 o5 d0
          rw [← hsz] at e2
          refine ⟨_, ⟨T, rfl, h1, h2, by rw [he]; exact h3⟩, ?_⟩
          unfold fX10_setCover_75
          simp only [d3, e2, am_bs, nI_1, pk_mul, he, Int32.le_refl, if_true])
        100000 0 (53, nI w, nI i, nI (if b = true then 1 else 0), nI (i * ps_sz s (s.1 3)), T) (Nat.zero_le _) (by omega) ⟨T, rfl, h1, h2, h3⟩
      obtain ⟨st', q1, q2⟩ := K
      refine ⟨st', q1, ?_⟩
      rw [← q2, hb2]
      unfold fX10_setCover_61
      simp only [d3, e2, am_bs, pk_mul])
    (fun st k ⟨T, e, h1, h2, h3⟩ => by
      subst e
      rw [hm] at h3
      refine ⟨T, ?_, h1, h2, h3⟩
      unfold fX10_setCover_6
      simp only [h1.1.2.2.2.2.2.1, nm_p4 (show s.1 3 ≤ 6 by omega), Int32.le_refl, if_true])
    100000 0 (53, nI w, nI 0, T0) (Nat.zero_le _) (by omega) ⟨T0, rfl, a2, a3, fun k hk => by rw [Nat.zero_mul] at hk; exact absurd hk (Nat.not_lt_zero k)⟩
  obtain ⟨T, e, h1, h2, h3⟩ := L
  refine ⟨T, ?_, h1, h2, h3⟩
  unfold fX10_setCover
  simp only [a1, am_bs]
  exact e
