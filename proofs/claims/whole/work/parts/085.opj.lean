/-! box, disc: the operations -/
theorem nm_if0 (P : Prop) [Decidable P] : ((if P then (1 : Int32) else 0) = 0) = ¬ P := by
  by_cases h : P <;> simp [h]
theorem nm_bitself {a : Nat} (ha : a ≤ 1) : (nI a &&& 1 = nI a) = True := by
  rcases (show a = 0 ∨ a = 1 by omega) with rfl | rfl
  · exact eq_true rfl
  · exact eq_true rfl
theorem px_addBox {M : am_M} {pl n q : Nat} (h1 : M.1 pl 2 = nI n) (h2 : M.2.2.1 pl 1 = some (pl + 6)) (h3 : am_len M (pl + 6) = 8) (hq : M.2.2.1 (pl + 6) n = some q) (hne : pl ≠ q) (hn : n < 8) {a : Nat} (ha : a ≤ 1) (x y v w : Int32) : fX5_addBox pl (nI a) x y v w M = some (1, am_pI (am_six M q (nI a) (nI 0) x y v w) pl 2 (nI (n + 1))) := by
  have c1 : (nI n < 8) = True := by rw [nm_8, nm_lt (by omega) (by decide)]; exact eq_true hn
  have e : (am_six M q (nI a) (nI 0) x y v w).1 pl 2 = nI n := by rw [am_six_o _ _ _ _ _ _ _ _ hne]; exact h1
  unfold fX5_addBox fX4_becomeBox
  simp only [h1, c1, if_true, h2, Option.bind_some, h3, nm_cl (show n < 2147483648 by omega), am_ixc hn (show 8 < 2147483648 by decide), if_false, hq, nm_bitself ha]
  show some (1, am_pI (am_six M q (nI a) (nI 0) x y v w) pl 2 ((am_six M q (nI a) (nI 0) x y v w).1 pl 2 + 1)) = _
  rw [e, nI_1]
theorem px_addDisc {M : am_M} {pl n q : Nat} (h1 : M.1 pl 2 = nI n) (h2 : M.2.2.1 pl 1 = some (pl + 6)) (h3 : am_len M (pl + 6) = 8) (hq : M.2.2.1 (pl + 6) n = some q) (hne : pl ≠ q) (hn : n < 8) {a : Nat} (ha : a ≤ 1) (x y v : Int32) : fX5_addDisc pl (nI a) x y v M = some (1, am_pI (am_six M q (nI a) (nI 1) x y v (nI 0)) pl 2 (nI (n + 1))) := by
  have c1 : (nI n < 8) = True := by rw [nm_8, nm_lt (by omega) (by decide)]; exact eq_true hn
  have e : (am_six M q (nI a) (nI 1) x y v (nI 0)).1 pl 2 = nI n := by rw [am_six_o _ _ _ _ _ _ _ _ hne]; exact h1
  unfold fX5_addDisc fX4_becomeDisc
  simp only [h1, c1, if_true, h2, Option.bind_some, h3, nm_cl (show n < 2147483648 by omega), am_ixc hn (show 8 < 2147483648 by decide), if_false, hq, nm_bitself ha]
  show some (1, am_pI (am_six M q (nI a) (nI 1) x y v (nI 0)) pl 2 ((am_six M q (nI a) (nI 1) x y v (nI 0)).1 pl 2 + 1)) = _
  rw [e, nI_1]
theorem nm_bits {a : Int32} (h : a = 0 ∨ a = 1) : ∃ b, b ≤ 1 ∧ a = nI b := by
  rcases h with rfl | rfl
  · exact ⟨0, by decide, rfl⟩
  · exact ⟨1, by decide, rfl⟩
theorem ps_X.free {s : ps_S} {pl : Nat} {M : am_M} (hX : ps_X s pl M) (h8 : s.1 4 < 8) : ∃ q, M.2.2.1 (pl + 6) (s.1 4) = some q ∧ pl ≠ q ∧ q < 53 := by
  obtain ⟨pi, hpi, -⟩ := hX.2.2.2.2.2.1 pl hX.2.1
  obtain ⟨a, b⟩ := hpi _ h8
  have := hX.2.1
  exact ⟨_, b, by omega, by omega⟩
theorem am_fx.six {M M1 : am_M} (h : am_fx M M1) {q : Nat} (hq : q < 53) (a b c d e f : Int32) : am_fx M (am_six M1 q a b c d e f) := (((((h.pI hq _ _).pI hq _ _).pI hq _ _).pI hq _ _).pI hq _ _).pI hq _ _
theorem op_box (a x y v w : Int32) : ps_op (fX9_box 0 a x y v w) (fX10_box 53 a x y v w) := by
  intro s ho
  obtain ⟨o1, o2, o3, o4, o5, o6, -⟩ := id ho
  have hp : 2 ^ s.1 0 ≤ 2 ^ 6 := Nat.pow_le_pow_right (by decide) o2
  by_cases hQ : (a = 0 ∨ a = 1) ∧ ((0 ≤ x ∧ x < nI (2 ^ s.1 0)) ∧ (0 ≤ y ∧ y < nI (2 ^ s.1 0))) ∧ ((0 ≤ v ∧ v < nI (2 ^ s.1 0)) ∧ (0 ≤ w ∧ w < nI (2 ^ s.1 0))) ∧ ¬ v < x ∧ ¬ w < y
  · obtain ⟨h1, h2, h3, h4, h5⟩ := hQ
    obtain ⟨b, hb, rfl⟩ := nm_bits h1
    obtain ⟨i, hi, rfl⟩ := nm_of (by omega) h2.1
    obtain ⟨j, hj, rfl⟩ := nm_of (by omega) h2.2
    obtain ⟨k, hk, rfl⟩ := nm_of (by omega) h3.1
    obtain ⟨l, hl, rfl⟩ := nm_of (by omega) h3.2
    have h5' : nI j ≤ nI l := Int32.not_lt.mp h5
    have h61 : ∀ (pl : Nat) (M : am_M), (if nI b = 1 then fX9_box_61 0 (nI i) (nI j) (nI k) (nI l) 1 pl M else fX9_box_61 0 (nI i) (nI j) (nI k) (nI l) 0 pl M) = fX9_box_61 0 (nI i) (nI j) (nI k) (nI l) (nI b) pl M := by
      intro pl M
      rcases (show b = 0 ∨ b = 1 by omega) with rfl | rfl
      · rw [if_neg (by decide)]; rfl
      · rw [if_pos (by decide)]; rfl
    let f : Nat → Nat := fun t => match t with | 0 => b | 1 => 0 | 2 => i | 3 => j | 4 => k | _ => l
    by_cases h8 : s.1 4 = 8
    · refine ⟨-3, s, ho, ps_ox.same (fun pl M hX => ?_), ps_om.same (fun M hM => ?_)⟩
      · obtain ⟨p1, p2, p3, p4, p5, p6, p7, p8, -⟩ := hX.pl
        unfold fX9_box
        simp only [px_bit, px_hasCell ho p4, p2, Option.bind_some, nm_if0, h1, h2, h3, h4, not_true_eq_false, if_false, h5', if_true, h61, nm_1f, and_self]
        unfold fX9_box_61 fX5_addBox
        simp only [p3, h8, show (nI 8 < 8) = False from eq_false (by decide), if_false, Option.bind_some, if_true]
      · unfold fX10_box
        simp only [pm_bit, pm_isCell ho hM.2.2.1, Option.bind_some, nm_if0, h1, h2, h3, h4, h5, not_true_eq_false, if_false]
        have q := (pm_more ho hM f).1 h8
        rw [show fX10_more 53 (nI b) 0 (nI i) (nI j) (nI k) (nI l) M = _ from q]
        rfl
    · have h8' : s.1 4 < 8 := by omega
      refine ⟨nI (s.1 4 + 1), ps_more s f, ps_more_ok ho h8' ⟨hb, Nat.zero_le _, by show i < 64; omega, by show j < 64; omega, by show k < 64; omega, by show l < 64; omega⟩, fun pl M hX => ?_, fun M hM => ?_⟩
      · obtain ⟨p1, p2, p3, p4, p5, p6, p7, p8, p9, p10, p11, p12, p13, p14, p15, p16, p17, p18, p19⟩ := hX.pl
        obtain ⟨q, hq, hne, hlt⟩ := hX.free h8'
        obtain ⟨r1, r2, r3⟩ := px_more hX h8' f hq
        refine ⟨pl, _, ?_, r1, ((((am_fx.rf M).six hlt _ _ _ _ _ _).pI (by omega) _ _).pI (by decide) _ _).pI (by decide) _ _⟩
        have hR : (am_six M q (nI (f 0)) (nI (f 1)) (nI (f 2)) (nI (f 3)) (nI (f 4)) (nI (f 5))).2 = M.2 := rfl
        have hA := px_addBox p3 p10 p19 hq hne h8' hb (nI i) (nI j) (nI k) (nI l)
        have hA : fX5_addBox pl (nI b) (nI i) (nI j) (nI k) (nI l) M = some (1, am_pI (am_six M q (nI (f 0)) (nI (f 1)) (nI (f 2)) (nI (f 3)) (nI (f 4)) (nI (f 5))) pl 2 (nI (s.1 4 + 1))) := hA
        generalize am_six M q (nI (f 0)) (nI (f 1)) (nI (f 2)) (nI (f 3)) (nI (f 4)) (nI (f 5)) = T at hR hA
        have e1 : (am_pI (am_pI (am_pI T pl 2 (nI (s.1 4 + 1))) 5 5 (nI 0)) 5 6 (nI 0)).1 pl 2 = nI (s.1 4 + 1) := by
          rw [am_pI_1, if_neg (by omega), am_pI_1, if_neg (by omega), am_pI_1, if_pos ⟨rfl, rfl⟩]
        unfold fX9_box
        simp only [px_bit, px_hasCell ho p4, p2, Option.bind_some, nm_if0, h1, h2, h3, h4, not_true_eq_false, if_false, h5', if_true, h61]
        unfold fX9_box_61 fX0_forget
        simp only [hA, Option.bind_some, nm_1f, if_false, am_pI_2, hR, p8, p2]
        exact congrArg (fun z => some (z, _)) e1
      · unfold fX10_box
        simp only [pm_bit, pm_isCell ho hM.2.2.1, Option.bind_some, nm_if0, h1, h2, h3, h4, h5, not_true_eq_false, if_false]
        obtain ⟨M1, q1, q2, q3⟩ := (pm_more ho hM f).2 h8'
        refine ⟨M1, ?_, q2, q3⟩
        rw [show fX10_more 53 (nI b) 0 (nI i) (nI j) (nI k) (nI l) M = _ from q1]
        rfl
  · refine ⟨-1, s, ho, ps_ox.same (fun pl M hX => ?_), ps_om.same (fun M hM => ?_)⟩
    · obtain ⟨p1, p2, p3, p4, p5, p6, p7, p8, -⟩ := hX.pl
      unfold fX9_box
      simp only [px_bit, px_hasCell ho p4, p2, Option.bind_some, nm_if0]
      by_cases h1 : a = 0 ∨ a = 1
      · by_cases h2 : (0 ≤ x ∧ x < nI (2 ^ s.1 0)) ∧ (0 ≤ y ∧ y < nI (2 ^ s.1 0))
        · by_cases h3 : (0 ≤ v ∧ v < nI (2 ^ s.1 0)) ∧ (0 ≤ w ∧ w < nI (2 ^ s.1 0))
          · by_cases h4 : v < x
            · rw [if_neg (not_not_intro h1), if_neg (not_not_intro h2), if_neg (not_not_intro h3), if_pos h4]
            · have h5 : ¬ y ≤ w := fun h => hQ ⟨h1, h2, h3, h4, Int32.not_lt.mpr h⟩
              rw [if_neg (not_not_intro h1), if_neg (not_not_intro h2), if_neg (not_not_intro h3), if_neg h4, if_neg h5]
          · rw [if_neg (not_not_intro h1), if_neg (not_not_intro h2), if_pos h3]
        · rw [if_neg (not_not_intro h1), if_pos h2]
      · rw [if_pos h1]
    · unfold fX10_box
      simp only [pm_bit, pm_isCell ho hM.2.2.1, Option.bind_some, nm_if0]
      by_cases h1 : a = 0 ∨ a = 1
      · by_cases h2 : (0 ≤ x ∧ x < nI (2 ^ s.1 0)) ∧ (0 ≤ y ∧ y < nI (2 ^ s.1 0))
        · by_cases h3 : (0 ≤ v ∧ v < nI (2 ^ s.1 0)) ∧ (0 ≤ w ∧ w < nI (2 ^ s.1 0))
          · by_cases h4 : v < x
            · rw [if_neg (not_not_intro h1), if_neg (not_not_intro h2), if_neg (not_not_intro h3), if_pos h4]
            · have h5 : w < y := Decidable.byContradiction fun h => hQ ⟨h1, h2, h3, h4, h⟩
              rw [if_neg (not_not_intro h1), if_neg (not_not_intro h2), if_neg (not_not_intro h3), if_neg h4, if_pos h5]
          · rw [if_neg (not_not_intro h1), if_neg (not_not_intro h2), if_pos h3]
        · rw [if_neg (not_not_intro h1), if_pos h2]
      · rw [if_pos h1]
theorem op_disc (a x y v : Int32) : ps_op (fX9_disc 0 a x y v) (fX10_disc 53 a x y v) := by
  intro s ho
  obtain ⟨o1, o2, o3, o4, o5, o6, -⟩ := id ho
  have hp : 2 ^ s.1 0 ≤ 2 ^ 6 := Nat.pow_le_pow_right (by decide) o2
  have i63 : ∀ M, fX10_isIn v 0 63 M = some (if 0 ≤ v ∧ v < nI 64 then 1 else 0, M) := fun M => pm_in (n := 63) (by decide) v M
  have l63 : (v ≤ 63) = (v < nI 64) := by
    have q1 := nI_toInt (n := 63) (by omega)
    have q2 := nI_toInt (n := 64) (by omega)
    rw [nm_63, Int32.lt_iff_toInt_lt, Int32.le_iff_toInt_le, q1, q2]
    apply propext
    omega
  by_cases hQ : (a = 0 ∨ a = 1) ∧ ((0 ≤ x ∧ x < nI (2 ^ s.1 0)) ∧ (0 ≤ y ∧ y < nI (2 ^ s.1 0))) ∧ (0 ≤ v ∧ v < nI 64)
  · obtain ⟨h1, h2, h3⟩ := hQ
    obtain ⟨b, hb, rfl⟩ := nm_bits h1
    obtain ⟨i, hi, rfl⟩ := nm_of (by omega) h2.1
    obtain ⟨j, hj, rfl⟩ := nm_of (by omega) h2.2
    obtain ⟨k, hk, rfl⟩ := nm_of (by omega) h3
    have h4 : ¬ nI k < 0 := nI_pos (by omega)
    have h5 := h3.2
    have h47 : ∀ (pl : Nat) (M : am_M), (if nI b = 1 then fX9_disc_47 0 (nI i) (nI j) (nI k) 1 pl M else fX9_disc_47 0 (nI i) (nI j) (nI k) 0 pl M) = fX9_disc_47 0 (nI i) (nI j) (nI k) (nI b) pl M := by
      intro pl M
      rcases (show b = 0 ∨ b = 1 by omega) with rfl | rfl
      · rw [if_neg (by decide)]; rfl
      · rw [if_pos (by decide)]; rfl
    let f : Nat → Nat := fun t => match t with | 0 => b | 1 => 1 | 2 => i | 3 => j | 4 => k | _ => 0
    by_cases h8 : s.1 4 = 8
    · refine ⟨-3, s, ho, ps_ox.same (fun pl M hX => ?_), ps_om.same (fun M hM => ?_)⟩
      · obtain ⟨p1, p2, p3, p4, p5, p6, p7, p8, -⟩ := hX.pl
        unfold fX9_disc
        simp only [px_bit, px_hasCell ho p4, p2, Option.bind_some, nm_if0, h1, h2, l63, h4, h5, not_true_eq_false, if_false, if_true, h47, nm_1f, and_self]
        unfold fX9_disc_47 fX5_addDisc
        simp only [p3, h8, show (nI 8 < 8) = False from eq_false (by decide), if_false, Option.bind_some, if_true]
      · unfold fX10_disc
        simp only [pm_bit, pm_isCell ho hM.2.2.1, i63, Option.bind_some, nm_if0, h1, h2, h3, not_true_eq_false, if_false, nm_1f, and_self]
        have q := (pm_more ho hM f).1 h8
        rw [show fX10_more 53 (nI b) 1 (nI i) (nI j) (nI k) 0 M = _ from q]
        rfl
    · have h8' : s.1 4 < 8 := by omega
      refine ⟨nI (s.1 4 + 1), ps_more s f, ps_more_ok ho h8' ⟨hb, Nat.le_refl 1, by show i < 64; omega, by show j < 64; omega, by show k < 64; omega, by show 0 < 64; omega⟩, fun pl M hX => ?_, fun M hM => ?_⟩
      · obtain ⟨p1, p2, p3, p4, p5, p6, p7, p8, p9, p10, p11, p12, p13, p14, p15, p16, p17, p18, p19⟩ := hX.pl
        obtain ⟨q, hq, hne, hlt⟩ := hX.free h8'
        obtain ⟨r1, r2, r3⟩ := px_more hX h8' f hq
        refine ⟨pl, _, ?_, r1, ((((am_fx.rf M).six hlt _ _ _ _ _ _).pI (by omega) _ _).pI (by decide) _ _).pI (by decide) _ _⟩
        have hR : (am_six M q (nI (f 0)) (nI (f 1)) (nI (f 2)) (nI (f 3)) (nI (f 4)) (nI (f 5))).2 = M.2 := rfl
        have hA := px_addDisc p3 p10 p19 hq hne h8' hb (nI i) (nI j) (nI k)
        have hA : fX5_addDisc pl (nI b) (nI i) (nI j) (nI k) M = some (1, am_pI (am_six M q (nI (f 0)) (nI (f 1)) (nI (f 2)) (nI (f 3)) (nI (f 4)) (nI (f 5))) pl 2 (nI (s.1 4 + 1))) := hA
        generalize am_six M q (nI (f 0)) (nI (f 1)) (nI (f 2)) (nI (f 3)) (nI (f 4)) (nI (f 5)) = T at hR hA
        have e1 : (am_pI (am_pI (am_pI T pl 2 (nI (s.1 4 + 1))) 5 5 (nI 0)) 5 6 (nI 0)).1 pl 2 = nI (s.1 4 + 1) := by
          rw [am_pI_1, if_neg (by omega), am_pI_1, if_neg (by omega), am_pI_1, if_pos ⟨rfl, rfl⟩]
        unfold fX9_disc
        simp only [px_bit, px_hasCell ho p4, p2, Option.bind_some, nm_if0, h1, h2, l63, h4, h5, not_true_eq_false, if_false, if_true, h47, nm_1f, and_self]
        unfold fX9_disc_47 fX0_forget
        simp only [hA, Option.bind_some, nm_1f, if_false, am_pI_2, hR, p8, p2]
        exact congrArg (fun z => some (z, _)) e1
      · unfold fX10_disc
        simp only [pm_bit, pm_isCell ho hM.2.2.1, i63, Option.bind_some, nm_if0, h1, h2, h3, not_true_eq_false, if_false, nm_1f, and_self]
        obtain ⟨M1, q1, q2, q3⟩ := (pm_more ho hM f).2 h8'
        refine ⟨M1, ?_, q2, q3⟩
        rw [show fX10_more 53 (nI b) 1 (nI i) (nI j) (nI k) 0 M = _ from q1]
        rfl
  · refine ⟨-1, s, ho, ps_ox.same (fun pl M hX => ?_), ps_om.same (fun M hM => ?_)⟩
    · obtain ⟨p1, p2, p3, p4, p5, p6, p7, p8, -⟩ := hX.pl
      unfold fX9_disc
      simp only [px_bit, px_hasCell ho p4, p2, Option.bind_some, nm_if0, l63]
      by_cases h1 : a = 0 ∨ a = 1
      · by_cases h2 : (0 ≤ x ∧ x < nI (2 ^ s.1 0)) ∧ (0 ≤ y ∧ y < nI (2 ^ s.1 0))
        · by_cases h4 : v < 0
          · rw [if_neg (not_not_intro h1), if_neg (not_not_intro h2), if_pos h4]
          · have h5 : ¬ v < nI 64 := fun h => hQ ⟨h1, h2, Int32.not_lt.mp h4, h⟩
            rw [if_neg (not_not_intro h1), if_neg (not_not_intro h2), if_neg h4, if_neg h5]
        · rw [if_neg (not_not_intro h1), if_pos h2]
      · rw [if_pos h1]
    · unfold fX10_disc
      simp only [pm_bit, pm_isCell ho hM.2.2.1, i63, Option.bind_some, nm_if0]
      by_cases h1 : a = 0 ∨ a = 1
      · by_cases h2 : (0 ≤ x ∧ x < nI (2 ^ s.1 0)) ∧ (0 ≤ y ∧ y < nI (2 ^ s.1 0))
        · by_cases h3 : 0 ≤ v ∧ v < nI 64
          · exact absurd ⟨h1, h2, h3⟩ hQ
          · rw [if_neg (not_not_intro h1), if_neg (not_not_intro h2), if_pos h3]
        · rw [if_neg (not_not_intro h1), if_pos h2]
      · rw [if_pos h1]
