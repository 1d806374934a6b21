/-! the reference goes through the text -/
def am_gi (lb : Nat) (M T : am_M) : Prop := T.2 = M.2 ∧ (∀ a, a ≠ 53 → a ≠ 59 → (lb = 0 ∨ (a ≠ 54 ∧ a ≠ 55 ∧ a ≠ 56)) → T.1 a = M.1 a) ∧ ∀ j, j < 13 → (lb = 0 ∨ 4 ≤ j) → T.1 53 j = M.1 53 j
theorem am_gi.tr {lb : Nat} {M T U : am_M} (h : am_gi lb M T) (h' : am_gi lb T U) : am_gi lb M U := ⟨h'.1.trans h.1, fun a x y z => (h'.2.1 a x y z).trans (h.2.1 a x y z), fun j x y => (h'.2.2 j x y).trans (h.2.2 j x y)⟩
theorem am_g3.i {lb : Nat} {M T : am_M} (h : am_g3 M T) : am_gi lb M T := ⟨h.1, fun a x y _ => h.2.1 a x y, fun j x _ => h.2.2 j (by omega)⟩
/-- a refused text -/
def tm_F (lb code k : Nat) (M T : am_M) : Prop := T.2 = M.2 ∧ (∀ a, a ≠ 53 → a ≠ 58 → a ≠ 59 → (lb = 0 ∨ (a ≠ 54 ∧ a ≠ 55 ∧ a ≠ 56)) → T.1 a = M.1 a) ∧ (∀ j, j < 13 → j ≠ 11 → (lb = 0 ∨ 4 ≤ j) → T.1 53 j = M.1 53 j) ∧ T.1 53 11 = nI (if 20 ≤ code then 3 else 2) ∧ T.1 58 0 = nI (100 + k) ∧ T.1 58 1 = nI (if 20 ≤ code then 4 else code) ∧ (20 ≤ code → T.1 58 2 = nI code)
theorem op_bb {α β : Type} (X : Option (Int32 × α)) (Y : α → Option (Int32 × α)) (F : Int32 → α → Option β) : (X.bind fun a => if a.1 = 0 then F 0 a.2 else (Y a.2).bind fun b => if b.1 = 0 then F 0 b.2 else F 1 b.2) = (X.bind fun a => if a.1 = 0 then some ((0 : Int32), a.2) else (Y a.2).bind fun b => if b.1 = 0 then some (0, b.2) else some (1, b.2)).bind fun p => F p.1 p.2 := by
  cases X with
  | none => rfl
  | some a =>
    rw [am_bs, am_bs]
    by_cases c : a.1 = 0
    · rw [if_pos c, if_pos c, am_bs]
    · rw [if_neg c, if_neg c]
      cases Y a.2 with
      | none => rfl
      | some b =>
        rw [am_bs, am_bs]
        by_cases c2 : b.1 = 0
        · rw [if_pos c2, if_pos c2, am_bs]
        · rw [if_neg c2, if_neg c2, am_bs]
theorem pm_item {s d : ps_S} {lb k p : Nat} {T : am_M} (ho : ps_ok s) (od : ps_ok d) (hlb : lb ≤ 1) (hS : tm_S T) (hC : tm_C s p T) (hD : tm_D d k T) (h0 : k = 0 → d.1 4 = 0 ∧ d.1 5 = 0) (hL : lb = 1 → tm_L d k T) (hp : p ≤ 200) (hk : k < 1000) : ((tx_item (tx_h s) k d p).1 = 0 ∧ ∃ U, fX10_readsItem 53 (nI lb) T = some (1, U) ∧ am_gi lb T U ∧ tm_C s (tx_item (tx_h s) k d p).2.1 U ∧ tm_D (tx_item (tx_h s) k d p).2.2 (k + 1) U ∧ (lb = 1 → tm_L (tx_item (tx_h s) k d p).2.2 (k + 1) U) ∧ (tx_item (tx_h s) k d p).2.1 ≤ 202) ∨ (¬ (tx_item (tx_h s) k d p).1 = 0 ∧ ∃ U, fX10_readsItem 53 (nI lb) T = some (0, U) ∧ tm_bad (tx_item (tx_h s) k d p).1 T U) := by
  have eh := pm_here ho hS hC (by omega)
  obtain ⟨T1, a1, a2, a3⟩ := pm_begins ho hS hC hp
  have S1 := hS.fr a2.1
  have hkc := tx_k_c (tx_h s) p
  have em := pm_mayB (kd := tx_k (tx_h s) p) (k := k) (np := d.1 4) (nq := d.1 5) (T := T1) (by rw [a2.2.2 14 (by decide)]; exact hD.1) (by rw [a2.2.2 15 (by decide)]; exact hD.2.1) (by rw [a2.2.2 16 (by decide)]; exact hD.2.2.1) hkc (by omega) (by have := od.2.2.2.2.2.1; omega) (by have := od.2.2.2.2.2.2.1; omega) (fun z => (h0 z).1)
  have e14 : fX10_readsItem 53 (nI lb) T = fX10_readsItem_14 53 (nI lb) (nI (if tx_h s p = 43 then 1 else 0)) T := by
    unfold fX10_readsItem
    rw [eh, am_bs]
    simp only [show (43 : Int32) = nI 43 from rfl, tm_v_eq ho p (show 0 < 43 by decide) (show 43 ≤ 126 by decide)]
    by_cases c : tx_h s p = 43
    · rw [if_pos c, if_pos c]; rfl
    · rw [if_neg c, if_neg c]; rfl
  rw [e14]
  unfold fX10_readsItem_14
  rw [a1, am_bs]
  simp only [em, am_bs, nm_if0]
  by_cases c1 : tx_m (tx_k (tx_h s) p) k (d.1 4) (d.1 5) = true
  · have m := tx_m_t.mp c1
    have hk4 : tx_k (tx_h s) p = 119 ∨ tx_k (tx_h s) p = 112 ∨ tx_k (tx_h s) p = 98 ∨ tx_k (tx_h s) p = 100 := by
      rcases hkc with z | z | z | z | z
      · exact Or.inl z
      · exact Or.inr (Or.inl z)
      · exact Or.inr (Or.inr (Or.inl z))
      · exact Or.inr (Or.inr (Or.inr z))
      · exact absurd z m.1
    have hq := tx_q_lt (tx_h s) p
    have H0 : tm_H s 0 (tx_q (tx_h s) p) (fun _ => 0) T T1 := ⟨a2, a3 m.1, by omega, fun j hj => absurd hj (Nat.not_lt_zero j)⟩
    rw [if_neg (not_not_intro c1)]
    /- what comes behind the numbers -/
    have cont : ∀ r : Option (Int32 × am_M), tm_RD s (tx_k (tx_h s) p) (2 ^ d.1 0) (tx_q (tx_h s) p) T r → ((tx_item (tx_h s) k d p).1 = 0 ∧ ∃ U, (r.bind fun x => fX10_readsItem_109 53 (nI lb) (nI (if tx_h s p = 43 then 1 else 0)) (tm_w (tx_k (tx_h s) p)) x.1 x.2) = some (1, U) ∧ am_gi lb T U ∧ tm_C s (tx_item (tx_h s) k d p).2.1 U ∧ tm_D (tx_item (tx_h s) k d p).2.2 (k + 1) U ∧ (lb = 1 → tm_L (tx_item (tx_h s) k d p).2.2 (k + 1) U) ∧ (tx_item (tx_h s) k d p).2.1 ≤ 202) ∨ (¬ (tx_item (tx_h s) k d p).1 = 0 ∧ ∃ U, (r.bind fun x => fX10_readsItem_109 53 (nI lb) (nI (if tx_h s p = 43 then 1 else 0)) (tm_w (tx_k (tx_h s) p)) x.1 x.2) = some (0, U) ∧ tm_bad (tx_item (tx_h s) k d p).1 T U) := fun r hr => by
      rcases hr with ⟨b1, W, b2, b3⟩ | ⟨b1, W, b2, b3⟩
      · left
        have ei : (tx_item (tx_h s) k d p).1 = 0 := by unfold tx_item; rw [if_pos c1, if_pos b1]
        obtain ⟨-, -, m3, m4, -, m6⟩ := tx_item_ok od ei
        have hV : ∀ j, j < tx_many (tx_k (tx_h s) p) → W.1 59 j = nI (tx_V (tx_h s) d p j) := fun j hj => (b3.2.2.2 j hj).1
        have SW := hS.fr b3.1.1
        have DW : tm_D d k W := ⟨by rw [b3.1.2.2 14 (by decide)]; exact hD.1, by rw [b3.1.2.2 15 (by decide)]; exact hD.2.1, by rw [b3.1.2.2 16 (by decide)]; exact hD.2.2.1, fun z => by rw [b3.1.2.2 17 (by decide)]; exact hD.2.2.2 z⟩
        have hV6 : tx_k (tx_h s) p = 119 → tx_V (tx_h s) d p 0 ≤ 6 := fun z => by
          have := m4.2.1
          unfold tx_put at this
          rw [if_pos z] at this
          exact this
        have hm2 := tx_many_le (tx_k (tx_h s) p)
        rw [m3, m6]
        refine ⟨ei, ?_⟩
        rw [b2, am_bs]
        rcases (show lb = 0 ∨ lb = 1 by omega) with rfl | rfl
        · obtain ⟨U, u1, u2, u3, u4, u5⟩ := pm_128 (sg := tx_h s p) SW hk4 DW m.2.1 h0 (hV 0 (by omega)) hV6
          refine ⟨U, ?_, ⟨u2.trans b3.1.1, fun a x y _ => (u3 a x).trans (b3.1.2.1 a x y), fun j x _ => (u4 j (by omega)).trans (b3.1.2.2 j (by omega))⟩, ⟨by rw [u4 10 (by decide)]; exact b3.2.1.1, by rw [u4 13 (by decide)]; exact b3.2.1.2.1, fun i hi => by rw [u3 57 (by decide)]; exact b3.2.1.2.2 i hi⟩, u5, fun z => absurd z (by decide), b3.2.2.1⟩
          unfold fX10_readsItem_109
          simp only [nm_1f, if_false, show (nI 0 = (0 : Int32)) = True from eq_true rfl, if_true, u1]
        · have LW : tm_L d k W := (hL rfl).fr (fun j hj => b3.1.2.2 j (by omega)) (fun a ha => b3.1.2.1 a (by omega) (by omega))
          obtain ⟨X, x1, x2, x3⟩ := pm_lays (sg := tx_h s p) (V := tx_V (tx_h s) d p) od SW hk4 DW LW m.2.1 m.2.2 hV
          have SX := SW.fr x2.1
          have DX : tm_D d k X := ⟨by rw [x2.2.2 14 (by decide)]; exact DW.1, by rw [x2.2.2 15 (by decide)]; exact DW.2.1, by rw [x2.2.2 16 (by decide)]; exact DW.2.2.1, fun z => by rw [x2.2.2 17 (by decide)]; exact DW.2.2.2 z⟩
          obtain ⟨U, u1, u2, u3, u4, u5⟩ := pm_128 (sg := tx_h s p) (V := tx_V (tx_h s) d p) SX hk4 DX m.2.1 h0 (by rw [x2.2.1 59 (by decide) (by decide) (by decide) (by decide)]; exact hV 0 (by omega)) hV6
          refine ⟨U, ?_, ⟨u2.trans (x2.1.trans b3.1.1), fun a x y z => ?_, fun j x z => ?_⟩, ⟨by rw [u4 10 (by decide), x2.2.2 10 (by decide)]; exact b3.2.1.1, by rw [u4 13 (by decide), x2.2.2 13 (by decide)]; exact b3.2.1.2.1, fun i hi => by rw [u3 57 (by decide), x2.2.1 57 (by decide) (by decide) (by decide) (by decide)]; exact b3.2.1.2.2 i hi⟩, u5, fun _ => x3.fr (fun j hj => u4 j (by omega)) (fun a ha => u3 a (by omega)), b3.2.2.1⟩
          · unfold fX10_readsItem_109
            simp only [nm_1f, if_false, show (nI 1 = (0 : Int32)) = False from eq_false (by decide), x1, am_bs, u1]
          · have z' : a ≠ 54 ∧ a ≠ 55 ∧ a ≠ 56 := by
              rcases z with q | q
              · exact absurd q (by decide)
              · exact q
            rw [u3 a x, x2.2.1 a x z'.1 z'.2.1 z'.2.2]; exact b3.1.2.1 a x y
          · have z' : 4 ≤ j := by
              rcases z with q | q
              · exact absurd q (by decide)
              · exact q
            rw [u4 j (by omega), x2.2.2 j z']; exact b3.1.2.2 j (by omega)
      · right
        have ei : (tx_item (tx_h s) k d p).1 = (it_n (tx_h s) (tx_k (tx_h s) p) (2 ^ d.1 0) (tx_many (tx_k (tx_h s) p)) (tx_many (tx_k (tx_h s) p)) 0 (tx_q (tx_h s) p) (fun _ => 0)).1 := by unfold tx_item; rw [if_pos c1, if_neg b1]
        rw [ei]
        refine ⟨b1, W, ?_, b3⟩
        rw [b2, am_bs]
        unfold fX10_readsItem_109
        rw [if_pos rfl]
    have k1 : ¬ tx_k (tx_h s) p = 119 → T.1 53 17 = nI (2 ^ d.1 0) := fun z => hD.2.2.2 (by
      rcases Nat.lt_or_ge 0 k with q | q
      · exact q
      · exact absurd (m.2.1.mpr (by omega)) z)
    rcases hk4 with z | z | z | z
    · rw [z] at cont ⊢
      have c := cont _ (pm_world (sd := 2 ^ d.1 0) ho hS H0)
      simp only [show tm_w 119 = (0 : Int32) from rfl, if_true] at c ⊢
      exact c
    · rw [z] at cont ⊢
      have c := cont _ (pm_pt ho hS od.2.1 (k1 (by omega)) H0)
      rw [← op_bb (fX10_number 53 0 44 0 (T1.1 53 17 - 1) T1) (fun a => fX10_number 53 1 59 0 (a.1 53 17 - 1) a) (fun x y => fX10_readsItem_109 53 (nI lb) (nI (if tx_h s p = 43 then 1 else 0)) (tm_w 112) x y)] at c
      unfold fX10_readsItem_108
      simp only [show tm_w 112 = (3 : Int32) from rfl, show ((3 : Int32) = 0) = False from eq_false (by decide), show ((3 : Int32) = 1) = False from eq_false (by decide), show ((3 : Int32) = 2) = False from eq_false (by decide), if_false] at c ⊢
      exact c
    · rw [z] at cont ⊢
      have c := cont _ (pm_box ho hS od.2.1 (k1 (by omega)) H0)
      simp only [show tm_w 98 = (1 : Int32) from rfl, nm_1f, if_false, if_true] at c ⊢
      exact c
    · rw [z] at cont ⊢
      have c := cont _ (pm_disc ho hS od.2.1 (k1 (by omega)) H0)
      simp only [show tm_w 100 = (2 : Int32) from rfl, show ((2 : Int32) = 0) = False from eq_false (by decide), show ((2 : Int32) = 1) = False from eq_false (by decide), if_false, if_true] at c ⊢
      exact c
  · right
    have ei : (tx_item (tx_h s) k d p).1 = 1 := by unfold tx_item; rw [if_neg c1]
    obtain ⟨U, u1, u2⟩ := pm_causes (w := 1) (i := 0) S1 (Or.inl rfl)
    have u1' : fX10_causes 53 1 0 T1 = some (0, U) := u1
    rw [ei, if_pos c1]
    refine ⟨by decide, U, ?_, a2.bad u2⟩
    rw [u1']
    simp only [am_bs, nz_and0]
theorem pm_run {s : ps_S} {lb : Nat} (ho : ps_ok s) (hlb : lb ≤ 1) : ∀ (f k : Nat) (d : ps_S) (p : Nat) (T : am_M) (N : Nat), k + f = 200 → f < N → k ≤ p → p ≤ 202 → ps_ok d → tm_S T → tm_C s p T → tm_D d k T → (k = 0 → d.1 4 = 0 ∧ d.1 5 = 0) → (lb = 1 → tm_L d k T) → ∃ U, am_loop fX10_goesThrough_25 N (53, nI lb, T) = some (if (tx_run (tx_h s) (s.1 6) f k d p).1 = 0 then -4 else nI (tx_run (tx_h s) (s.1 6) f k d p).2.2.1, U) ∧ ((tx_run (tx_h s) (s.1 6) f k d p).1 = 0 → am_gi lb T U ∧ tm_D (tx_run (tx_h s) (s.1 6) f k d p).2.2.2 (tx_run (tx_h s) (s.1 6) f k d p).2.1 U ∧ (lb = 1 → tm_L (tx_run (tx_h s) (s.1 6) f k d p).2.2.2 (tx_run (tx_h s) (s.1 6) f k d p).2.1 U)) ∧ (¬ (tx_run (tx_h s) (s.1 6) f k d p).1 = 0 → tm_F lb (tx_run (tx_h s) (s.1 6) f k d p).1 (tx_run (tx_h s) (s.1 6) f k d p).2.1 T U)
  | 0, k, d, p, T, N + 1, hf, hN, hkp, hp, od, hS, hC, hD, h0, hL => by
    have o8 := ho.2.2.2.2.2.2.2.1
    have enp : (T.1 53 10 ≤ T.1 53 13) = True := by rw [hC.1, hC.2.1, nm_le (by omega) (by omega)]; exact eq_true (by omega)
    refine ⟨T, ?_, fun _ => ⟨⟨rfl, fun _ _ _ _ => rfl, fun _ _ _ => rfl⟩, hD, hL⟩, fun z => absurd rfl z⟩
    show fX10_goesThrough_25 _ (53, nI lb, T) = _
    unfold fX10_goesThrough_25
    simp only [enp, if_true]
    rfl
  | f + 1, k, d, p, T, N + 1, hf, hN, hkp, hp, od, hS, hC, hD, h0, hL => by
    have o8 := ho.2.2.2.2.2.2.2.1
    have enp : (T.1 53 10 ≤ T.1 53 13) = (s.1 6 ≤ p) := by rw [hC.1, hC.2.1, nm_le (by omega) (by omega)]
    show ∃ U, fX10_goesThrough_25 (am_loop fX10_goesThrough_25 N) (53, nI lb, T) = _ ∧ _
    rw [tx_run]
    unfold fX10_goesThrough_25
    simp only [enp]
    by_cases c0 : s.1 6 ≤ p
    · rw [if_pos c0, if_pos c0]
      exact ⟨T, rfl, fun _ => ⟨⟨rfl, fun _ _ _ _ => rfl, fun _ _ _ => rfl⟩, hD, hL⟩, fun z => absurd rfl z⟩
    · rw [if_neg c0, if_neg c0]
      rcases pm_item ho od hlb hS hC hD h0 hL (by omega) (by omega) with ⟨b1, W, w1, w2, w3, w4, w5, w6⟩ | ⟨b1, W, w1, w2⟩
      · obtain ⟨-, -, m3, m4, m5, -⟩ := tx_item_ok od b1
        have od' : ps_ok (tx_item (tx_h s) k d p).2.2 := by rw [m3]; exact m4
        obtain ⟨U, u1, u2, u3⟩ := pm_run (lb := lb) ho hlb f (k + 1) (tx_item (tx_h s) k d p).2.2 (tx_item (tx_h s) k d p).2.1 W N (by omega) (by omega) (by omega) w6 od' (hS.fr w2.1) w3 w4 (fun z => by omega) w5
        rw [if_pos b1, w1, am_bs]
        refine ⟨U, ?_, fun z => ?_, fun z => ?_⟩
        · rw [← u1]
          show (if (1 : Int32) = 0 then _ else am_loop fX10_goesThrough_25 N (53, nI lb, W)) = _
          rw [if_neg (by decide)]
        · obtain ⟨v1, v2, v3⟩ := u2 z
          exact ⟨w2.tr v1, v2, v3⟩
        · obtain ⟨v1, v2, v3, v4⟩ := u3 z
          exact ⟨v1.trans w2.1, fun a x y z q => (v2 a x y z q).trans (w2.2.1 a x z q), fun j x y z => (v3 j x y z).trans (w2.2.2 j x z), v4⟩
      · rw [if_neg b1, w1, am_bs]
        have SW := hS.fr w2.1
        have r12 := SW.2 53 12 58 (by decide) rfl
        have l58 : am_len W 58 = 3 := am_len_SH SW.1 58
        have e14 : (100 : Int32) + W.1 53 14 = nI (100 + k) := by rw [w2.2.2.1 14 (by decide) (by decide), hD.1, nm_100, nI_add]
        refine ⟨am_pI W 58 0 (nI (100 + k)), ?_, fun z => absurd z b1, fun _ => ⟨w2.1, fun a x y z _ => by rw [am_pI_r _ _ _ _ y]; exact w2.2.1 a x y z, fun j x y _ => by rw [am_pI_r _ _ _ _ (by decide)]; exact w2.2.2.1 j y (by omega), by rw [am_pI_r _ _ _ _ (by decide)]; exact w2.2.2.2.1, by rw [am_pI_1, if_pos ⟨rfl, rfl⟩], by rw [am_pI_1, if_neg (by omega)]; exact w2.2.2.2.2.1, fun z => by rw [am_pI_1, if_neg (by omega)]; exact w2.2.2.2.2.2 z⟩⟩
        rw [if_neg b1]
        simp only [if_true, r12, am_bs, l58, show (0 : Int32).toNatClampNeg = 0 from rfl, show ((0 : Int32) < 0 ∨ 3 ≤ 0) = False from eq_false (by decide), if_false, e14, hC.2.1]
theorem pm_goes {s : ps_S} {lb : Nat} {M : am_M} (ho : ps_ok s) (hlb : lb ≤ 1) (hS : tm_S M) (h10 : M.1 53 10 = nI (s.1 6)) (hL : ∀ i, i < s.1 6 → M.1 57 i = nI (s.2 8 i)) : ∃ U, fX10_goesThrough 53 (nI lb) M = some (if (tx_R s).1 = 0 then -4 else nI (tx_R s).2.2.1, U) ∧ ((tx_R s).1 = 0 → am_gi lb (am_pI M 53 11 0) U ∧ tm_D (tx_R s).2.2.2 (tx_R s).2.1 U ∧ (lb = 1 → tm_L (tx_R s).2.2.2 (tx_R s).2.1 U)) ∧ (¬ (tx_R s).1 = 0 → tm_F lb (tx_R s).1 (tx_R s).2.1 M U) := by
  have hT : ∀ j, j ≠ 11 → j < 13 → (am_pI (am_pI (am_pI (am_pI (am_pI M 53 13 0) 53 14 0) 53 15 0) 53 16 0) 53 11 0).1 53 j = M.1 53 j := fun j a b => by rw [am_pI_1, if_neg (by omega), am_pI_1, if_neg (by omega), am_pI_1, if_neg (by omega), am_pI_1, if_neg (by omega), am_pI_1, if_neg (by omega)]
  have hT2 : ∀ a, a ≠ 53 → (am_pI (am_pI (am_pI (am_pI (am_pI M 53 13 0) 53 14 0) 53 15 0) 53 16 0) 53 11 0).1 a = M.1 a := fun a ha => by rw [am_pI_r _ _ _ _ ha, am_pI_r _ _ _ _ ha, am_pI_r _ _ _ _ ha, am_pI_r _ _ _ _ ha, am_pI_r _ _ _ _ ha]
  have h13 : (am_pI (am_pI (am_pI (am_pI (am_pI M 53 13 0) 53 14 0) 53 15 0) 53 16 0) 53 11 0).1 53 13 = nI 0 := by rw [am_pI_1, if_neg (by omega), am_pI_1, if_neg (by omega), am_pI_1, if_neg (by omega), am_pI_1, if_neg (by omega), am_pI_1, if_pos ⟨rfl, rfl⟩]; rfl
  have h14 : (am_pI (am_pI (am_pI (am_pI (am_pI M 53 13 0) 53 14 0) 53 15 0) 53 16 0) 53 11 0).1 53 14 = nI 0 := by rw [am_pI_1, if_neg (by omega), am_pI_1, if_neg (by omega), am_pI_1, if_neg (by omega), am_pI_1, if_pos ⟨rfl, rfl⟩]; rfl
  have h15 : (am_pI (am_pI (am_pI (am_pI (am_pI M 53 13 0) 53 14 0) 53 15 0) 53 16 0) 53 11 0).1 53 15 = nI 0 := by rw [am_pI_1, if_neg (by omega), am_pI_1, if_neg (by omega), am_pI_1, if_pos ⟨rfl, rfl⟩]; rfl
  have h16 : (am_pI (am_pI (am_pI (am_pI (am_pI M 53 13 0) 53 14 0) 53 15 0) 53 16 0) 53 11 0).1 53 16 = nI 0 := by rw [am_pI_1, if_neg (by omega), am_pI_1, if_pos ⟨rfl, rfl⟩]; rfl
  have h11 : (am_pI (am_pI (am_pI (am_pI (am_pI M 53 13 0) 53 14 0) 53 15 0) 53 16 0) 53 11 0).1 53 11 = 0 := by rw [am_pI_1, if_pos ⟨rfl, rfl⟩]
  have hR : (am_pI (am_pI (am_pI (am_pI (am_pI M 53 13 0) 53 14 0) 53 15 0) 53 16 0) 53 11 0).2 = M.2 := rfl
  unfold fX10_goesThrough
  generalize am_pI (am_pI (am_pI (am_pI (am_pI M 53 13 0) 53 14 0) 53 15 0) 53 16 0) 53 11 0 = T at *
  obtain ⟨U, u1, u2, u3⟩ := pm_run (lb := lb) ho hlb 200 0 (tx_0 s) 0 T 100000 rfl (by decide) (Nat.le_refl 0) (by decide) (tx_0_ok ho) (hS.fr hR) ⟨by rw [hT 10 (by decide) (by decide)]; exact h10, h13, fun i hi => by rw [hT2 57 (by decide)]; exact hL i hi⟩ ⟨h14, h15, h16, fun z => by omega⟩ (fun _ => ⟨rfl, rfl⟩) (fun _ => ⟨fun z => by omega, fun i j hi => absurd hi (Nat.not_lt_zero i), fun i hi => absurd hi (Nat.not_lt_zero i)⟩)
  refine ⟨U, u1, fun z => ?_, fun z => ?_⟩
  · obtain ⟨v1, v2, v3⟩ := u2 z
    refine ⟨⟨v1.1.trans hR, fun a x y q => ?_, fun j x q => ?_⟩, v2, v3⟩
    · rw [am_pI_r _ _ _ _ x, v1.2.1 a x y q]; exact hT2 a x
    · rw [v1.2.2 j x q, am_pI_1]
      by_cases e : j = 11
      · rw [if_pos ⟨rfl, e⟩, e]; exact h11
      · rw [if_neg (fun w => e w.2)]; exact hT j e x
  · obtain ⟨v1, v2, v3, v4⟩ := u3 z
    exact ⟨v1.trans hR, fun a x y w q => (v2 a x y w q).trans (hT2 a x), fun j x y q => (v3 j x y q).trans (hT j y x), v4⟩
