/-! the reference reads an item -/
def tm_H (s : ps_S) (i p : Nat) (v : Nat → Nat) (T0 T : am_M) : Prop := am_g3 T0 T ∧ tm_C s p T ∧ p ≤ 202 ∧ ∀ j, j < i → T.1 59 j = nI (v j) ∧ v j ≤ 86658
theorem pm_nx {s : ps_S} {kd sd mn f i p : Nat} {v : Nat → Nat} {T0 T : am_M} {lo hi : Nat} (ho : ps_ok s) (hS : tm_S T0) (hH : tm_H s i p v T0 T) (hi4 : i < 4) (hlo : lo < 2147483648) (hhi : hi < 2147483648) (ht : ∀ x, tx_tb kd sd i x v = true ↔ (lo ≤ x ∧ x ≤ hi)) : (∃ U p' v', fX10_number 53 (nI i) (nI (if i + 1 < mn then 44 else 59)) (nI lo) (nI hi) T = some (1, U) ∧ tm_H s (i + 1) p' v' T0 U ∧ it_n (tx_h s) kd sd mn (f + 1) i p v = it_n (tx_h s) kd sd mn f (i + 1) p' v') ∨ ∃ U, fX10_number 53 (nI i) (nI (if i + 1 < mn then 44 else 59)) (nI lo) (nI hi) T = some (0, U) ∧ tm_bad (it_n (tx_h s) kd sd mn (f + 1) i p v).1 T0 U ∧ ¬ (it_n (tx_h s) kd sd mn (f + 1) i p v).1 = 0 := by
  obtain ⟨h1, h2, h3, h4⟩ := hH
  have he : 0 < (if i + 1 < mn then 44 else 59) ∧ (if i + 1 < mn then 44 else 59) ≤ 126 := by split <;> omega
  have bw := nb_w_le (tx_h_le ho) p (nb_c_le (tx_h s) p)
  rw [it_n]
  rcases pm_number (lo := lo) (hi := hi) ho (hS.fr h1.1) hi4 he hlo hhi h3 h2 with ⟨a1, a2, a3, U, u1, u2, u3, u4, u5, u6⟩ | ⟨a1, a2, U, u1, u2⟩ | ⟨a1, U, u1, u2⟩
  · left
    refine ⟨U, p + nb_c (tx_h s) p + 1, tx_u v i (nb_w (tx_h s) p (nb_c (tx_h s) p)), u1, ⟨h1.tr u2, u3, by omega, fun j hj => ?_⟩, ?_⟩
    · unfold tx_u
      by_cases z : j = i
      · rw [if_pos z, z]; exact ⟨u4, bw⟩
      · rw [if_neg z, u5 j z]; exact h4 j (by omega)
    · rw [if_pos a1, if_pos ((ht _).mpr ⟨a2, a3⟩)]
  · right
    refine ⟨U, u1, ?_, ?_⟩
    · rw [if_pos a1, if_neg (fun z => a2 ((ht _).mp z))]; exact h1.bad u2
    · rw [if_pos a1, if_neg (fun z => a2 ((ht _).mp z))]; show ¬ 20 + i = 0; omega
  · right
    refine ⟨U, u1, ?_, ?_⟩
    · rw [if_neg a1]; exact h1.bad u2
    · rw [if_neg a1]; exact a1
/-- what reading an item's numbers comes to -/
def tm_RD (s : ps_S) (kd sd p : Nat) (T0 : am_M) (r : Option (Int32 × am_M)) : Prop := ((it_n (tx_h s) kd sd (tx_many kd) (tx_many kd) 0 p (fun _ => 0)).1 = 0 ∧ ∃ U, r = some (1, U) ∧ tm_H s (tx_many kd) (it_n (tx_h s) kd sd (tx_many kd) (tx_many kd) 0 p (fun _ => 0)).2.1 (it_n (tx_h s) kd sd (tx_many kd) (tx_many kd) 0 p (fun _ => 0)).2.2 T0 U) ∨ (¬ (it_n (tx_h s) kd sd (tx_many kd) (tx_many kd) 0 p (fun _ => 0)).1 = 0 ∧ ∃ U, r = some (0, U) ∧ tm_bad (it_n (tx_h s) kd sd (tx_many kd) (tx_many kd) 0 p (fun _ => 0)).1 T0 U)
theorem pm_world {s : ps_S} {sd p : Nat} {T0 T : am_M} (ho : ps_ok s) (hS : tm_S T0) (hH : tm_H s 0 p (fun _ => 0) T0 T) : tm_RD s 119 sd p T0 (fX10_readsWorld 53 T) := by
  have em : tx_many 119 = 2 := rfl
  unfold tm_RD
  rw [em]
  unfold fX10_readsWorld
  rcases pm_nx (kd := 119) (sd := sd) (mn := 2) (f := 1) (lo := 1) (hi := 6) ho hS hH (by decide) (by decide) (by decide) (fun x => tx_tb_w0) with ⟨U, p1, v1, u1, u2, u3⟩ | ⟨U, u1, u2, u3⟩
  · have u1' : fX10_number 53 0 44 1 6 T = some (1, U) := u1
    rw [u3, u1', am_bs]
    simp only [nm_1f, if_false]
    rcases pm_nx (kd := 119) (sd := sd) (mn := 2) (f := 0) (lo := 0) (hi := 1) ho hS u2 (by decide) (by decide) (by decide) (fun x => by rw [tx_tb_w1]; omega) with ⟨W, p2, v2, w1, w2, w3⟩ | ⟨W, w1, w2, w3⟩
    · have w1' : fX10_number 53 1 59 0 1 U = some (1, W) := w1
      rw [w3, w1', am_bs]
      exact Or.inl ⟨rfl, W, rfl, w2⟩
    · have w1' : fX10_number 53 1 59 0 1 U = some (0, W) := w1
      rw [w1', am_bs]
      exact Or.inr ⟨w3, W, rfl, w2⟩
  · have u1' : fX10_number 53 0 44 1 6 T = some (0, U) := u1
    rw [u1', am_bs]
    exact Or.inr ⟨u3, U, rfl, u2⟩
theorem tx_lim {kd sd i : Nat} {v : Nat → Nat} (h1 : ¬ kd = 119) (h2 : ¬ (kd = 100 ∧ i = 2)) (hi : i < 2) (hs : 0 < sd) (x : Nat) : tx_tb kd sd i x v = true ↔ (0 ≤ x ∧ x ≤ sd - 1) := by
  rw [tx_tb_o h1 h2]; omega
theorem tx_lim2 {kd sd i : Nat} {v : Nat → Nat} (h1 : ¬ kd = 119) (h2 : ¬ (kd = 100 ∧ i = 2)) (hi : ¬ i < 2) (hs : 0 < sd) (x : Nat) : tx_tb kd sd i x v = true ↔ (v (i - 2) ≤ x ∧ x ≤ sd - 1) := by
  rw [tx_tb_o h1 h2]; omega
theorem pm_box {s : ps_S} {D p : Nat} {T0 T : am_M} (ho : ps_ok s) (hS : tm_S T0) (hD : D ≤ 6) (h17 : T0.1 53 17 = nI (2 ^ D)) (hH : tm_H s 0 p (fun _ => 0) T0 T) : tm_RD s 98 (2 ^ D) p T0 (fX10_readsBox 53 T) := by
  have hp2 := nz_p2 hD
  have em : tx_many 98 = 4 := rfl
  have e17 : T.1 53 17 - 1 = nI (2 ^ D - 1) := by rw [hH.1.2.2 17 (by decide), h17]; exact nm_sub (b := 1) (by omega)
  unfold tm_RD
  rw [em]
  unfold fX10_readsBox
  rw [e17]
  have c0 : (0 : Int32).toNatClampNeg = 0 := rfl
  have c1 : (1 : Int32).toNatClampNeg = 1 := rfl
  have n0 : ((0 : Int32) < 0 ∨ 4 ≤ 0) = False := eq_false (by decide)
  have n1 : ((1 : Int32) < 0 ∨ 4 ≤ 1) = False := eq_false (by decide)
  rcases pm_nx (kd := 98) (sd := 2 ^ D) (mn := 4) (f := 3) (lo := 0) (hi := 2 ^ D - 1) ho hS hH (by decide) (by decide) (by omega) (tx_lim (by decide) (by decide) (by decide) hp2.1) with ⟨U, p1, v1, u1, u2, u3⟩ | ⟨U, u1, u2, u3⟩
  · have u1' : fX10_number 53 0 44 0 (nI (2 ^ D - 1)) T = some (1, U) := u1
    rw [u3, u1', am_bs]
    simp only [nm_1f, if_false]
    rcases pm_nx (kd := 98) (sd := 2 ^ D) (mn := 4) (f := 2) (lo := 0) (hi := 2 ^ D - 1) ho hS u2 (by decide) (by decide) (by omega) (tx_lim (by decide) (by decide) (by decide) hp2.1) with ⟨W, p2, v2, w1, w2, w3⟩ | ⟨W, w1, w2, w3⟩
    · have w1' : fX10_number 53 1 44 0 (nI (2 ^ D - 1)) U = some (1, W) := w1
      have SW := hS.fr w2.1.1
      have r18 := SW.2 53 18 59 (by decide) rfl
      have l59 : am_len W 59 = 4 := am_len_SH SW.1 59
      have b0 := w2.2.2.2 0 (by decide)
      rw [w3, w1', am_bs]
      simp only [nm_1f, if_false, r18, am_bs, l59, c0, n0, b0.1]
      rcases pm_nx (kd := 98) (sd := 2 ^ D) (mn := 4) (f := 1) (lo := v2 0) (hi := 2 ^ D - 1) ho hS w2 (by decide) (by omega) (by omega) (tx_lim2 (by decide) (by decide) (by decide) hp2.1) with ⟨X, p3, v3, x1, x2, x3⟩ | ⟨X, x1, x2, x3⟩
      · have x1' : fX10_number 53 2 44 (nI (v2 0)) (nI (2 ^ D - 1)) W = some (1, X) := x1
        have SX := hS.fr x2.1.1
        have r18X := SX.2 53 18 59 (by decide) rfl
        have l59X : am_len X 59 = 4 := am_len_SH SX.1 59
        have b1 := x2.2.2.2 1 (by decide)
        rw [x3, x1', am_bs]
        simp only [nm_1f, if_false, r18X, am_bs, l59X, c1, n1, b1.1]
        rcases pm_nx (kd := 98) (sd := 2 ^ D) (mn := 4) (f := 0) (lo := v3 1) (hi := 2 ^ D - 1) ho hS x2 (by decide) (by omega) (by omega) (tx_lim2 (by decide) (by decide) (by decide) hp2.1) with ⟨Y, p4, v4, y1, y2, y3⟩ | ⟨Y, y1, y2, y3⟩
        · have y1' : fX10_number 53 3 59 (nI (v3 1)) (nI (2 ^ D - 1)) X = some (1, Y) := y1
          rw [y3, y1', am_bs]
          exact Or.inl ⟨rfl, Y, rfl, y2⟩
        · have y1' : fX10_number 53 3 59 (nI (v3 1)) (nI (2 ^ D - 1)) X = some (0, Y) := y1
          rw [y1', am_bs]
          exact Or.inr ⟨y3, Y, rfl, y2⟩
      · have x1' : fX10_number 53 2 44 (nI (v2 0)) (nI (2 ^ D - 1)) W = some (0, X) := x1
        rw [x1', am_bs]
        exact Or.inr ⟨x3, X, rfl, x2⟩
    · have w1' : fX10_number 53 1 44 0 (nI (2 ^ D - 1)) U = some (0, W) := w1
      rw [w1', am_bs]
      exact Or.inr ⟨w3, W, rfl, w2⟩
  · have u1' : fX10_number 53 0 44 0 (nI (2 ^ D - 1)) T = some (0, U) := u1
    rw [u1', am_bs]
    exact Or.inr ⟨u3, U, rfl, u2⟩
theorem pm_disc {s : ps_S} {D p : Nat} {T0 T : am_M} (ho : ps_ok s) (hS : tm_S T0) (hD : D ≤ 6) (h17 : T0.1 53 17 = nI (2 ^ D)) (hH : tm_H s 0 p (fun _ => 0) T0 T) : tm_RD s 100 (2 ^ D) p T0 (fX10_readsDisc 53 T) := by
  have hp2 := nz_p2 hD
  have em : tx_many 100 = 3 := rfl
  have e17 : T.1 53 17 - 1 = nI (2 ^ D - 1) := by rw [hH.1.2.2 17 (by decide), h17]; exact nm_sub (b := 1) (by omega)
  unfold tm_RD
  rw [em]
  unfold fX10_readsDisc
  rw [e17]
  rcases pm_nx (kd := 100) (sd := 2 ^ D) (mn := 3) (f := 2) (lo := 0) (hi := 2 ^ D - 1) ho hS hH (by decide) (by decide) (by omega) (tx_lim (by decide) (by decide) (by decide) hp2.1) with ⟨U, p1, v1, u1, u2, u3⟩ | ⟨U, u1, u2, u3⟩
  · have u1' : fX10_number 53 0 44 0 (nI (2 ^ D - 1)) T = some (1, U) := u1
    rw [u3, u1', am_bs]
    simp only [nm_1f, if_false]
    rcases pm_nx (kd := 100) (sd := 2 ^ D) (mn := 3) (f := 1) (lo := 0) (hi := 2 ^ D - 1) ho hS u2 (by decide) (by decide) (by omega) (tx_lim (by decide) (by decide) (by decide) hp2.1) with ⟨W, p2, v2, w1, w2, w3⟩ | ⟨W, w1, w2, w3⟩
    · have w1' : fX10_number 53 1 44 0 (nI (2 ^ D - 1)) U = some (1, W) := w1
      rw [w3, w1', am_bs]
      simp only [nm_1f, if_false]
      rcases pm_nx (kd := 100) (sd := 2 ^ D) (mn := 3) (f := 0) (lo := 0) (hi := 63) ho hS w2 (by decide) (by decide) (by decide) (fun x => by rw [tx_tb_d2]; omega) with ⟨X, p3, v3, x1, x2, x3⟩ | ⟨X, x1, x2, x3⟩
      · have x1' : fX10_number 53 2 59 0 63 W = some (1, X) := x1
        rw [x3, x1', am_bs]
        exact Or.inl ⟨rfl, X, rfl, x2⟩
      · have x1' : fX10_number 53 2 59 0 63 W = some (0, X) := x1
        rw [x1', am_bs]
        exact Or.inr ⟨x3, X, rfl, x2⟩
    · have w1' : fX10_number 53 1 44 0 (nI (2 ^ D - 1)) U = some (0, W) := w1
      rw [w1', am_bs]
      exact Or.inr ⟨w3, W, rfl, w2⟩
  · have u1' : fX10_number 53 0 44 0 (nI (2 ^ D - 1)) T = some (0, U) := u1
    rw [u1', am_bs]
    exact Or.inr ⟨u3, U, rfl, u2⟩
/-- a point's two numbers, with what comes behind them -/
theorem pm_pt {s : ps_S} {D p : Nat} {T0 T : am_M} (ho : ps_ok s) (hS : tm_S T0) (hD : D ≤ 6) (h17 : T0.1 53 17 = nI (2 ^ D)) (hH : tm_H s 0 p (fun _ => 0) T0 T) : tm_RD s 112 (2 ^ D) p T0 ((fX10_number 53 0 44 0 (T.1 53 17 - 1) T).bind fun p29 => if p29.1 = 0 then some (0, p29.2) else (fX10_number 53 1 59 0 (p29.2.1 53 17 - 1) p29.2).bind fun p51 => if p51.1 = 0 then some (0, p51.2) else some (1, p51.2)) := by
  have hp2 := nz_p2 hD
  have em : tx_many 112 = 2 := rfl
  have e17 : ∀ T : am_M, am_g3 T0 T → T.1 53 17 - 1 = nI (2 ^ D - 1) := fun T h => by rw [h.2.2 17 (by decide), h17]; exact nm_sub (b := 1) (by omega)
  unfold tm_RD
  rw [em, e17 T hH.1]
  rcases pm_nx (kd := 112) (sd := 2 ^ D) (mn := 2) (f := 1) (lo := 0) (hi := 2 ^ D - 1) ho hS hH (by decide) (by decide) (by omega) (tx_lim (by decide) (by decide) (by decide) hp2.1) with ⟨U, p1, v1, u1, u2, u3⟩ | ⟨U, u1, u2, u3⟩
  · have u1' : fX10_number 53 0 44 0 (nI (2 ^ D - 1)) T = some (1, U) := u1
    rw [u3, u1', am_bs]
    simp only [nm_1f, if_false, e17 U u2.1]
    rcases pm_nx (kd := 112) (sd := 2 ^ D) (mn := 2) (f := 0) (lo := 0) (hi := 2 ^ D - 1) ho hS u2 (by decide) (by decide) (by omega) (tx_lim (by decide) (by decide) (by decide) hp2.1) with ⟨W, p2, v2, w1, w2, w3⟩ | ⟨W, w1, w2, w3⟩
    · have w1' : fX10_number 53 1 59 0 (nI (2 ^ D - 1)) U = some (1, W) := w1
      rw [w3, w1', am_bs]
      exact Or.inl ⟨rfl, W, rfl, w2⟩
    · have w1' : fX10_number 53 1 59 0 (nI (2 ^ D - 1)) U = some (0, W) := w1
      rw [w1', am_bs]
      exact Or.inr ⟨w3, W, rfl, w2⟩
  · have u1' : fX10_number 53 0 44 0 (nI (2 ^ D - 1)) T = some (0, U) := u1
    rw [u1', am_bs]
    exact Or.inr ⟨u3, U, rfl, u2⟩
def tm_w (kd : Nat) : Int32 := if kd = 119 then 0 else if kd = 98 then 1 else if kd = 100 then 2 else if kd = 112 then 3 else -4
theorem pm_begins {s : ps_S} {p : Nat} {T : am_M} (ho : ps_ok s) (hS : tm_S T) (hC : tm_C s p T) (hp : p ≤ 200) : ∃ U, fX10_begins 53 T = some (tm_w (tx_k (tx_h s) p), U) ∧ am_g3 T U ∧ (¬ tx_k (tx_h s) p = 0 → tm_C s (tx_q (tx_h s) p) U) := by
  have o8 := ho.2.2.2.2.2.2.2.1
  have eh := pm_here ho hS hC (by omega)
  have r9 := hS.2 53 9 57 (by decide) rfl
  have l57 : am_len T 57 = 200 := am_len_SH hS.1 57
  have e13 : T.1 53 13 + 1 = nI (p + 1) := by rw [hC.2.1, nI_1]
  have e132 : T.1 53 13 + 2 = nI (p + 2) := by rw [hC.2.1, nm_2, nI_add]
  have ev : ∀ c : Nat, 0 < c → c ≤ 126 → (tm_v s p = nI c) = (tx_h s p = c) := fun c h1 h2 => tm_v_eq ho p h1 h2
  have ev1 : ∀ c : Nat, 0 < c → c ≤ 126 → (tm_v s (p + 1) = nI c) = (tx_h s (p + 1) = c) := fun c h1 h2 => tm_v_eq ho (p + 1) h1 h2
  have body : fX10_begins 53 T = if tx_h s p = 119 then fX10_begins_17 53 (tm_v s p) T else if tx_h s p = 112 then fX10_begins_17 53 (tm_v s p) T else fX10_begins_68 53 (tm_v s p) (tm_v s (p + 1)) T := by
    unfold fX10_begins
    rw [eh, am_bs]
    simp only [show (119 : Int32) = nI 119 from rfl, show (112 : Int32) = nI 112 from rfl, ev 119 (by decide) (by decide), ev 112 (by decide) (by decide), e13, hC.1, nm_le (show s.1 6 < 2147483648 by omega) (show p + 1 < 2147483648 by omega)]
    by_cases c1 : s.1 6 ≤ p + 1
    · have : tm_v s (p + 1) = -4 := by unfold tm_v; rw [if_neg (by omega)]
      rw [if_pos c1, this]
    · have : tm_v s (p + 1) = nI (s.2 8 (p + 1)) := by unfold tm_v; rw [if_pos (by omega)]
      rw [if_neg c1, this]
      simp only [r9, am_bs, l57, nm_cl (show p + 1 < 2147483648 by omega), am_ixc (show p + 1 < 200 by omega) (show 200 < 2147483648 by decide), if_false, hC.2.2 (p + 1) (by omega)]
  rw [body]
  unfold fX10_begins_17 fX10_begins_68 fX10_begins_81 fX10_begins_93 tx_k tx_q
  simp only [show (119 : Int32) = nI 119 from rfl, show (43 : Int32) = nI 43 from rfl, show (45 : Int32) = nI 45 from rfl, show (98 : Int32) = nI 98 from rfl, show (100 : Int32) = nI 100 from rfl, ev 119 (by decide) (by decide), ev 43 (by decide) (by decide), ev 45 (by decide) (by decide), ev1 98 (by decide) (by decide), ev1 100 (by decide) (by decide), e13, e132]
  have G1 := (am_g3.rf T).p13 (nI (p + 1))
  have G2 := (am_g3.rf T).p13 (nI (p + 2))
  have C1 : tm_C s (p + 1) (am_pI T 53 13 (nI (p + 1))) := hC.p13
  have C2 : tm_C s (p + 2) (am_pI T 53 13 (nI (p + 2))) := hC.p13
  by_cases c1 : tx_h s p = 119
  · refine ⟨_, by rw [if_pos c1, if_pos c1, if_pos c1]; rfl, G1, fun _ => by rw [if_neg (by omega)]; exact C1⟩
  · by_cases c2 : tx_h s p = 112
    · refine ⟨_, by rw [if_neg c1, if_pos c2, if_neg c1, if_neg c1, if_pos c2]; rfl, G1, fun _ => by rw [if_neg (by omega)]; exact C1⟩
    · rw [if_neg c1, if_neg c2, if_neg c1, if_neg c2]
      have r81 : (tx_h s p = 43 ∨ tx_h s p = 45) → ∃ U, (if tx_h s (p + 1) = 98 then if tx_h s (p + 1) = 98 then some ((1 : Int32), am_pI T 53 13 (nI (p + 2))) else some (2, am_pI T 53 13 (nI (p + 2))) else if tx_h s (p + 1) = 100 then if tx_h s (p + 1) = 98 then some (1, am_pI T 53 13 (nI (p + 2))) else some (2, am_pI T 53 13 (nI (p + 2))) else some (-4, T)) = some (tm_w (if tx_h s p = 43 ∨ tx_h s p = 45 then if tx_h s (p + 1) = 98 then 98 else if tx_h s (p + 1) = 100 then 100 else 0 else 0), U) ∧ am_g3 T U ∧ (¬ (if tx_h s p = 43 ∨ tx_h s p = 45 then if tx_h s (p + 1) = 98 then 98 else if tx_h s (p + 1) = 100 then 100 else 0 else 0) = 0 → tm_C s (if tx_h s p = 43 ∨ tx_h s p = 45 then p + 2 else p + 1) U) := fun hs => by
        rw [if_pos hs, if_pos hs]
        by_cases d1 : tx_h s (p + 1) = 98
        · simp only [d1, if_true]; exact ⟨_, rfl, G2, fun _ => C2⟩
        · by_cases d2 : tx_h s (p + 1) = 100
          · simp only [d2, if_true, show ((100 : Nat) = 98) = False from eq_false (by decide), if_false]; exact ⟨_, rfl, G2, fun _ => C2⟩
          · simp only [d1, d2, if_false]
            exact ⟨T, rfl, am_g3.rf T, fun z => absurd trivial z⟩
      by_cases c3 : tx_h s p = 43
      · have q := r81 (Or.inl c3)
        rw [if_pos c3]; exact q
      · rw [if_neg c3]
        by_cases c4 : tx_h s p = 45
        · have q := r81 (Or.inr c4)
          rw [if_pos c4]; exact q
        · have c5 : ¬ (tx_h s p = 43 ∨ tx_h s p = 45) := by omega
          rw [if_neg c4, if_neg c5]
          exact ⟨T, rfl, am_g3.rf T, fun z => absurd rfl z⟩
theorem pm_mayB {kd k np nq : Nat} {T : am_M} (h14 : T.1 53 14 = nI k) (h15 : T.1 53 15 = nI np) (h16 : T.1 53 16 = nI nq) (hkd : kd = 119 ∨ kd = 112 ∨ kd = 98 ∨ kd = 100 ∨ kd = 0) (hk : k < 100000) (hnp : np < 100000) (hnq : nq < 100000) (h0 : k = 0 → np = 0) : fX10_mayBegin 53 (tm_w kd) T = some (if tx_m kd k np nq = true then 1 else 0, T) := by
  have ek : (nI k = (0 : Int32)) = (k = 0) := nm_eq (by omega) (by decide)
  have e8 : ((8 : Int32) ≤ nI np) = (8 ≤ np) := by rw [nm_8, nm_le (by decide) (by omega)]
  have e40 : ((40 : Int32) ≤ nI nq) = (40 ≤ nq) := by rw [nm_40, nm_le (by decide) (by omega)]
  have e := tx_m_t (kd := kd) (k := k) (np := np) (nq := nq)
  unfold fX10_mayBegin fX10_mayBegin_15 fX10_mayBegin_27
  simp only [h14, h15, h16, ek, e8, e40]
  rcases hkd with rfl | rfl | rfl | rfl | rfl
  · simp only [show tm_w 119 = (0 : Int32) from rfl, show ((0 : Int32) = -4) = False from eq_false (by decide), if_false, if_true, show ((1 : Int32) = 0) = False from eq_false (by decide)]
    by_cases c : k = 0
    · rw [if_pos c, if_pos (e.mpr ⟨by decide, ⟨fun _ => c, fun _ => rfl⟩, by rw [if_neg (by decide)]; have := h0 c; omega⟩)]
    · rw [if_neg c, if_neg (fun z => c ((e.mp z).2.1.mp rfl))]
  · simp only [show tm_w 112 = (3 : Int32) from rfl, show ((3 : Int32) = -4) = False from eq_false (by decide), show ((3 : Int32) = 0) = False from eq_false (by decide), show ((0 : Int32) = 1) = False from eq_false (by decide), if_false, if_true]
    by_cases c : k = 0
    · rw [if_pos c, if_neg (fun z => absurd ((e.mp z).2.1.mpr c) (by decide))]
    · rw [if_neg c]
      by_cases c2 : 40 ≤ nq
      · rw [if_pos c2, if_neg (fun z => by have := (e.mp z).2.2; rw [if_pos rfl] at this; omega)]
      · rw [if_neg c2, if_pos (e.mpr ⟨by decide, ⟨fun z => absurd z (by decide), fun z => absurd z c⟩, by rw [if_pos rfl]; omega⟩)]
  · simp only [show tm_w 98 = (1 : Int32) from rfl, show ((1 : Int32) = -4) = False from eq_false (by decide), show ((1 : Int32) = 0) = False from eq_false (by decide), show ((0 : Int32) = 1) = False from eq_false (by decide), show ((1 : Int32) = 3) = False from eq_false (by decide), if_false, if_true]
    by_cases c : k = 0
    · rw [if_pos c, if_neg (fun z => absurd ((e.mp z).2.1.mpr c) (by decide))]
    · rw [if_neg c]
      by_cases c2 : 8 ≤ np
      · rw [if_pos c2, if_neg (fun z => by have := (e.mp z).2.2; rw [if_neg (by decide)] at this; omega)]
      · rw [if_neg c2, if_pos (e.mpr ⟨by decide, ⟨fun z => absurd z (by decide), fun z => absurd z c⟩, by rw [if_neg (by decide)]; omega⟩)]
  · simp only [show tm_w 100 = (2 : Int32) from rfl, show ((2 : Int32) = -4) = False from eq_false (by decide), show ((2 : Int32) = 0) = False from eq_false (by decide), show ((0 : Int32) = 1) = False from eq_false (by decide), show ((2 : Int32) = 3) = False from eq_false (by decide), if_false, if_true]
    by_cases c : k = 0
    · rw [if_pos c, if_neg (fun z => absurd ((e.mp z).2.1.mpr c) (by decide))]
    · rw [if_neg c]
      by_cases c2 : 8 ≤ np
      · rw [if_pos c2, if_neg (fun z => by have := (e.mp z).2.2; rw [if_neg (by decide)] at this; omega)]
      · rw [if_neg c2, if_pos (e.mpr ⟨by decide, ⟨fun z => absurd z (by decide), fun z => absurd z c⟩, by rw [if_neg (by decide)]; omega⟩)]
  · simp only [show tm_w 0 = (-4 : Int32) from rfl, if_true]
    rw [if_neg (fun z => (e.mp z).1 rfl)]
