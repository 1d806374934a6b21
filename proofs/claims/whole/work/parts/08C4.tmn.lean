/-! ===== the reference reads the text ===== -/
def tm_S (M : am_M) : Prop := M.2.2.2 = am_SH ∧ ∀ k j q, 53 ≤ k → am_rf k j = some q → M.2.2.1 k j = some q
theorem tm_S.fr {M T : am_M} (h : tm_S M) (e : T.2 = M.2) : tm_S T := by
  unfold tm_S
  rw [e]
  exact h
def tm_C (s : ps_S) (p : Nat) (T : am_M) : Prop := T.1 53 10 = nI (s.1 6) ∧ T.1 53 13 = nI p ∧ ∀ i, i < s.1 6 → T.1 57 i = nI (s.2 8 i)
/-- the reading place and the read numbers have changed alone -/
def am_g3 (M T : am_M) : Prop := T.2 = M.2 ∧ (∀ k, k ≠ 53 → k ≠ 59 → T.1 k = M.1 k) ∧ ∀ j, j ≠ 13 → T.1 53 j = M.1 53 j
theorem am_g3.rf (M : am_M) : am_g3 M M := ⟨rfl, fun _ _ _ => rfl, fun _ _ => rfl⟩
theorem am_g3.tr {M T U : am_M} (h : am_g3 M T) (h' : am_g3 T U) : am_g3 M U := ⟨h'.1.trans h.1, fun k a b => (h'.2.1 k a b).trans (h.2.1 k a b), fun j a => (h'.2.2 j a).trans (h.2.2 j a)⟩
theorem am_g3.p13 {M T : am_M} (h : am_g3 M T) (x : Int32) : am_g3 M (am_pI T 53 13 x) := ⟨h.1, fun k a b => (am_pI_r _ _ _ _ a).trans (h.2.1 k a b), fun j a => by rw [am_pI_1, if_neg (fun q => a q.2)]; exact h.2.2 j a⟩
theorem am_g3.p59 {M T : am_M} (h : am_g3 M T) (i : Nat) (x : Int32) : am_g3 M (am_pI T 59 i x) := ⟨h.1, fun k a b => (am_pI_r _ _ _ _ b).trans (h.2.1 k a b), fun j a => by rw [am_pI_r _ _ _ _ (by decide)]; exact h.2.2 j a⟩
/-- a refused item: the causes -/
def tm_bad (code : Nat) (M T : am_M) : Prop := T.2 = M.2 ∧ (∀ k, k ≠ 53 → k ≠ 58 → k ≠ 59 → T.1 k = M.1 k) ∧ (∀ j, j ≠ 11 → j ≠ 13 → T.1 53 j = M.1 53 j) ∧ T.1 53 11 = nI (if 20 ≤ code then 3 else 2) ∧ T.1 58 1 = nI (if 20 ≤ code then 4 else code) ∧ (20 ≤ code → T.1 58 2 = nI code)
theorem am_g3.bad {code : Nat} {M T U : am_M} (h : am_g3 M T) (h' : tm_bad code T U) : tm_bad code M U := ⟨h'.1.trans h.1, fun k a b c => (h'.2.1 k a b c).trans (h.2.1 k a c), fun j a b => (h'.2.2.1 j a b).trans (h.2.2 j b), h'.2.2.2⟩
theorem tm_C.p13 {s : ps_S} {p q : Nat} {T : am_M} (h : tm_C s p T) : tm_C s q (am_pI T 53 13 (nI q)) := ⟨by rw [am_pI_1, if_neg (by omega)]; exact h.1, by rw [am_pI_1, if_pos ⟨rfl, rfl⟩], fun i hi => by rw [am_pI_r _ _ _ _ (by decide)]; exact h.2.2 i hi⟩
theorem tm_C.p59 {s : ps_S} {p : Nat} {T : am_M} (h : tm_C s p T) (i : Nat) (x : Int32) : tm_C s p (am_pI T 59 i x) := ⟨by rw [am_pI_r _ _ _ _ (by decide)]; exact h.1, by rw [am_pI_r _ _ _ _ (by decide)]; exact h.2.1, fun i hi => by rw [am_pI_r _ _ _ _ (by decide)]; exact h.2.2 i hi⟩
def tm_v (s : ps_S) (p : Nat) : Int32 := if p < s.1 6 then nI (s.2 8 p) else -4
theorem tm_v_eq {s : ps_S} (ho : ps_ok s) (p : Nat) {c : Nat} (hc : 0 < c) (hc2 : c ≤ 126) : (tm_v s p = nI c) = (tx_h s p = c) := by
  unfold tm_v tx_h
  by_cases q : p < s.1 6
  · have := (ho.2.2.2.2.2.2.2.2.2.2.2.1 p q).2
    rw [if_pos q, if_pos q, nm_eq (by omega) (by omega)]
  · rw [if_neg q, if_neg q]
    apply propext
    constructor
    · intro z
      have := rn_n4 (show c < 2147483648 by omega)
      rw [← z] at this
      exact absurd rfl (of_eq_false this)
    · intro z; omega
theorem pm_here {s : ps_S} {p : Nat} {T : am_M} (ho : ps_ok s) (hS : tm_S T) (hC : tm_C s p T) (hp : p < 100000) : fX10_here 53 T = some (tm_v s p, T) := by
  have o8 := ho.2.2.2.2.2.2.2.1
  have r9 := hS.2 53 9 57 (by decide) rfl
  have l57 : am_len T 57 = 200 := am_len_SH hS.1 57
  obtain ⟨c1, c2, c3⟩ := hC
  unfold fX10_here tm_v
  rw [c1, c2]
  simp only [nm_le (show s.1 6 < 2147483648 by omega) (show p < 2147483648 by omega)]
  by_cases c : p < s.1 6
  · rw [if_neg (by omega), if_pos c]
    simp only [r9, am_bs, l57, nm_cl (show p < 2147483648 by omega), am_ixc (show p < 200 by omega) (show 200 < 2147483648 by decide), if_false, c3 p c]
  · rw [if_pos (by omega), if_neg c]
theorem nz_and0 : (0 : Int32) &&& 1 = 0 := by decide
theorem nz_and1 : (1 : Int32) &&& 1 = 1 := by decide
theorem pm_fig {s : ps_S} {p : Nat} {T : am_M} (ho : ps_ok s) (hS : tm_S T) (hC : tm_C s p T) (hp : p < 100000) : fX10_isFigure 53 T = some (if nb_d (tx_h s) p then 1 else 0, T) := by
  have eh := pm_here ho hS hC hp
  unfold fX10_isFigure
  rw [eh, am_bs]
  unfold fX10_isIn tm_v
  by_cases q : p < s.1 6
  · have b := (ho.2.2.2.2.2.2.2.2.2.2.2.1 p q).2
    have hx : tx_h s p = s.2 8 p := by unfold tx_h; rw [if_pos q]
    have e1 : (nI (s.2 8 p) < (48 : Int32)) = (s.2 8 p < 48) := by rw [nm_48, nm_lt (by omega) (by decide)]
    have e2 : ((57 : Int32) < nI (s.2 8 p)) = (57 < s.2 8 p) := by rw [nm_57, nm_lt (by decide) (by omega)]
    simp only [q, if_true, e1, e2]
    by_cases c1 : s.2 8 p < 48
    · rw [if_pos c1, if_neg (fun z => by have := z.1; omega)]
      simp only [am_bs, nz_and0]
    · rw [if_neg c1]
      by_cases c2 : 57 < s.2 8 p
      · rw [if_pos c2, if_neg (fun z => by have := z.2; omega)]
        simp only [am_bs, nz_and0]
      · rw [if_neg c2, if_pos ⟨by omega, by omega⟩]
        simp only [am_bs, nz_and1]
  · have hx : tx_h s p = 0 := by unfold tx_h; rw [if_neg q]
    simp only [q, if_false]
    rw [if_pos (show (-4 : Int32) < 48 by decide), if_neg (fun z => by have := z.1; omega)]
    simp only [am_bs, nz_and0]
theorem pm_causes {w i : Nat} {T : am_M} (hS : tm_S T) (hw : w = 1 ∨ w = 2 ∨ w = 3) : ∃ U, fX10_causes 53 (nI w) 0 T = some (0, U) ∧ tm_bad w T U := by
  have r12 := hS.2 53 12 58 (by decide) rfl
  have l58 : am_len T 58 = 3 := am_len_SH hS.1 58
  refine ⟨am_pI (am_pI T 58 1 (nI w)) 53 11 (nI 2), ?_, rfl, fun k a b c => by rw [am_pI_r _ _ _ _ a, am_pI_r _ _ _ _ b], fun j a b => by rw [am_pI_1, if_neg (fun z => a z.2), am_pI_r _ _ _ _ (by decide)], ?_, ?_, fun z => by omega⟩
  · have e4 : (nI w = (4 : Int32)) = False := by
      rw [show (nI w = (4 : Int32)) = (w = 4) from nm_eq (by omega) (by decide)]; exact eq_false (by omega)
    unfold fX10_causes
    simp only [r12, am_bs, l58, show (1 : Int32).toNatClampNeg = 1 from rfl, show ((1 : Int32) < 0 ∨ 3 ≤ 1) = False from eq_false (by decide), if_false, e4]
    rfl
  · rw [am_pI_1, if_pos ⟨rfl, rfl⟩, if_neg (by omega)]
  · rw [am_pI_r _ _ _ _ (by decide), am_pI_1, if_pos ⟨rfl, rfl⟩, if_neg (by omega)]
theorem pm_causes4 {i : Nat} {T : am_M} (hS : tm_S T) (hi : i < 4) : ∃ U, fX10_causes 53 4 (nI i) T = some (0, U) ∧ tm_bad (20 + i) T U := by
  have r12 := hS.2 53 12 58 (by decide) rfl
  have l58 : am_len T 58 = 3 := am_len_SH hS.1 58
  refine ⟨am_pI (am_pI (am_pI (am_pI T 58 1 4) 53 11 2) 58 2 (nI (20 + i))) 53 11 3, ?_, rfl, fun k a b c => by rw [am_pI_r _ _ _ _ a, am_pI_r _ _ _ _ b, am_pI_r _ _ _ _ a, am_pI_r _ _ _ _ b], fun j a b => by rw [am_pI_1, if_neg (fun z => a z.2), am_pI_r _ _ _ _ (by decide), am_pI_1, if_neg (fun z => a z.2), am_pI_r _ _ _ _ (by decide)], ?_, ?_, fun _ => ?_⟩
  · have e20 : (20 : Int32) + nI i = nI (20 + i) := by rw [nm_20, nI_add]
    have r12' : (am_pI (am_pI T 58 1 4) 53 11 2).2.2.1 53 12 = some 58 := r12
    have l58' : am_len (am_pI (am_pI T 58 1 4) 53 11 2) 58 = 3 := l58
    unfold fX10_causes
    simp only [r12, am_bs, l58, show (1 : Int32).toNatClampNeg = 1 from rfl, show ((1 : Int32) < 0 ∨ 3 ≤ 1) = False from eq_false (by decide), if_false, if_true, r12', l58', show (2 : Int32).toNatClampNeg = 2 from rfl, show ((2 : Int32) < 0 ∨ 3 ≤ 2) = False from eq_false (by decide), e20]
  · rw [am_pI_1, if_pos ⟨rfl, rfl⟩, if_pos (by omega)]; rfl
  · rw [am_pI_r _ _ _ _ (by decide), am_pI_1, if_neg (by omega), am_pI_r _ _ _ _ (by decide), am_pI_1, if_pos ⟨rfl, rfl⟩, if_pos (by omega)]; rfl
  · rw [am_pI_r _ _ _ _ (by decide), am_pI_1, if_pos ⟨rfl, rfl⟩]
theorem pm_inN {x lo hi : Nat} (hx : x < 2147483648) (hl : lo < 2147483648) (hh : hi < 2147483648) (M : am_M) : fX10_isIn (nI x) (nI lo) (nI hi) M = some (if lo ≤ x ∧ x ≤ hi then 1 else 0, M) := by
  unfold fX10_isIn
  simp only [nm_lt hx hl, nm_lt hh hx]
  by_cases c1 : x < lo
  · rw [if_pos c1, if_neg (by omega)]
  · rw [if_neg c1]
    by_cases c2 : hi < x
    · rw [if_pos c2, if_neg (by omega)]
    · rw [if_neg c2, if_pos (by omega)]
/-- what reading one number comes to -/
def tm_N (s : ps_S) (p i e lo hi : Nat) (T : am_M) (r : Option (Int32 × am_M)) : Prop :=
  (nb_r (tx_h s) p e = 0 ∧ lo ≤ nb_w (tx_h s) p (nb_c (tx_h s) p) ∧ nb_w (tx_h s) p (nb_c (tx_h s) p) ≤ hi ∧ ∃ U, r = some (1, U) ∧ am_g3 T U ∧ tm_C s (p + nb_c (tx_h s) p + 1) U ∧ U.1 59 i = nI (nb_w (tx_h s) p (nb_c (tx_h s) p)) ∧ (∀ u, u ≠ i → U.1 59 u = T.1 59 u) ∧ p + nb_c (tx_h s) p + 1 ≤ 200) ∨
  (nb_r (tx_h s) p e = 0 ∧ ¬ (lo ≤ nb_w (tx_h s) p (nb_c (tx_h s) p) ∧ nb_w (tx_h s) p (nb_c (tx_h s) p) ≤ hi) ∧ ∃ U, r = some (0, U) ∧ tm_bad (20 + i) T U) ∨
  (¬ nb_r (tx_h s) p e = 0 ∧ ∃ U, r = some (0, U) ∧ tm_bad (nb_r (tx_h s) p e) T U)
theorem pm_n50 {s : ps_S} {p i e lo hi j : Nat} {T T1 : am_M} (ho : ps_ok s) (hS : tm_S T) (hi4 : i < 4) (he : 0 < e ∧ e ≤ 126) (hlo : lo < 2147483648) (hhi : hi < 2147483648) (hp : p ≤ 202) (hj : j ≤ 4) (hC : tm_C s (p + j) T1) (hF : am_g3 T T1) (h3 : ∀ u, T1.1 59 u = T.1 59 u) (hd : ∀ u, u < j → nb_d (tx_h s) (p + u)) (hx : j < 4 → ¬ nb_d (tx_h s) (p + j)) : tm_N s p i e lo hi T (fX10_number_50 53 (nI i) (nI e) (nI lo) (nI hi) (nI j) (nI (nb_w (tx_h s) p j)) T1) := by
  have hl := tx_h_le ho
  have o8 := ho.2.2.2.2.2.2.2.1
  have S1 := hS.fr hF.1
  have r18 := S1.2 53 18 59 (by decide) rfl
  have l59 : am_len T1 59 = 4 := am_len_SH S1.1 59
  have hc : nb_c (tx_h s) p = j := nb_c_eq hj hd hx
  have e0 : (nI j = (0 : Int32)) = (j = 0) := nm_eq (by omega) (by decide)
  have e4 : (nI j = (4 : Int32)) = (j = 4) := nm_eq (by omega) (by decide)
  have eh := pm_here ho S1 hC (by omega)
  have bw := nb_w_le hl p hj
  unfold fX10_number_50 fX10_number_61
  simp only [e0, e4]
  by_cases c0 : j = 0 ∨ j = 4
  · have hr : nb_r (tx_h s) p e = 2 := by unfold nb_r; rw [hc, if_pos c0]
    obtain ⟨U, u1, u2⟩ := pm_causes (w := 2) (i := 0) S1 (Or.inr (Or.inl rfl))
    have u1' : fX10_causes 53 2 0 T1 = some (0, U) := u1
    right; right
    refine ⟨by rw [hr]; decide, U, ?_, by rw [hr]; exact hF.bad u2⟩
    rcases c0 with c | c
    · rw [if_pos c, u1']
      simp only [am_bs, nz_and0]
    · rw [if_neg (by omega), if_pos c, u1']
      simp only [am_bs, nz_and0]
  · rw [if_neg (by omega), if_neg (by omega), eh, am_bs]
    have ee := tm_v_eq ho (p + j) he.1 he.2
    simp only [ee]
    by_cases c2 : tx_h s (p + j) = e
    · have hr : nb_r (tx_h s) p e = 0 := by unfold nb_r; rw [hc, if_neg c0, if_neg (not_not_intro c2)]
      have hlt : p + j < s.1 6 := by
        rcases Nat.lt_or_ge (p + j) (s.1 6) with z | z
        · exact z
        · have : tx_h s (p + j) = 0 := by unfold tx_h; rw [if_neg (by omega)]
          omega
      have e5 : T1.1 53 13 + 1 = nI (p + j + 1) := by rw [hC.2.1, nI_1]
      have r18' : (am_pI T1 53 13 (nI (p + j + 1))).2.2.1 53 18 = some 59 := r18
      have l59' : am_len (am_pI T1 53 13 (nI (p + j + 1))) 59 = 4 := l59
      have body : (if tx_h s (p + j) = e then ((am_pI T1 53 13 (T1.1 53 13 + 1)).2.2.1 53 18).bind fun r17 => if nI i < 0 ∨ am_len (am_pI T1 53 13 (T1.1 53 13 + 1)) r17 ≤ (nI i).toNatClampNeg then none else (fX10_isIn (nI (nb_w (tx_h s) p j)) (nI lo) (nI hi) (am_pI (am_pI T1 53 13 (T1.1 53 13 + 1)) r17 (nI i).toNatClampNeg (nI (nb_w (tx_h s) p j)))).bind fun p26 => if p26.1 = 0 then (fX10_causes 53 4 (nI i) p26.2).bind fun p33 => if p33.1 = 0 then some (0, p33.2) else some (1, p33.2) else some (1, p26.2) else (fX10_causes 53 3 0 T1).bind fun p40 => some (p40.1 &&& 1, p40.2)) = (if lo ≤ nb_w (tx_h s) p j ∧ nb_w (tx_h s) p j ≤ hi then some ((1 : Int32), am_pI (am_pI T1 53 13 (nI (p + j + 1))) 59 i (nI (nb_w (tx_h s) p j))) else (fX10_causes 53 4 (nI i) (am_pI (am_pI T1 53 13 (nI (p + j + 1))) 59 i (nI (nb_w (tx_h s) p j)))).bind fun p33 => if p33.1 = 0 then some (0, p33.2) else some (1, p33.2)) := by
        rw [if_pos c2, e5]
        simp only [r18', am_bs, l59', nm_cl (show i < 2147483648 by omega), am_ixc (show i < 4 by omega) (show 4 < 2147483648 by decide), if_false, pm_inN (show nb_w (tx_h s) p j < 2147483648 by omega) hlo hhi, nm_if0]
        by_cases c3 : lo ≤ nb_w (tx_h s) p j ∧ nb_w (tx_h s) p j ≤ hi
        · rw [if_neg (not_not_intro c3), if_pos c3]
        · rw [if_pos c3, if_neg c3]
      rw [body]
      by_cases c3 : lo ≤ nb_w (tx_h s) p j ∧ nb_w (tx_h s) p j ≤ hi
      · left
        rw [hc]
        refine ⟨hr, c3.1, c3.2, _, by rw [if_pos c3], (hF.p13 _).p59 _ _, hC.p13.p59 _ _, by rw [am_pI_1, if_pos ⟨rfl, rfl⟩], fun u hu => ?_, by omega⟩
        rw [am_pI_1, if_neg (fun z => hu z.2), am_pI_r _ _ _ _ (by decide)]; exact h3 u
      · right; left
        rw [hc]
        have F2 : am_g3 T (am_pI (am_pI T1 53 13 (nI (p + j + 1))) 59 i (nI (nb_w (tx_h s) p j))) := (hF.p13 _).p59 _ _
        obtain ⟨U, u1, u2⟩ := pm_causes4 (hS.fr F2.1) hi4
        exact ⟨hr, c3, U, by rw [if_neg c3, u1, am_bs]; rfl, F2.bad u2⟩
    · have hr : nb_r (tx_h s) p e = 3 := by unfold nb_r; rw [hc, if_neg c0, if_pos c2]
      obtain ⟨U, u1, u2⟩ := pm_causes (w := 3) (i := 0) S1 (Or.inr (Or.inr rfl))
      have u1' : fX10_causes 53 3 0 T1 = some (0, U) := u1
      right; right
      exact ⟨by rw [hr]; decide, U, by rw [if_neg c2, u1']; simp only [am_bs, nz_and0], by rw [hr]; exact hF.bad u2⟩
theorem pm_number {s : ps_S} {p i e lo hi : Nat} {T : am_M} (ho : ps_ok s) (hS : tm_S T) (hi4 : i < 4) (he : 0 < e ∧ e ≤ 126) (hlo : lo < 2147483648) (hhi : hi < 2147483648) (hp : p ≤ 202) (hC : tm_C s p T) : tm_N s p i e lo hi T (fX10_number 53 (nI i) (nI e) (nI lo) (nI hi) T) := by
  have hl := tx_h_le ho
  exact am_loop_inv (f := fX10_number_6) (fun j st => ∃ T1, st = (53, nI i, nI e, nI lo, nI hi, nI j, nI (nb_w (tx_h s) p j), T1) ∧ am_g3 T T1 ∧ (∀ u, T1.1 59 u = T.1 59 u) ∧ tm_C s (p + j) T1 ∧ ∀ u, u < j → nb_d (tx_h s) (p + u)) (fun r => tm_N s p i e lo hi T r) 4
    (fun j st kk hj ⟨T1, est, h1, h2, h3, h4⟩ => by
      subst est
      have S1 := hS.fr h1.1
      have eh := pm_here ho S1 h3 (by omega)
      have ef := pm_fig ho S1 h3 (by omega)
      have e4 : ((4 : Int32) ≤ nI j) = False := by rw [nm_4, nm_le (by decide) (by omega)]; exact eq_false (by omega)
      have bw := nb_w_le hl p (show j ≤ 4 by omega)
      by_cases c : nb_d (tx_h s) (p + j)
      · left
        have ev : tm_v s (p + j) = nI (tx_h s (p + j)) := by
          unfold tm_v tx_h
          by_cases z : p + j < s.1 6
          · rw [if_pos z, if_pos z]
          · have : tx_h s (p + j) = 0 := by unfold tx_h; rw [if_neg z]
            have := c.1
            omega
        have e5 : T1.1 53 13 + 1 = nI (p + (j + 1)) := by rw [h3.2.1, nI_1]; rfl
        have ew : (10 : Int32) * nI (nb_w (tx_h s) p j) + nI (tx_h s (p + j)) - 48 = nI (nb_w (tx_h s) p (j + 1)) := by
          rw [nm_10, nm_48, pk_mul, nI_add, nm_sub (by have := c.1; omega)]
          congr 1
          show 10 * nb_w (tx_h s) p j + tx_h s (p + j) - 48 = 10 * nb_w (tx_h s) p j + (tx_h s (p + j) - 48)
          have := c.1
          omega
        refine ⟨_, ⟨am_pI T1 53 13 (nI (p + (j + 1))), rfl, h1.p13 _, fun u => by rw [am_pI_r _ _ _ _ (by decide)]; exact h2 u, h3.p13, fun u hu => ?_⟩, ?_⟩
        · by_cases z : u = j
          · rw [z]; exact c
          · exact h4 u (by omega)
        · rw [if_pos c] at ef
          unfold fX10_number_6
          simp only [e4, if_false, ef, am_bs, nm_1f, eh, ev, ew, e5, nI_1]
      · right
        have t := pm_n50 (lo := lo) (hi := hi) ho hS hi4 he hlo hhi hp (show j ≤ 4 by omega) h3 h1 h2 h4 (fun _ => c)
        unfold fX10_number_6
        simp only [e4, if_false, ef, am_bs, nm_if0]
        rw [if_pos c]
        exact t)
    (fun st kk ⟨T1, est, h1, h2, h3, h4⟩ => by
      subst est
      have t := pm_n50 (lo := lo) (hi := hi) ho hS hi4 he hlo hhi hp (Nat.le_refl 4) h3 h1 h2 h4 (fun z => absurd z (by decide))
      unfold fX10_number_6
      simp only [show ((4 : Int32) ≤ nI 4) = True from eq_true (by decide), if_true]
      exact t)
    100000 0 (53, nI i, nI e, nI lo, nI hi, 0, 0, T) (by decide) (by decide) ⟨T, rfl, am_g3.rf T, fun _ => rfl, hC, fun u hu => absurd hu (Nat.not_lt_zero u)⟩
