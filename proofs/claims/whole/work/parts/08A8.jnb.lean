/-! joined -/
def am_fg (M T : am_M) : Prop := T.2 = M.2 ∧ ∀ k, k ≠ 12 → k ≠ 13 → T.1 k = M.1 k
theorem am_fg.pI {M T : am_M} (h : am_fg M T) {k : Nat} (hk : k = 12 ∨ k = 13) (j : Nat) (x : Int32) : am_fg M (am_pI T k j x) := ⟨h.1, fun a h4 h5 => (am_pI_r _ _ _ _ (by omega)).trans (h.2 a h4 h5)⟩
theorem am_fg.X {s : ps_S} {pl : Nat} {M T : am_M} (hX : ps_X s pl M) (h : am_fg M T) : ps_X s pl T ∧ am_fx M T := by
  obtain ⟨h1, h2, h3, h4, h5, h6, g1, g2, g3, g4, g5, g6, g7, g8, g9, g10, g11, g12, g13, g14⟩ := hX
  have r : ∀ k, k ≠ 12 → k ≠ 13 → T.1 k = M.1 k := h.2
  refine ⟨⟨by rw [h.1]; exact h1, h2, by rw [h.1]; exact h3, by rw [h.1]; exact h4, by rw [h.1]; exact h5, by rw [h.1]; exact h6, ?_⟩, by rw [h.1], fun k hk => ⟨r k (by omega) (by omega), by rw [h.1]⟩⟩
  rw [r pl (by omega) (by omega), r (pl + 1) (by omega) (by omega), r (pl + 2) (by omega) (by omega), r (pl + 3) (by omega) (by omega), r 1 (by decide) (by decide), r 2 (by decide) (by decide), r 4 (by decide) (by decide), r 5 (by decide) (by decide), r 16 (by decide) (by decide), h.1]
  refine ⟨g1, g2, g3, g4, g5, g6, g7, fun i hi => ?_, g9, g10, g11, g12, ?_, g14⟩
  · obtain ⟨q, q1, q2, q3, q4⟩ := g8 i hi
    exact ⟨q, q1, q2, q3, fun j hj => by rw [r q (by omega) (by omega)]; exact q4 j hj⟩
  · rcases g13 with g | ⟨g, k1, k2, k3⟩
    · exact Or.inl g
    · exact Or.inr ⟨g, k1.fr (by rw [h.1]), k2.fr (by rw [h.1]), k3.fr (by rw [h.1])⟩
theorem px_fb {T : am_M} {o : Nat → Nat} {c x : Nat} (r0 : T.2.2.1 12 0 = some 13) (l13 : am_len T 13 = 98) (h1 : T.1 12 1 = nI c) (hoo : ∀ i, i < c → T.1 13 i = nI (o i) ∧ o i < 4096) (hc : c ≤ 98) (hx : x < 4096) : ((∀ i, i < c → x ≤ o i) ∧ fX2_filledBy_42 12 (nI x) T = some (nI x, T)) ∨ ∃ w, w < c ∧ o w < x ∧ (∀ i, i < c → o w ≤ o i) ∧ fX2_filledBy_42 12 (nI x) T = some (nI (o w), am_pI T 13 w (nI x)) := by
  exact am_loop_inv (f := fX2_filledBy_51) (fun i st => (st = (12, nI x, nI x, -4, nI i, T) ∧ ∀ u, u < i → x ≤ o u) ∨ ∃ w, w < i ∧ st = (12, nI x, nI (o w), nI w, nI i, T) ∧ o w < x ∧ ∀ u, u < i → o w ≤ o u) (fun r => ((∀ i, i < c → x ≤ o i) ∧ r = some (nI x, T)) ∨ ∃ w, w < c ∧ o w < x ∧ (∀ i, i < c → o w ≤ o i) ∧ r = some (nI (o w), am_pI T 13 w (nI x))) c
    (fun i st kk hi hI => by
      left
      obtain ⟨e1, e2⟩ := hoo i hi
      rcases hI with ⟨e, hI⟩ | ⟨w, w1, e, w2, w3⟩
      · subst e
        by_cases cc : x ≤ o i
        · refine ⟨_, Or.inl ⟨rfl, fun u hu => ?_⟩, ?_⟩
          · by_cases q : u = i
            · rw [q]; exact cc
            · exact hI u (by omega)
          · unfold fX2_filledBy_51 fX2_filledBy_83
            simp only [h1, nm_le (show c < 2147483648 by omega) (show i < 2147483648 by omega), show (c ≤ i) = False from eq_false (by omega), if_false, r0, am_bs, l13, nm_cl (show i < 2147483648 by omega), am_ixc (show i < 98 by omega) (show 98 < 2147483648 by decide), e1, nm_le (show x < 2147483648 by omega) (show o i < 2147483648 by omega), show (x ≤ o i) = True from eq_true (by omega), if_true, nI_1]
        · refine ⟨_, Or.inr ⟨i, by omega, rfl, by omega, fun u hu => ?_⟩, ?_⟩
          · by_cases q : u = i
            · rw [q]; exact Nat.le_refl _
            · have := hI u (by omega); omega
          · unfold fX2_filledBy_51 fX2_filledBy_83
            simp only [h1, nm_le (show c < 2147483648 by omega) (show i < 2147483648 by omega), show (c ≤ i) = False from eq_false (by omega), if_false, r0, am_bs, l13, nm_cl (show i < 2147483648 by omega), am_ixc (show i < 98 by omega) (show 98 < 2147483648 by decide), e1, nm_le (show x < 2147483648 by omega) (show o i < 2147483648 by omega), show (x ≤ o i) = False from eq_false (by omega), nI_1]
      · subst e
        have e4 := (hoo w (by omega)).2
        by_cases cc : o w ≤ o i
        · refine ⟨_, Or.inr ⟨w, by omega, rfl, w2, fun u hu => ?_⟩, ?_⟩
          · by_cases q : u = i
            · rw [q]; exact cc
            · exact w3 u (by omega)
          · unfold fX2_filledBy_51 fX2_filledBy_83
            simp only [h1, nm_le (show c < 2147483648 by omega) (show i < 2147483648 by omega), show (c ≤ i) = False from eq_false (by omega), if_false, r0, am_bs, l13, nm_cl (show i < 2147483648 by omega), am_ixc (show i < 98 by omega) (show 98 < 2147483648 by decide), e1, nm_le (show o w < 2147483648 by omega) (show o i < 2147483648 by omega), show (o w ≤ o i) = True from eq_true (by omega), if_true, nI_1]
        · refine ⟨_, Or.inr ⟨i, by omega, rfl, by omega, fun u hu => ?_⟩, ?_⟩
          · by_cases q : u = i
            · rw [q]; exact Nat.le_refl _
            · have := w3 u (by omega); omega
          · unfold fX2_filledBy_51 fX2_filledBy_83
            simp only [h1, nm_le (show c < 2147483648 by omega) (show i < 2147483648 by omega), show (c ≤ i) = False from eq_false (by omega), if_false, r0, am_bs, l13, nm_cl (show i < 2147483648 by omega), am_ixc (show i < 98 by omega) (show 98 < 2147483648 by decide), e1, nm_le (show o w < 2147483648 by omega) (show o i < 2147483648 by omega), show (o w ≤ o i) = False from eq_false (by omega), nI_1])
    (fun st kk hI => by
      rcases hI with ⟨e, hI⟩ | ⟨w, w1, e, w2, w3⟩
      · subst e
        refine Or.inl ⟨hI, ?_⟩
        unfold fX2_filledBy_51
        simp only [h1, Int32.le_refl, if_true]
      · subst e
        refine Or.inr ⟨w, w1, w2, w3, ?_⟩
        unfold fX2_filledBy_51
        simp only [h1, Int32.le_refl, if_true, nz_n4 (show w < 2147483648 by omega), if_false, r0, am_bs, l13, nm_cl (show w < 2147483648 by omega), am_ixc (show w < 98 by omega) (show 98 < 2147483648 by decide)])
    100000 0 (12, nI x, nI x, -4, nI 0, T) (Nat.zero_le _) (by omega) (Or.inl ⟨rfl, fun u hu => absurd hu (Nat.not_lt_zero u)⟩)
def jn_J (f : Nat → Bool) (g k : Nat) (M T : am_M) (F : Nat) : Prop := am_fg M T ∧ ∃ (o cF : Nat → Nat) (c : Nat), T.1 12 1 = nI c ∧ (∀ i, i < c → T.1 13 i = nI (o i)) ∧ jn_Q f g k o cF c ∧ F = js (fun u => u * cF u) 4096
theorem jn_J.same {f : Nat → Bool} {g k : Nat} {M T : am_M} {F : Nat} (h : jn_J f g k M T F) (hg : jn_g f k = false) : jn_J f g (k + 1) M T F := by
  obtain ⟨h1, o, cF, c, h2, h3, ⟨h4, h5, h6, h7, h8⟩, h9⟩ := h
  refine ⟨h1, o, cF, c, h2, h3, ⟨h4, h5, fun v => ?_, h7, h8⟩, h9⟩
  rw [jn_c_s, if_neg (fun q => by rw [hg] at q; exact absurd q.1 (by decide))]
  exact h6 v
theorem jn_J.more {f : Nat → Bool} {g k : Nat} {M T : am_M} {F : Nat} (h : jn_J f g k M T F) (r0 : M.2.2.1 12 0 = some 13) (l13 : am_len M 13 = 98) (hk : k < 4096) (hg9 : g ≤ 99) (hg : jn_g f k = true) : ∃ T' y, fX2_filledBy 12 (nI (rn_z f k)) (nI (g - 1)) T = some (nI y, T') ∧ jn_J f g (k + 1) M T' (F + y) := by
  obtain ⟨h1, o, cF, c, h2, h3, hQ, h9⟩ := h
  have hz := rn_z_le f k
  obtain ⟨s1, s2, s3⟩ := jn_step hQ hk hg
  have hc := hQ.1
  have hol := hQ.2.1
  have r0' : T.2.2.1 12 0 = some 13 := by rw [h1.1]; exact r0
  have l13' : am_len T 13 = 98 := by
    have : am_len T 13 = am_len M 13 := by unfold am_len; rw [h1.1]
    rw [this, l13]
  unfold fX2_filledBy
  rw [h2]
  by_cases cc : c + 1 < g
  · have e1 : (am_pI T 13 c (nI (rn_z f k))).1 12 1 + 1 = nI (c + 1) := by rw [am_pI_r _ _ _ _ (by decide), h2, nI_1]
    refine ⟨am_pI (am_pI T 13 c (nI (rn_z f k))) 12 1 (nI (c + 1)), 0, ?_, (h1.pI (Or.inr rfl) _ _).pI (Or.inl rfl) _ _, _, cF, c + 1, ?_, fun i hi => ?_, s1 cc, by rw [Nat.add_zero]; exact h9⟩
    · have e98 : (Int32.ofNat 98 ≤ nI c) = False := by
        show (nI 98 ≤ nI c) = False
        rw [nm_le (by decide) (by omega)]; exact eq_false (by omega)
      simp only [nm_le (show g - 1 < 2147483648 by omega) (show c < 2147483648 by omega), show (g - 1 ≤ c) = False from eq_false (by omega), if_false, r0', am_bs, l13', e98, nm_cl (show c < 2147483648 by omega), am_ixc (show c < 98 by omega) (show 98 < 2147483648 by decide), e1]
      rfl
    · rw [am_pI_1, if_pos ⟨rfl, rfl⟩]
    · show _ = nI (if i = c then rn_z f k else o i)
      rw [am_pI_r _ _ _ _ (by decide), am_pI_1]
      by_cases e : i = c
      · rw [if_pos ⟨rfl, e⟩, if_pos e]
      · rw [if_neg (fun q => e q.2), if_neg e]; exact h3 i (by omega)
  · have cg : c + 1 = g := by omega
    rcases px_fb (x := rn_z f k) r0' l13' h2 (fun i hi => ⟨h3 i hi, hol i hi⟩) (by omega) (by omega) with ⟨a1, a2⟩ | ⟨w, w1, w2, w3, a2⟩
    · refine ⟨T, rn_z f k, ?_, h1, o, _, c, h2, h3, s2 cg a1, ?_⟩
      · simp only [nm_le (show g - 1 < 2147483648 by omega) (show c < 2147483648 by omega), show (g - 1 ≤ c) = True from eq_true (by omega), if_true, a2]
      · rw [js_up _ (by omega), h9]
    · refine ⟨am_pI T 13 w (nI (rn_z f k)), o w, ?_, h1.pI (Or.inr rfl) _ _, _, _, c, ?_, fun i hi => ?_, s3 w cg w1 w2 w3, ?_⟩
      · simp only [nm_le (show g - 1 < 2147483648 by omega) (show c < 2147483648 by omega), show (g - 1 ≤ c) = True from eq_true (by omega), if_true, a2]
      · rw [am_pI_r _ _ _ _ (by decide)]; exact h2
      · show _ = nI (if i = w then rn_z f k else o i)
        rw [am_pI_1]
        by_cases e : i = w
        · rw [if_pos ⟨rfl, e⟩, if_pos e]
        · rw [if_neg (fun q => e q.2), if_neg e]; exact h3 i hi
      · rw [js_up _ (hol w w1), h9]
theorem px_filled {M : am_M} {a q g : Nat} {f : Nat → Bool} (hk : ps_kq M a q) (h : ps_ks M q f) (r0 : M.2.2.1 12 0 = some 13) (l13 : am_len M 13 = 98) (hg1 : 1 ≤ g) (hg9 : g ≤ 99) : ∃ T F, fX2_filledFor 12 a (nI g) M = some (nI F, T) ∧ jn_J f g 4096 M T F := by
  exact am_loop_inv (f := fX2_filledFor_14) (fun k st => ∃ T F, st = (12, a, nI g, nI F, rn_l f k, nI k, T) ∧ jn_J f g k M T F) (fun r => ∃ T F, r = some (nI F, T) ∧ jn_J f g 4096 M T F) 4096
    (fun k st kk hlt ⟨T, F, e, hJ⟩ => by
      subst e
      left
      have hk' : ps_kq T a q := by
        unfold ps_kq am_len at *
        rw [hJ.1.1]; exact hk
      have h' : ps_ks T q f := h.fr (by rw [hJ.1.1])
      have e0 : ((4096 : Int32) ≤ nI k) = False := by rw [nm_4096, nm_le (by decide) (by omega)]; exact eq_false (by omega)
      have eh := ks_has hk' h' hlt
      have eg : nI g - 1 = nI (g - 1) := nm_sub (b := 1) hg1
      unfold fX2_filledFor_14 fX2_filledFor_67 fX2_filledFor_71
      simp only [e0, if_false, eh, am_bs, nm_if0, nI_1]
      cases hf : f k with
      | false =>
        have hg : jn_g f k = false := by unfold jn_g; rw [rn_b_n (Or.inl hf)]; rfl
        refine ⟨_, ⟨T, F, rfl, hJ.same hg⟩, ?_⟩
        rw [rn_l, hf]; rfl
      | true =>
        have el : rn_l f (k + 1) = nI k := by rw [rn_l, if_pos hf]
        simp only [not_true_eq_false, if_false]
        rcases rn_l_c f k with ⟨l1, l2⟩ | ⟨j, l1, l2, l3, l4⟩
        · have b0 : rn_B f k = 0 := ps_ct_0 (fun i hi => by rw [Nat.zero_add]; exact rn_b_n (Or.inl (l2 i hi)))
          have hg : jn_g f k = false := by unfold jn_g; rw [b0, decide_eq_false (by omega), Bool.and_false]
          refine ⟨_, ⟨T, F, rfl, hJ.same hg⟩, ?_⟩
          rw [if_pos l1, el]
        · rw [l2]
          simp only [nz_n4 (show j < 2147483648 by omega), if_false, nm_sub (show j ≤ k by omega)]
          by_cases c : k = j + 1
          · subst c
            have hg : jn_g f (j + 1) = false := by unfold jn_g; rw [rn_b_n (f := f) (k := j + 1) (Or.inr l3)]; rfl
            refine ⟨_, ⟨T, F, rfl, hJ.same hg⟩, ?_⟩
            rw [if_pos (by rw [nm_1, nm_le (by omega) (by decide)]; omega), el]
          · obtain ⟨d, rfl⟩ : ∃ d, k = j + 1 + (d + 1) := ⟨k - j - 2, by omega⟩
            have hp : rn_p f (j + 1 + (d + 1)) = false := l4 (j + 1 + d) (by omega) (by omega)
            have hb := rn_b_t hf hp
            have b2 := rn_pos l3
            have b3 := rn_mono f (show j + 1 ≤ j + 1 + (d + 1) by omega)
            have hg : jn_g f (j + 1 + (d + 1)) = true := jn_g_t.mpr ⟨hb, by omega⟩
            have ez := rn_z_eq l3 (d + 1) l4
            obtain ⟨T', y, t1, t2⟩ := hJ.more r0 l13 hlt hg9 hg
            refine ⟨_, ⟨T', F + y, rfl, t2⟩, ?_⟩
            rw [if_neg (by rw [nm_1, nm_le (by omega) (by decide)]; omega), el]
            have ev : nI (j + 1 + (d + 1) - j) - 1 = nI (rn_z f (j + 1 + (d + 1))) := by
              rw [ez, show j + 1 + (d + 1) - j = d + 1 + 1 by omega, nm_pr]
            rw [ev, eg, t1, am_bs, nI_add])
    (fun st kk ⟨T, F, e, hJ⟩ => by
      subst e
      refine ⟨T, F, ?_, hJ⟩
      unfold fX2_filledFor_14
      simp only [show ((4096 : Int32) ≤ nI 4096) = True from eq_true (by decide), if_true])
    100000 0 (12, a, nI g, nI 0, -4, nI 0, am_pI M 12 1 (nI 0)) (Nat.zero_le _) (by omega) ⟨am_pI M 12 1 (nI 0), 0, rfl, (show am_fg M M from ⟨rfl, fun _ _ _ => rfl⟩).pI (Or.inl rfl) _ _, fun _ => 0, fun _ => 0, 0, by rw [am_pI_1, if_pos ⟨rfl, rfl⟩], fun i hi => absurd hi (Nat.not_lt_zero i), ⟨by omega, fun i hi => absurd hi (Nat.not_lt_zero i), fun v => rfl, fun u hu => absurd hu (Nat.lt_irrefl 0), fun u i hu => absurd hu (Nat.lt_irrefl 0)⟩, (js_0 (fun u _ => Nat.mul_zero u)).symm⟩
/-- the least ones first: what is left before the size v, what is taken of it -/
def jt_r (f : Nat → Bool) (g : Nat) : Nat → Nat
  | 0 => rn_B f 4096 - g
  | v + 1 => jt_r f g v - min (jt_r f g v) (jn_c f 4096 v)
def jt (f : Nat → Bool) (g v : Nat) : Nat := min (jt_r f g v) (jn_c f 4096 v)
theorem jt_eq {f : Nat → Bool} {g : Nat} {o cF : Nat → Nat} {c : Nat} (h : jn_Q f g 4096 o cF c) : ∀ v, v ≤ 4096 → js cF 4096 - js cF v = jt_r f g v
  | 0, _ => by
    rw [jn_many h (by decide)]; rfl
  | v + 1, hv => by
    have ih := jt_eq h v (by omega)
    have t := jn_take h (by decide) (v := v) (by omega)
    rw [ih] at t
    have e : js cF (v + 1) = js cF v + cF v := rfl
    rw [jt_r, t, e, ← ih]
    omega
theorem jt_sum {f : Nat → Bool} {g : Nat} {o cF : Nat → Nat} {c : Nat} (h : jn_Q f g 4096 o cF c) : js (fun u => u * cF u) 4096 = js (fun u => u * jt f g u) 4096 := js_cg (fun u hu => by
  have t := jn_take h (by decide) (v := u) (by omega)
  rw [jt_eq h u (by omega)] at t
  unfold jt
  rw [t])
theorem jt_done {f : Nat → Bool} {g v : Nat} (h : jt_r f g v = 0) : ∀ d, jt_r f g (v + d) = 0
  | 0 => h
  | d + 1 => by
    show jt_r f g (v + d) - _ = 0
    rw [jt_done h d]; omega
theorem js_stop {h : Nat → Nat} {v : Nat} (hz : ∀ d, h (v + d) = 0) : ∀ d, js h (v + d) = js h v
  | 0 => rfl
  | d + 1 => by
    show js h (v + d) + h (v + d) = _
    rw [js_stop hz d, hz d]; rfl
theorem jt_stop {f : Nat → Bool} {g v : Nat} (hv : v ≤ 4096) (h : jt_r f g v = 0 ∨ ∀ u, v ≤ u → jn_c f 4096 u = 0) : js (fun u => u * jt f g u) v = js (fun u => u * jt f g u) 4096 := by
  have e := js_stop (h := fun u => u * jt f g u) (v := v) (fun d => by
    show (v + d) * jt f g (v + d) = 0
    have : jt f g (v + d) = 0 := by
      unfold jt
      rcases h with h | h
      · rw [jt_done h d]; omega
      · rw [h (v + d) (by omega)]; omega
    rw [this, Nat.mul_zero]) (4096 - v)
  rw [show v + (4096 - v) = 4096 by omega] at e
  exact e.symm
