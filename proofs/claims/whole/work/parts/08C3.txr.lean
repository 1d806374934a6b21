/-! the class reads the whole text -/
theorem px_blame {q k c : Nat} {T : am_M} (hS : tx_S q T) (hk : k ≤ 1000) (hc : c < 24) : ∃ U, fX7_blame 1 (nI k) (nI c) T = some U ∧ U.2 = T.2 ∧ (∀ a, a ≠ 1 → a ≠ 4 → U.1 a = T.1 a) ∧ (∀ j, j ≠ 4 → U.1 1 j = T.1 1 j) ∧ U.1 1 4 = nI (if 20 ≤ c then 3 else 2) ∧ U.1 4 0 = nI (100 + k) ∧ U.1 4 1 = nI (if 20 ≤ c then 4 else c) ∧ U.1 4 2 = nI c := by
  obtain ⟨s1, s2, s3, s4, s5, s6, -⟩ := hS
  have c0 : (0 : Int32).toNatClampNeg = 0 := rfl
  have c1 : (1 : Int32).toNatClampNeg = 1 := rfl
  have c2 : (2 : Int32).toNatClampNeg = 2 := rfl
  have n0 : ((0 : Int32) < 0 ∨ 3 ≤ 0) = False := eq_false (by decide)
  have n1 : ((1 : Int32) < 0 ∨ 3 ≤ 1) = False := eq_false (by decide)
  have n2 : ((2 : Int32) < 0 ∨ 3 ≤ 2) = False := eq_false (by decide)
  have e100 : (100 : Int32) + nI k = nI (100 + k) := by rw [nm_100, nI_add]
  have e20 : (nI c < (20 : Int32)) = (c < 20) := by rw [nm_20, nm_lt (by omega) (by decide)]
  refine ⟨am_pI (am_pI (am_pI (am_pI T 4 0 (nI (100 + k))) 4 1 (nI (if 20 ≤ c then 4 else c))) 4 2 (nI c)) 1 4 (nI (if 20 ≤ c then 3 else 2)), ?_, rfl, fun a h1 h4 => by rw [am_pI_r _ _ _ _ h1, am_pI_r _ _ _ _ h4, am_pI_r _ _ _ _ h4, am_pI_r _ _ _ _ h4], fun j hj => by rw [am_pI_1, if_neg (fun z => hj z.2), am_pI_r _ _ _ _ (by decide), am_pI_r _ _ _ _ (by decide), am_pI_r _ _ _ _ (by decide)], by rw [am_pI_1, if_pos ⟨rfl, rfl⟩], by rw [am_pI_r _ _ _ _ (by decide), am_pI_1, if_neg (by omega), am_pI_1, if_neg (by omega), am_pI_1, if_pos ⟨rfl, rfl⟩], by rw [am_pI_r _ _ _ _ (by decide), am_pI_1, if_neg (by omega), am_pI_1, if_pos ⟨rfl, rfl⟩], by rw [am_pI_r _ _ _ _ (by decide), am_pI_1, if_pos ⟨rfl, rfl⟩]⟩
  have r2 : ∀ (a b : Nat) (x : Int32), (am_pI T a b x).2.2.1 1 2 = some 4 := fun _ _ _ => s3
  have l4 : ∀ (a b : Nat) (x : Int32), am_len (am_pI T a b x) 4 = 3 := fun _ _ _ => s6
  have r2' : ∀ (a b a' b' : Nat) (x y : Int32), (am_pI (am_pI T a b x) a' b' y).2.2.1 1 2 = some 4 := fun _ _ _ _ _ _ => s3
  have l4' : ∀ (a b a' b' : Nat) (x y : Int32), am_len (am_pI (am_pI T a b x) a' b' y) 4 = 3 := fun _ _ _ _ _ _ => s6
  unfold fX7_blame fX7_blame_11 fX7_blame_36
  simp only [e20, s3, am_bs, s6, c0, c1, c2, n0, n1, n2, if_false, e100, r2, l4, r2', l4', nm_1f, if_true]
  by_cases h20 : 20 ≤ c
  · rw [if_neg (by omega), if_pos h20, if_pos h20]; rfl
  · rw [if_pos (by omega), if_neg h20, if_neg h20]; rfl
/-- what stays where the text is read into the plan at q -/
def am_fz (q : Nat) (M T : am_M) : Prop := T.2 = M.2 ∧ (∀ k, k ≠ 1 → k ≠ 3 → k ≠ 4 → (k < q ∨ q + 14 < k) → T.1 k = M.1 k) ∧ T.1 1 3 = M.1 1 3
theorem am_fz.tr {q : Nat} {M T U : am_M} (h : am_fz q M T) (h' : am_fz q T U) : am_fz q M U := ⟨h'.1.trans h.1, fun k a b c e => (h'.2.1 k a b c e).trans (h.2.1 k a b c e), h'.2.2.trans h.2.2⟩
theorem am_fr.z {q : Nat} {M T : am_M} (h : am_fr q M T) : am_fz q M T := ⟨h.1, fun k a b _ c => h.2.1 k a b c, h.2.2 3 (by decide)⟩
/-- the causes in the class's memory -/
def tx_cc (code k : Nat) (T : am_M) : Prop := T.1 1 4 = nI (if 20 ≤ code then 3 else 2) ∧ T.1 4 0 = nI (100 + k) ∧ T.1 4 1 = nI (if 20 ≤ code then 4 else code) ∧ T.1 4 2 = nI code
theorem px_run {s : ps_S} {q : Nat} (ho : ps_ok s) : ∀ (f k : Nat) (d : ps_S) (p : Nat) (T : am_M) (N : Nat), k + f = 200 → f < N → p ≤ 202 → ps_ok d → tx_S q T → tx_C s p T → ps_P d q T → T.1 1 4 = nI 0 → ∃ U, am_loop fX7_readInto_18 N (1, q, nI k, T) = some (if (tx_run (tx_h s) (s.1 6) f k d p).1 = 0 then -4 else nI (tx_run (tx_h s) (s.1 6) f k d p).2.2.1, U) ∧ am_fz q T U ∧ ((tx_run (tx_h s) (s.1 6) f k d p).1 = 0 → ps_P (tx_run (tx_h s) (s.1 6) f k d p).2.2.2 q U ∧ U.1 1 4 = nI 0) ∧ (¬ (tx_run (tx_h s) (s.1 6) f k d p).1 = 0 → tx_cc (tx_run (tx_h s) (s.1 6) f k d p).1 (tx_run (tx_h s) (s.1 6) f k d p).2.1 U)
  | 0, k, d, p, T, N + 1, hf, hN, hp, od, hS, hC, hP, h4 => by
    have e : k = 200 := hf
    subst e
    refine ⟨T, ?_, ⟨rfl, fun _ _ _ _ _ => rfl, rfl⟩, fun _ => ⟨hP, h4⟩, fun z => absurd rfl z⟩
    show fX7_readInto_18 _ (1, q, nI 200, T) = _
    unfold fX7_readInto_18
    simp only [show ((200 : Int32) ≤ nI 200) = True from eq_true (by decide), if_true]
    rfl
  | f + 1, k, d, p, T, N + 1, hf, hN, hp, od, hS, hC, hP, h4 => by
    have o8 := ho.2.2.2.2.2.2.2.1
    have e200 : ((200 : Int32) ≤ nI k) = False := by rw [nm_200, nm_le (by decide) (by omega)]; exact eq_false (by omega)
    have enp : (T.1 1 3 ≤ T.1 1 5) = (s.1 6 ≤ p) := by rw [hC.1, hC.2.1, nm_le (by omega) (by omega)]
    show ∃ U, fX7_readInto_18 (am_loop fX7_readInto_18 N) (1, q, nI k, T) = _ ∧ _
    rw [tx_run]
    unfold fX7_readInto_18
    simp only [e200, if_false, enp]
    by_cases c0 : s.1 6 ≤ p
    · rw [if_pos c0, if_pos c0]
      exact ⟨T, rfl, ⟨rfl, fun _ _ _ _ _ => rfl, rfl⟩, fun _ => ⟨hP, h4⟩, fun z => absurd rfl z⟩
    · rw [if_neg c0, if_neg c0]
      obtain ⟨T1, a1, a2, a3⟩ := px_item (k := k) ho od hS hC hP (by omega) (by omega)
      have hcode := tx_item_code (h := tx_h s) (k := k) (p := p) (d := d)
      rw [a1, am_bs]
      by_cases c1 : (tx_item (tx_h s) k d p).1 = 0
      · rw [if_pos (by show nI _ = (0 : Int32); rw [c1]; rfl)]
        obtain ⟨w1, w2, w3⟩ := a3 c1
        obtain ⟨-, -, m3, m4, -⟩ := tx_item_ok od c1
        have od' : ps_ok (tx_item (tx_h s) k d p).2.2 := by rw [m3]; exact m4
        obtain ⟨U, u1, u2, u3, u4⟩ := px_run (q := q) ho f (k + 1) (tx_item (tx_h s) k d p).2.2 (tx_item (tx_h s) k d p).2.1 T1 N (by omega) (by omega) w3 od' (hS.fr a2.1) w1 w2 (by rw [a2.2.2 4 (by decide)]; exact h4)
        rw [if_pos c1]
        refine ⟨U, ?_, a2.z.tr u2, u3, u4⟩
        rw [← u1]
        show am_loop fX7_readInto_18 N (1, q, nI k + 1, T1) = _
        rw [nI_1]
      · rw [if_neg (by show ¬ nI _ = (0 : Int32); rw [nz_eq0 (by omega)]; exact c1), if_neg c1]
        obtain ⟨U, u1, u2, u3, u4, u5, u6, u7, u8⟩ := px_blame (k := k) (c := (tx_item (tx_h s) k d p).1) (hS.fr a2.1) (by omega) hcode
        refine ⟨U, ?_, a2.z.tr ⟨u2, fun a a1 _ a4 _ => u3 a a1 a4, u4 3 (by decide)⟩, fun z => absurd z c1, fun _ => ⟨u5, u6, u7, u8⟩⟩
        rw [if_neg c1]
        show (fX7_blame 1 (nI k) (nI (tx_item (tx_h s) k d p).1) T1).bind _ = _
        rw [u1, am_bs, hC.2.1]
def tx_0 (s : ps_S) : ps_S := tx_begin (ps_n s 7 0) 1 0
theorem tx_0_ok {s : ps_S} (ho : ps_ok s) : ps_ok (tx_0 s) := by
  obtain ⟨o1, o2, o3, o4, o5, o6, o7, o8, o9, o10, o11, o12, o13⟩ := ho
  have h : ps_ok (ps_n s 7 0) := ⟨o1, o2, o3, o4, o5, o6, o7, o8, Nat.zero_le _, o10, o11, o12, fun i hi => absurd hi (Nat.not_lt_zero i)⟩
  exact tx_begin_ok (a := 1) (b := 0) h (by decide) (by decide)
/-- what the text tells -/
def tx_R (s : ps_S) : Nat × Nat × Nat × ps_S := tx_run (tx_h s) (s.1 6) 200 0 (tx_0 s) 0
theorem px_readInto {s : ps_S} {q : Nat} {M : am_M} (ho : ps_ok s) (hS : tx_S q M) (h3 : M.1 1 3 = nI (s.1 6)) (hL : ∀ i, i < s.1 6 → M.1 2 i = nI (s.2 8 i)) : ∃ U, fX7_readInto 1 q M = some (if (tx_R s).1 = 0 then -4 else nI (tx_R s).2.2.1, U) ∧ am_fz q M U ∧ ((tx_R s).1 = 0 → ps_P (tx_R s).2.2.2 q U ∧ U.1 1 4 = nI 0) ∧ (¬ (tx_R s).1 = 0 → tx_cc (tx_R s).1 (tx_R s).2.1 U) := by
  have hq4 : 4 < q := hS.2.2.2.2.2.2.2.2.2.2.2.2.2.1
  obtain ⟨T, t1, t2, t3⟩ := px_begin (d := ps_n s 7 0) (a := 1) (b := 0) (T := M) hS.2.2.2.2.2.2.1
  have S2 : tx_S q (am_pI (am_pI T 1 4 (nI 0)) 1 5 (nI 0)) := hS.fr t2.1
  have C2 : tx_C s 0 (am_pI (am_pI T 1 4 (nI 0)) 1 5 (nI 0)) := by
    refine ⟨?_, by rw [am_pI_1, if_pos ⟨rfl, rfl⟩], fun i hi => ?_⟩
    · rw [am_pI_1, if_neg (by omega), am_pI_1, if_neg (by omega), t2.2 1 (by omega)]; exact h3
    · rw [am_pI_r _ _ _ _ (by decide), am_pI_r _ _ _ _ (by decide), t2.2 2 (by omega)]; exact hL i hi
  have P2 : ps_P (tx_0 s) q (am_pI (am_pI T 1 4 (nI 0)) 1 5 (nI 0)) := ps_P.fr (M := T) t3 rfl (fun k k1 k2 => by rw [am_pI_r _ _ _ _ (by omega), am_pI_r _ _ _ _ (by omega)])
  obtain ⟨U, u1, u2, u3, u4⟩ := px_run (q := q) ho 200 0 (tx_0 s) 0 (am_pI (am_pI T 1 4 (nI 0)) 1 5 (nI 0)) 100000 rfl (by decide) (by decide) (tx_0_ok ho) S2 C2 P2 (by rw [am_pI_1, if_neg (by omega), am_pI_1, if_pos ⟨rfl, rfl⟩])
  refine ⟨U, ?_, am_fz.tr (T := am_pI (am_pI T 1 4 (nI 0)) 1 5 (nI 0)) ⟨t2.1, fun k k1 k3 k4 kq => by rw [am_pI_r _ _ _ _ k1, am_pI_r _ _ _ _ k1]; exact t2.2 k kq, by rw [am_pI_1, if_neg (by omega), am_pI_1, if_neg (by omega), t2.2 1 (by omega)]⟩ u2, u3, u4⟩
  have t1' : fX5_begin q 1 0 M = some T := t1
  unfold fX7_readInto
  rw [t1', am_bs]
  exact u1
/-- what stays of the text's own -/
theorem tx_put_s {d : ps_S} {sg kd : Nat} {v : Nat → Nat} : (tx_put d sg kd v).1 6 = d.1 6 ∧ (tx_put d sg kd v).1 7 = d.1 7 ∧ (tx_put d sg kd v).2 8 = d.2 8 ∧ (tx_put d sg kd v).2 9 = d.2 9 := by
  unfold tx_put
  by_cases c1 : kd = 119
  · rw [if_pos c1]; exact ⟨rfl, rfl, rfl, rfl⟩
  · rw [if_neg c1]
    by_cases c2 : kd = 112
    · rw [if_pos c2]; exact ⟨rfl, rfl, rfl, rfl⟩
    · rw [if_neg c2]; exact ⟨rfl, rfl, rfl, rfl⟩
theorem tx_run_ok {h : Nat → Nat} {n : Nat} : ∀ (f k : Nat) (d : ps_S) (p : Nat), ps_ok d → ps_ok (tx_run h n f k d p).2.2.2 ∧ (tx_run h n f k d p).1 < 24 ∧ k ≤ (tx_run h n f k d p).2.1 ∧ (tx_run h n f k d p).2.1 ≤ k + f ∧ (tx_run h n f k d p).2.2.2.1 6 = d.1 6 ∧ (tx_run h n f k d p).2.2.2.1 7 = d.1 7 ∧ (tx_run h n f k d p).2.2.2.2 8 = d.2 8 ∧ (tx_run h n f k d p).2.2.2.2 9 = d.2 9
  | 0, k, d, p, od => ⟨od, by show 0 < 24; omega, Nat.le_refl k, Nat.le_refl _, rfl, rfl, rfl, rfl⟩
  | f + 1, k, d, p, od => by
    rw [tx_run]
    by_cases c0 : n ≤ p
    · rw [if_pos c0]; exact ⟨od, by show 0 < 24; omega, Nat.le_refl k, by show k ≤ k + (f + 1); omega, rfl, rfl, rfl, rfl⟩
    · rw [if_neg c0]
      by_cases c1 : (tx_item h k d p).1 = 0
      · rw [if_pos c1]
        obtain ⟨-, -, m3, m4, -⟩ := tx_item_ok od c1
        have od' : ps_ok (tx_item h k d p).2.2 := by rw [m3]; exact m4
        obtain ⟨r1, r2, r3, r4, r5, r6, r7, r8⟩ := tx_run_ok (h := h) (n := n) f (k + 1) (tx_item h k d p).2.2 (tx_item h k d p).2.1 od'
        obtain ⟨q1, q2, q3, q4⟩ := tx_put_s (d := d) (sg := h p) (kd := tx_k h p) (v := tx_V h d p)
        rw [← m3] at q1 q2 q3 q4
        exact ⟨r1, r2, by omega, by omega, r5.trans q1, r6.trans q2, r7.trans q3, r8.trans q4⟩
      · rw [if_neg c1]; exact ⟨od, tx_item_code, Nat.le_refl k, by show k ≤ k + (f + 1); omega, rfl, rfl, rfl, rfl⟩
theorem tx_R_ok {s : ps_S} (ho : ps_ok s) : ps_ok (tx_R s).2.2.2 ∧ (tx_R s).1 < 24 ∧ (tx_R s).2.1 ≤ 200 ∧ (tx_R s).2.2.2.1 6 = s.1 6 ∧ (tx_R s).2.2.2.1 7 = 0 ∧ (tx_R s).2.2.2.2 8 = s.2 8 ∧ (tx_R s).2.2.2.2 9 = s.2 9 := by
  obtain ⟨r1, r2, r3, r4, r5, r6, r7, r8⟩ := tx_run_ok (h := tx_h s) (n := s.1 6) 200 0 (tx_0 s) 0 (tx_0_ok ho)
  exact ⟨r1, r2, by show (tx_run (tx_h s) (s.1 6) 200 0 (tx_0 s) 0).2.1 ≤ 200; omega, r5, r6, r7, r8⟩
/-- the state behind a refused text -/
def tx_after (s : ps_S) (code k : Nat) : ps_S := (fun j => if j = 7 then (if code = 0 then 0 else if 20 ≤ code then 3 else 2) else s.1 j, fun b => if b = 9 then (fun i => if i = 0 then 100 + k else if i = 1 then (if 20 ≤ code then 4 else code) else code) else s.2 b)
theorem tx_after_ok {s : ps_S} (ho : ps_ok s) {code k : Nat} (hc : code < 24) (hk : k ≤ 200) : ps_ok (tx_after s code k) := by
  obtain ⟨o1, o2, o3, o4, o5, o6, o7, o8, o9, o10, o11, o12, o13⟩ := ho
  refine ⟨o1, o2, o3, o4, o5, o6, o7, o8, ?_, o10, o11, o12, fun i hi => ?_⟩
  · show (if code = 0 then 0 else if 20 ≤ code then 3 else 2) ≤ 3
    repeat' split
    all_goals omega
  · show (if i = 0 then 100 + k else if i = 1 then (if 20 ≤ code then 4 else code) else code) < 1000
    repeat' split
    all_goals omega
theorem ps_X.S {s : ps_S} {pl : Nat} {M : am_M} (hX : ps_X s pl M) : tx_S (61 - pl) M := by
  obtain ⟨h1, h2, h3, h4, h5, h6, -⟩ := hX
  refine ⟨h5 1 0 2 (by decide) rfl, h5 1 1 3 (by decide) rfl, h5 1 2 4 (by decide) rfl, am_len_SH h1 2, am_len_SH h1 3, am_len_SH h1 4, ?_⟩
  rcases h2 with rfl | rfl
  · exact ⟨h5 38 0 39 (by decide) rfl, h5 38 1 44 (by decide) rfl, h5 39 0 40 (by decide) rfl, h5 39 1 41 (by decide) rfl, am_len_SH h1 40, am_len_SH h1 41, am_len_SH h1 44, by decide, by decide, h6 38 (Or.inr rfl)⟩
  · exact ⟨h5 23 0 24 (by decide) rfl, h5 23 1 29 (by decide) rfl, h5 24 0 25 (by decide) rfl, h5 24 1 26 (by decide) rfl, am_len_SH h1 25, am_len_SH h1 26, am_len_SH h1 29, by decide, by decide, h6 23 (Or.inl rfl)⟩
theorem ps_X.rd {s s' : ps_S} {pl : Nat} {M U : am_M} (hX : ps_X s pl M) (f : am_fz (61 - pl) M U) (hs : ∀ k, k ≠ 7 → s'.1 k = s.1 k) (hr : ∀ r, r ≠ 9 → s'.2 r = s.2 r) (t2 : U.1 1 4 = nI (s'.1 7)) (t4 : ∀ i, i < s'.1 7 → U.1 4 i = nI (s'.2 9 i)) : ps_X s' pl U ∧ am_fx M U := by
  obtain ⟨h1, h2, h3, h4, h5, h6, g1, g2, g3, g4, g5, g6, g7, g8, g9, g10, g11, g12, g13, g14⟩ := hX
  have hs5 : ∀ k, k < 5 → s'.1 k = s.1 k := fun k hk => hs k (by omega)
  have hr6 : ∀ r, r < 6 → s'.2 r = s.2 r := fun r hk => hr r (by omega)
  have e2 := f.1
  have r0 : ∀ k, k ≠ 1 → k ≠ 3 → k ≠ 4 → (k < 61 - pl ∨ 61 - pl + 14 < k) → U.1 k = M.1 k := f.2.1
  refine ⟨⟨by rw [e2]; exact h1, h2, by rw [e2]; exact h3, by rw [e2]; exact h4, by rw [e2]; exact h5, by rw [e2]; exact h6, ?_⟩, by rw [e2], fun k hk => ⟨r0 k (by omega) (by omega) (by omega) (by omega), by rw [e2]⟩⟩
  rw [r0 pl (by omega) (by omega) (by omega) (by omega), r0 (pl + 1) (by omega) (by omega) (by omega) (by omega), r0 (pl + 2) (by omega) (by omega) (by omega) (by omega), r0 (pl + 3) (by omega) (by omega) (by omega) (by omega), r0 2 (by decide) (by decide) (by decide) (by omega), r0 5 (by decide) (by decide) (by decide) (by omega), r0 16 (by decide) (by decide) (by decide) (by omega), e2, hs 0 (by decide), hs 1 (by decide), hs 2 (by decide), hs 3 (by decide), hs 4 (by decide), hs 5 (by decide), hs 6 (by decide), hr 6 (by decide), hr 7 (by decide), hr 8 (by decide), ps_sk_cg hs5 hr6, ps_cov_cg hs5 hr6, bs_row_cg hs5 hr6]
  refine ⟨g1, g2, g3, g4, g5, g6, g7, fun i hi => ?_, f.2.2.trans g9, t2, g11, t4, ?_, g14⟩
  · obtain ⟨q, q1, q2, q3, q4⟩ := g8 i hi
    exact ⟨q, q1, q2, q3, fun j hj => by rw [r0 q (by omega) (by omega) (by omega) (by omega), hr6 j hj]; exact q4 j hj⟩
  · rcases g13 with g | ⟨g, k1, k2, k3⟩
    · exact Or.inl g
    · exact Or.inr ⟨g, k1.fr (by rw [e2]), k2.fr (by rw [e2]), k3.fr (by rw [e2])⟩
theorem px_fault {s : ps_S} (ho : ps_ok s) : ps_ox (fX9_fault 0) s (if (tx_R s).1 = 0 then -4 else nI (tx_R s).2.2.1) (tx_after s (tx_R s).1 (tx_R s).2.1) := by
  intro pl M hX
  have e1 := hX.2.2.2.2.1 0 0 1 (by decide) rfl
  have e4 := hX.2.2.2.1
  obtain ⟨-, -, -, -, -, -, -, -, -, -, -, -, -, -, g9, g10, g11, -⟩ := id hX
  obtain ⟨U, u1, u2, u3, u4⟩ := px_readInto ho hX.S g9 g11
  have x := hX.rd (s' := tx_after s (tx_R s).1 (tx_R s).2.1) u2 (fun k hk => by show (if k = 7 then _ else s.1 k) = _; rw [if_neg hk]) (fun r hr => by show (if r = 9 then _ else s.2 r) = _; rw [if_neg hr]) (by
    show _ = nI (if (tx_R s).1 = 0 then 0 else if 20 ≤ (tx_R s).1 then 3 else 2)
    by_cases c : (tx_R s).1 = 0
    · rw [if_pos c]; exact (u3 c).2
    · rw [if_neg c]; exact (u4 c).1) (fun i hi => by
    have hi : i < (if (tx_R s).1 = 0 then 0 else if 20 ≤ (tx_R s).1 then 3 else 2) := hi
    show _ = nI (if i = 0 then 100 + (tx_R s).2.1 else if i = 1 then (if 20 ≤ (tx_R s).1 then 4 else (tx_R s).1) else (tx_R s).1)
    by_cases c : (tx_R s).1 = 0
    · rw [if_pos c] at hi; exact absurd hi (Nat.not_lt_zero i)
    · obtain ⟨-, w0, w1, w2⟩ := u4 c
      rw [if_neg c] at hi
      have hi3 : i < 3 := by split at hi <;> omega
      rcases (show i = 0 ∨ i = 1 ∨ i = 2 by omega) with rfl | rfl | rfl
      · rw [if_pos rfl]; exact w0
      · rw [if_neg (by decide), if_pos rfl]; exact w1
      · rw [if_neg (by decide), if_neg (by decide)]; exact w2)
  refine ⟨pl, U, ?_, x.1, x.2⟩
  unfold fX9_fault
  rw [e1, am_bs, e4, am_bs, u1, am_bs]
