/-! fault, lay -/
theorem ps_M.tS {s : ps_S} {M : am_M} (h : ps_M s M) : tm_S M := ⟨h.1, h.2.1⟩
/-- the text's causes have changed alone -/
theorem ps_M.rd {s s' : ps_S} {M U : am_M} (hM : ps_M s M) (e2 : U.2 = M.2) (r1 : ∀ a, a ≠ 53 → a ≠ 58 → a ≠ 59 → U.1 a = M.1 a) (r2 : ∀ j, j < 13 → j ≠ 11 → U.1 53 j = M.1 53 j) (hs : ∀ k, k ≠ 7 → s'.1 k = s.1 k) (hr : ∀ r, r ≠ 9 → s'.2 r = s.2 r) (t2 : U.1 53 11 = nI (s'.1 7)) (t4 : ∀ i, i < s'.1 7 → U.1 58 i = nI (s'.2 9 i)) : ps_M s' U ∧ am_fm M U := by
  obtain ⟨m1, m2, m3, m4, m5, m6, m7, m8, m9, m10, m11, m12, m13, m14⟩ := hM
  refine ⟨⟨by rw [e2]; exact m1, by rw [e2]; exact m2, ?_⟩, by rw [e2], fun k hk => ⟨r1 k (by omega) (by omega) (by omega), by rw [e2], by rw [e2]⟩⟩
  rw [r2 0 (by decide) (by decide), r2 1 (by decide) (by decide), r2 2 (by decide) (by decide), r2 3 (by decide) (by decide), r2 4 (by decide) (by decide), r2 6 (by decide) (by decide), r2 10 (by decide) (by decide), r1 54 (by decide) (by decide) (by decide), r1 55 (by decide) (by decide) (by decide), r1 56 (by decide) (by decide) (by decide), r1 57 (by decide) (by decide) (by decide), hs 0 (by decide), hs 1 (by decide), hs 2 (by decide), hs 3 (by decide), hs 4 (by decide), hs 5 (by decide), hs 6 (by decide), hr 6 (by decide), hr 7 (by decide), hr 8 (by decide)]
  exact ⟨m3, m4, m5, m6, m7, m8, m9, t2, fun i j hi hj => by rw [hr j (by omega)]; exact m11 i j hi hj, m12, m13, t4⟩
theorem pm_fault {s : ps_S} (ho : ps_ok s) : ∀ M, ps_M s M → ∃ U, fX10_goesThrough 53 0 M = some (if (tx_R s).1 = 0 then -4 else nI (tx_R s).2.2.1, U) ∧ ps_M (tx_after s (tx_R s).1 (tx_R s).2.1) U ∧ am_fm M U := by
  intro M hM
  obtain ⟨m1, m2, m3, m4, m5, m6, m7, m8, m9, m10, m11, m12, m13, m14⟩ := id hM
  obtain ⟨U, u1, u2, u3⟩ := pm_goes (lb := 0) ho (by decide) hM.tS m9 m13
  refine ⟨U, u1, ?_⟩
  have hs : ∀ k, k ≠ 7 → (tx_after s (tx_R s).1 (tx_R s).2.1).1 k = s.1 k := fun k hk => by show (if k = 7 then _ else s.1 k) = _; rw [if_neg hk]
  have hr : ∀ r, r ≠ 9 → (tx_after s (tx_R s).1 (tx_R s).2.1).2 r = s.2 r := fun r hr => by show (if r = 9 then _ else s.2 r) = _; rw [if_neg hr]
  by_cases c : (tx_R s).1 = 0
  · obtain ⟨v1, -, -⟩ := u2 c
    refine hM.rd v1.1 (fun a x y z => by rw [v1.2.1 a x z (Or.inl rfl), am_pI_r _ _ _ _ x]) (fun j x y => by rw [v1.2.2 j x (Or.inl rfl), am_pI_1, if_neg (fun w => y w.2)]) hs hr ?_ (fun i hi => ?_)
    · show _ = nI (if (tx_R s).1 = 0 then 0 else if 20 ≤ (tx_R s).1 then 3 else 2)
      rw [if_pos c, v1.2.2 11 (by decide) (Or.inl rfl), am_pI_1, if_pos ⟨rfl, rfl⟩]; rfl
    · have hi : i < (if (tx_R s).1 = 0 then 0 else if 20 ≤ (tx_R s).1 then 3 else 2) := hi
      rw [if_pos c] at hi; exact absurd hi (Nat.not_lt_zero i)
  · obtain ⟨v1, v2, v3, v4, v5, v6, v7⟩ := u3 c
    refine hM.rd v1 (fun a x y z => v2 a x y z (Or.inl rfl)) (fun j x y => v3 j x y (Or.inl rfl)) hs hr ?_ (fun i hi => ?_)
    · show _ = nI (if (tx_R s).1 = 0 then 0 else if 20 ≤ (tx_R s).1 then 3 else 2)
      rw [if_neg c]; exact v4
    · have hi : i < (if (tx_R s).1 = 0 then 0 else if 20 ≤ (tx_R s).1 then 3 else 2) := hi
      rw [if_neg c] at hi
      show _ = nI (if i = 0 then 100 + (tx_R s).2.1 else if i = 1 then (if 20 ≤ (tx_R s).1 then 4 else (tx_R s).1) else (tx_R s).1)
      by_cases i0 : i = 0
      · rw [if_pos i0, i0]; exact v5
      · rw [if_neg i0]
        by_cases i1 : i = 1
        · rw [if_pos i1, i1]; exact v6
        · rw [if_neg i1]
          by_cases c20 : 20 ≤ (tx_R s).1
          · rw [if_pos c20] at hi
            have : i = 2 := by omega
            rw [this]; exact v7 c20
          · rw [if_neg c20] at hi; omega
theorem op_fault : ps_op (fX9_fault 0) (fX10_fault 53) := by
  intro s ho
  obtain ⟨-, r2, r3, -⟩ := tx_R_ok ho
  refine ⟨_, _, tx_after_ok ho r2 r3, px_fault ho, fun M hM => ?_⟩
  obtain ⟨U, u1, u2, u3⟩ := pm_fault ho M hM
  refine ⟨U, ?_, u2, u3⟩
  unfold fX10_fault
  rw [u1, am_bs]
theorem tx_run_p {h : Nat → Nat} {n : Nat} : ∀ (f k : Nat) (d : ps_S) (p : Nat), ps_ok d → (¬ (tx_run h n f k d p).1 = 0 → (tx_run h n f k d p).2.2.1 < n) ∧ (p < n → 0 < f → (tx_run h n f k d p).1 = 0 → k < (tx_run h n f k d p).2.1)
  | 0, k, d, p, _ => ⟨fun z => absurd rfl z, fun _ z => absurd z (Nat.lt_irrefl 0)⟩
  | f + 1, k, d, p, od => by
    rw [tx_run]
    by_cases c0 : n ≤ p
    · rw [if_pos c0]; exact ⟨fun z => absurd rfl z, fun z => by omega⟩
    · rw [if_neg c0]
      by_cases c1 : (tx_item h k d p).1 = 0
      · rw [if_pos c1]
        obtain ⟨-, -, m3, m4, -⟩ := tx_item_ok od c1
        have od' : ps_ok (tx_item h k d p).2.2 := by rw [m3]; exact m4
        refine ⟨(tx_run_p f (k + 1) _ _ od').1, fun _ _ _ => ?_⟩
        have := (tx_run_ok (h := h) (n := n) f (k + 1) _ (tx_item h k d p).2.1 od').2.2.1
        omega
      · rw [if_neg c1]; exact ⟨fun _ => by show p < n; omega, fun _ _ z => absurd z c1⟩
theorem tx_R_p {s : ps_S} (ho : ps_ok s) : (¬ (tx_R s).1 = 0 → (tx_R s).2.2.1 < s.1 6) ∧ (0 < s.1 6 → (tx_R s).1 = 0 → 1 ≤ (tx_R s).2.1) := by
  have h := tx_run_p (h := tx_h s) (n := s.1 6) 200 0 (tx_0 s) 0 (tx_0_ok ho)
  exact ⟨h.1, fun a b => h.2 a (by decide) b⟩
def tx_empty (s : ps_S) : ps_S := (fun j => if j = 7 then 1 else s.1 j, fun b => if b = 9 then (fun i => if i = 0 then 5 else 0) else s.2 b)
theorem tx_empty_ok {s : ps_S} (ho : ps_ok s) : ps_ok (tx_empty s) := by
  obtain ⟨o1, o2, o3, o4, o5, o6, o7, o8, o9, o10, o11, o12, o13⟩ := ho
  refine ⟨o1, o2, o3, o4, o5, o6, o7, o8, by show 1 ≤ 3; omega, o10, o11, o12, fun i hi => ?_⟩
  show (if i = 0 then 5 else 0) < 1000
  split <;> omega
theorem px_lay0 {s : ps_S} {pl : Nat} {M : am_M} (ho : ps_ok s) (hX : ps_X s pl M) : ∃ U, fX7_readInto 1 (61 - pl) M = some (if (tx_R s).1 = 0 then -4 else nI (tx_R s).2.2.1, U) ∧ am_fz (61 - pl) M U ∧ ((tx_R s).1 = 0 → ps_P (tx_R s).2.2.2 (61 - pl) U ∧ U.1 1 4 = nI 0) := by
  obtain ⟨-, -, -, -, -, -, -, -, -, -, -, -, -, -, g9, g10, g11, -⟩ := id hX
  obtain ⟨U, u1, u2, u3, u4⟩ := px_readInto ho hX.S g9 g11
  exact ⟨U, u1, u2, u3⟩
theorem px_layE {s : ps_S} (ho : ps_ok s) (hc : (tx_R s).1 = 0) (hn : s.1 6 = 0) : ps_ox (fX9_lay 0) s (-2) (tx_empty s) := by
  intro pl M hX
  have e1 := hX.2.2.2.2.1 0 0 1 (by decide) rfl
  have e4 := hX.2.2.2.1
  obtain ⟨-, -, -, -, -, -, -, -, -, -, -, -, -, -, g9, g10, g11, -⟩ := id hX
  obtain ⟨U, u1, u2, u3⟩ := px_lay0 ho hX
  rw [if_pos hc] at u1
  have S2 := hX.S.fr u2.1
  have f2 : am_fz (61 - pl) M (am_pI (am_pI U 4 0 5) 1 4 1) := ⟨u2.1, fun k a b c d => by rw [am_pI_r _ _ _ _ a, am_pI_r _ _ _ _ c]; exact u2.2.1 k a b c d, by rw [am_pI_1, if_neg (by omega), am_pI_r _ _ _ _ (by decide)]; exact u2.2.2⟩
  have x := hX.rd (s' := tx_empty s) f2 (fun k hk => by show (if k = 7 then _ else s.1 k) = _; rw [if_neg hk]) (fun r hr => by show (if r = 9 then _ else s.2 r) = _; rw [if_neg hr]) (by rw [am_pI_1, if_pos ⟨rfl, rfl⟩]; rfl) (fun i hi => by
    have hi : i < 1 := hi
    have : i = 0 := by omega
    subst this
    rw [am_pI_r _ _ _ _ (by decide), am_pI_1, if_pos ⟨rfl, rfl⟩]; rfl)
  refine ⟨pl, _, ?_, x.1, x.2⟩
  have r1 : U.2.2.1 0 0 = some 1 := by rw [u2.1]; exact e1
  have z3 : U.1 1 3 = 0 := by rw [u2.2.2, g9, hn]; rfl
  have bl : fX7_blameEmptiness 1 U = some (am_pI (am_pI U 4 0 5) 1 4 1) := by
    unfold fX7_blameEmptiness
    simp only [S2.2.2.1, am_bs, S2.2.2.2.2.2.1, show (0 : Int32).toNatClampNeg = 0 from rfl, show ((0 : Int32) < 0 ∨ 3 ≤ 0) = False from eq_false (by decide), if_false]
  unfold fX9_lay
  simp only [e1, e4, am_bs, u1, if_true, r1, z3, bl]
theorem px_layN {s : ps_S} (ho : ps_ok s) (hc : ¬ (tx_R s).1 = 0) : ps_ox (fX9_lay 0) s (-2) (tx_after s (tx_R s).1 (tx_R s).2.1) := by
  intro pl M hX
  have o8 := ho.2.2.2.2.2.2.2.1
  have e1 := hX.2.2.2.2.1 0 0 1 (by decide) rfl
  have e4 := hX.2.2.2.1
  obtain ⟨pl', U, u1, u2, u3⟩ := px_fault ho pl M hX
  refine ⟨pl', U, ?_, u2, u3⟩
  have hp := (tx_R_p ho).1 hc
  rw [if_neg hc] at u1
  unfold fX9_fault at u1
  rw [e1, am_bs, e4, am_bs] at u1
  cases hr : fX7_readInto 1 (61 - pl) M with
  | none => rw [hr] at u1; exact absurd u1 (by intro z; cases z)
  | some w =>
    rw [hr, am_bs] at u1
    have w1 : w.1 = nI (tx_R s).2.2.1 := congrArg Prod.fst (Option.some.inj u1)
    have w2 : w.2 = U := congrArg Prod.snd (Option.some.inj u1)
    have n4 := nz_n4 (show (tx_R s).2.2.1 < 2147483648 by omega)
    unfold fX9_lay
    rw [e1, am_bs, e4, am_bs, hr, am_bs, w1, w2]
    simp only [n4, if_false]
theorem px_layY {s : ps_S} (ho : ps_ok s) (hc : (tx_R s).1 = 0) (hn : ¬ s.1 6 = 0) : ps_ox (fX9_lay 0) s (nI (2 ^ (tx_R s).2.2.2.1 0)) (tx_R s).2.2.2 := by
  intro pl M hX
  have o8 := ho.2.2.2.2.2.2.2.1
  obtain ⟨d1, d2, d3, d4, d5, d6, d7⟩ := tx_R_ok ho
  obtain ⟨h1, h2, h3, h4, h5, h6, g1, g2, g3, g4, g5, g6, g7, g8, g9, g10, g11, g12, g13, g14⟩ := id hX
  have e1 := h5 0 0 1 (by decide) rfl
  have e5 := h5 0 1 5 (by decide) rfl
  obtain ⟨U, u1, u2, u3⟩ := px_lay0 ho hX
  obtain ⟨P, p4⟩ := u3 hc
  rw [if_pos hc] at u1
  generalize (tx_R s).2.2.2 = d at *
  have eq : U.2 = M.2 := u2.1
  have hV : ∀ k j, ¬ (k = 0 ∧ (j = 2 ∨ j = 3)) → (am_pI (am_pI (am_pR (am_pR U 0 2 (some (61 - pl))) 0 3 (some pl)) 5 5 0) 5 6 0).2.2.1 k j = M.2.2.1 k j := fun k j hkj => by
    show am_up (am_up U.2.2.1 0 2 (some (61 - pl))) 0 3 (some pl) k j = _
    unfold am_up
    rw [if_neg (fun z => hkj ⟨z.1, Or.inr z.2⟩), if_neg (fun z => hkj ⟨z.1, Or.inl z.2⟩), eq]
  have hV2 : (am_pI (am_pI (am_pR (am_pR U 0 2 (some (61 - pl))) 0 3 (some pl)) 5 5 0) 5 6 0).2.2.1 0 2 = some (61 - pl) := rfl
  have hV3 : (am_pI (am_pI (am_pR (am_pR U 0 2 (some (61 - pl))) 0 3 (some pl)) 5 5 0) 5 6 0).2.2.1 0 3 = some pl := rfl
  have hVi : ∀ k, k ≠ 5 → (am_pI (am_pI (am_pR (am_pR U 0 2 (some (61 - pl))) 0 3 (some pl)) 5 5 0) 5 6 0).1 k = U.1 k := fun k hk => by rw [am_pI_r _ _ _ _ hk, am_pI_r _ _ _ _ hk]; rfl
  have hVj : (am_pI (am_pI (am_pR (am_pR U 0 2 (some (61 - pl))) 0 3 (some pl)) 5 5 0) 5 6 0).2.1 = M.2.1 := by show U.2.1 = _; rw [eq]
  have hVs : (am_pI (am_pI (am_pR (am_pR U 0 2 (some (61 - pl))) 0 3 (some pl)) 5 5 0) 5 6 0).2.2.2 = M.2.2.2 := by show U.2.2.2 = _; rw [eq]
  have hV55 : (am_pI (am_pI (am_pR (am_pR U 0 2 (some (61 - pl))) 0 3 (some pl)) 5 5 0) 5 6 0).1 5 5 = nI 0 := by rw [am_pI_1, if_neg (by omega), am_pI_1, if_pos ⟨rfl, rfl⟩]; rfl
  have hV56 : (am_pI (am_pI (am_pR (am_pR U 0 2 (some (61 - pl))) 0 3 (some pl)) 5 5 0) 5 6 0).1 5 6 = nI 0 := by rw [am_pI_1, if_pos ⟨rfl, rfl⟩]; rfl
  have run : fX9_lay 0 M = (fX5_side (61 - pl) (am_pI (am_pI (am_pR (am_pR U 0 2 (some (61 - pl))) 0 3 (some pl)) 5 5 0) 5 6 0)).bind fun p40 => some (p40.1, p40.2) := by
    have r1 : U.2.2.1 0 0 = some 1 := by rw [eq]; exact e1
    have r2 : U.2.2.1 0 2 = some pl := by rw [eq]; exact h3
    have r3 : U.2.2.1 0 3 = some (61 - pl) := by rw [eq]; exact h4
    have z3 : (U.1 1 3 = 0) = False := by rw [u2.2.2, g9, nz_eq0 (by omega)]; exact eq_false hn
    have r5 : (am_pR (am_pR U 0 2 (some (61 - pl))) 0 3 (some pl)).2.2.1 0 1 = some 5 := by
      show am_up (am_up U.2.2.1 0 2 (some (61 - pl))) 0 3 (some pl) 0 1 = _
      unfold am_up
      rw [if_neg (by omega), if_neg (by omega), eq]; exact e5
    have fg : fX0_forget 5 (am_pR (am_pR U 0 2 (some (61 - pl))) 0 3 (some pl)) = some (am_pI (am_pI (am_pR (am_pR U 0 2 (some (61 - pl))) 0 3 (some pl)) 5 5 0) 5 6 0) := rfl
    unfold fX9_lay
    simp only [e1, h4, am_bs, u1, if_true, r1, z3, if_false, r2, r3, r5, fg, hV2]
  generalize am_pI (am_pI (am_pR (am_pR U 0 2 (some (61 - pl))) 0 3 (some pl)) 5 5 0) 5 6 0 = V at *
  obtain ⟨P1, P2, P3, P4, P5, P6, P7, P8⟩ := P
  refine ⟨61 - pl, V, ?_, ?_, ?_⟩
  · have sd := px_side (q := 61 - pl) (D := d.1 0) (T := V) d1.2.1 (by rw [hVi (61 - pl) (by omega)]; exact P2)
    rw [run, sd, am_bs]
  · refine ⟨hVs.trans h1, by omega, hV2, by rw [hV3]; congr 1; omega, fun k j q hk hq => ?_, fun p hp => ?_, ?_⟩
    · rw [hV k j (fun z => by
        obtain ⟨z1, z2⟩ := z
        subst z1
        rcases z2 with z2 | z2
        · subst z2; exact absurd hq (by intro w; cases w)
        · subst z2; exact absurd hq (by intro w; cases w))]
      exact h5 k j q hk hq
    · obtain ⟨pi, a, b⟩ := h6 p hp
      exact ⟨pi, fun i hi => by rw [hV (p + 6) i (by omega)]; exact a i hi, b⟩
    · rw [hVi (61 - pl) (by omega), hVi (61 - pl + 1) (by omega), hVi (61 - pl + 2) (by omega), hVi (61 - pl + 3) (by omega), hVi 1 (by decide), hVi 2 (by decide), hVi 4 (by decide)]
      refine ⟨P1, P2, P3, P4, P5, P6, P7, fun i hi => ?_, ?_, ?_, fun i hi => ?_, fun i hi => ?_, Or.inl hV55, Or.inl hV56⟩
      · obtain ⟨q, q1, q2, q3, q4⟩ := P8 i hi
        refine ⟨q, ?_, q2, q3, fun j hj => by rw [hVi q (by omega)]; exact q4 j hj⟩
        rw [hV (61 - pl + 6) i (by omega), ← eq]; exact q1
      · rw [u2.2.2, g9, d4]
      · rw [p4, d5]
      · rw [d4] at hi
        rw [d6, u2.2.1 2 (by decide) (by decide) (by decide) (by omega)]; exact g11 i hi
      · rw [d5] at hi; exact absurd hi (Nat.not_lt_zero i)
  · refine ⟨hVs, fun k hk => ⟨?_, ?_⟩⟩
    · rw [hVi k (by omega)]; exact u2.2.1 k (by omega) (by omega) (by omega) (by omega)
    · funext j
      exact hV k j (by omega)
theorem pm_layY {s : ps_S} (ho : ps_ok s) (hc : (tx_R s).1 = 0) (hn : ¬ s.1 6 = 0) : ps_om (fX10_lay 53) s (nI (2 ^ (tx_R s).2.2.2.1 0)) (tx_R s).2.2.2 := by
  intro M hM
  have o8 := ho.2.2.2.2.2.2.2.1
  obtain ⟨d1, d2, d3, d4, d5, d6, d7⟩ := tx_R_ok ho
  have k1 := (tx_R_p ho).2 (by omega) hc
  obtain ⟨m1, m2, m3, m4, m5, m6, m7, m8, m9, m10, m11, m12, m13, m14⟩ := id hM
  obtain ⟨U, u1, u2, -⟩ := pm_goes (lb := 0) ho (by decide) hM.tS m9 m13
  obtain ⟨v1, -, -⟩ := u2 hc
  have SU : tm_S U := hM.tS.fr v1.1
  have U10 : U.1 53 10 = nI (s.1 6) := by rw [v1.2.2 10 (by decide) (Or.inl rfl), am_pI_1, if_neg (by omega)]; exact m9
  have U57 : ∀ i, i < s.1 6 → U.1 57 i = nI (s.2 8 i) := fun i hi => by rw [v1.2.1 57 (by decide) (by decide) (Or.inl rfl), am_pI_r _ _ _ _ (by decide)]; exact m13 i hi
  obtain ⟨W, w1, w2, -⟩ := pm_goes (lb := 1) ho (by decide) SU U10 U57
  obtain ⟨x1, x2, x3⟩ := w2 hc
  obtain ⟨y1, y2, y3⟩ := x3 rfl
  obtain ⟨y10, y11, y12, y13⟩ := y1 k1
  rw [if_pos hc] at u1 w1
  have u1' : fX10_goesThrough 53 0 M = some (-4, U) := u1
  have w1' : fX10_goesThrough 53 1 U = some (-4, W) := w1
  generalize (tx_R s).2.2.2 = d at *
  have hVi : ∀ k, k ≠ 53 → (am_pI (am_pI W 53 4 (nI (d.1 4))) 53 6 (nI (d.1 5))).1 k = W.1 k := fun k hk => by rw [am_pI_r _ _ _ _ hk, am_pI_r _ _ _ _ hk]
  have hVj : ∀ j, j ≠ 4 → j ≠ 6 → (am_pI (am_pI W 53 4 (nI (d.1 4))) 53 6 (nI (d.1 5))).1 53 j = W.1 53 j := fun j a b => by rw [am_pI_1, if_neg (by omega), am_pI_1, if_neg (by omega)]
  have eW : W.2 = M.2 := x1.1.trans v1.1
  refine ⟨am_pI (am_pI W 53 4 (nI (d.1 4))) 53 6 (nI (d.1 5)), ?_, ⟨by show W.2.2.2 = _; rw [eW]; exact m1, by show ∀ k j q, 53 ≤ k → am_rf k j = some q → W.2.2.1 k j = some q; rw [eW]; exact m2, ?_⟩, by show W.2.2.2 = _; rw [eW], fun k hk => ⟨?_, by show W.2.1 k = _; rw [eW], by show W.2.2.1 k = _; rw [eW]⟩⟩
  · have z10 : (U.1 53 10 = 0) = False := by rw [U10, nz_eq0 (by omega)]; exact eq_false hn
    have z16 : (am_pI W 53 4 (nI (d.1 4))).1 53 16 = nI (d.1 5) := by rw [am_pI_1, if_neg (by omega)]; exact x2.2.2.1
    have sd : fX10_side 53 (am_pI (am_pI W 53 4 (nI (d.1 4))) 53 6 (nI (d.1 5))) = some (nI (2 ^ d.1 0), am_pI (am_pI W 53 4 (nI (d.1 4))) 53 6 (nI (d.1 5))) := pm_side d1.2.1 (by rw [hVj 0 (by decide) (by decide)]; exact y10)
    unfold fX10_lay
    simp only [u1', am_bs, if_true, z10, if_false, w1', x2.2.1, z16, sd]
  · rw [hVj 0 (by decide) (by decide), hVj 1 (by decide) (by decide), hVj 2 (by decide) (by decide), hVj 3 (by decide) (by decide), hVj 10 (by decide) (by decide), hVj 11 (by decide) (by decide), hVi 54 (by decide), hVi 55 (by decide), hVi 56 (by decide), hVi 57 (by decide), hVi 58 (by decide)]
    refine ⟨y10, y11, y12, y13, by rw [am_pI_1, if_neg (by omega), am_pI_1, if_pos ⟨rfl, rfl⟩], by rw [am_pI_1, if_pos ⟨rfl, rfl⟩], ?_, ?_, y2, y3, fun i hi => ?_, fun i hi => ?_⟩
    · rw [x1.2.2 10 (by decide) (Or.inr (by decide)), am_pI_1, if_neg (by omega), U10, d4]
    · rw [x1.2.2 11 (by decide) (Or.inr (by decide)), am_pI_1, if_pos ⟨rfl, rfl⟩, d5]; rfl
    · rw [d4] at hi
      rw [x1.2.1 57 (by decide) (by decide) (Or.inr (by decide)), am_pI_r _ _ _ _ (by decide), d6]; exact U57 i hi
    · rw [d5] at hi; exact absurd hi (Nat.not_lt_zero i)
  · rw [hVi k (by omega), x1.2.1 k (by omega) (by omega) (Or.inr (by omega)), am_pI_r _ _ _ _ (by omega), v1.2.1 k (by omega) (by omega) (Or.inl rfl), am_pI_r _ _ _ _ (by omega)]
theorem op_lay : ps_op (fX9_lay 0) (fX10_lay 53) := by
  intro s ho
  have o8 := ho.2.2.2.2.2.2.2.1
  obtain ⟨d1, d2, d3, d4, d5, d6, d7⟩ := tx_R_ok ho
  by_cases c : (tx_R s).1 = 0
  · by_cases cn : s.1 6 = 0
    · refine ⟨-2, tx_empty s, tx_empty_ok ho, px_layE ho c cn, fun M hM => ?_⟩
      obtain ⟨m1, m2, m3, m4, m5, m6, m7, m8, m9, m10, m11, m12, m13, m14⟩ := id hM
      obtain ⟨U, u1, u2, -⟩ := pm_goes (lb := 0) ho (by decide) hM.tS m9 m13
      obtain ⟨v1, -, -⟩ := u2 c
      rw [if_pos c] at u1
      have u1' : fX10_goesThrough 53 0 M = some (-4, U) := u1
      have SU : tm_S U := hM.tS.fr v1.1
      have r12 := SU.2 53 12 58 (by decide) rfl
      have l58 : am_len U 58 = 3 := am_len_SH SU.1 58
      have U10 : U.1 53 10 = 0 := by rw [v1.2.2 10 (by decide) (Or.inl rfl), am_pI_1, if_neg (by omega), m9, cn]; rfl
      have x := hM.rd (s' := tx_empty s) (U := am_pI (am_pI U 58 0 5) 53 11 1) v1.1 (fun a x y z => by rw [am_pI_r _ _ _ _ x, am_pI_r _ _ _ _ y, v1.2.1 a x z (Or.inl rfl), am_pI_r _ _ _ _ x]) (fun j x y => by rw [am_pI_1, if_neg (fun w => y w.2), am_pI_r _ _ _ _ (by decide), v1.2.2 j x (Or.inl rfl), am_pI_1, if_neg (fun w => y w.2)]) (fun k hk => by show (if k = 7 then _ else s.1 k) = _; rw [if_neg hk]) (fun r hr => by show (if r = 9 then _ else s.2 r) = _; rw [if_neg hr]) (by rw [am_pI_1, if_pos ⟨rfl, rfl⟩]; rfl) (fun i hi => by
        have hi : i < 1 := hi
        have : i = 0 := by omega
        subst this
        rw [am_pI_r _ _ _ _ (by decide), am_pI_1, if_pos ⟨rfl, rfl⟩]; rfl)
      refine ⟨_, ?_, x.1, x.2⟩
      unfold fX10_lay
      simp only [u1', am_bs, if_true, U10, r12, l58, show (0 : Int32).toNatClampNeg = 0 from rfl, show ((0 : Int32) < 0 ∨ 3 ≤ 0) = False from eq_false (by decide), if_false]
    · exact ⟨_, _, d1, px_layY ho c cn, pm_layY ho c cn⟩
  · refine ⟨-2, _, tx_after_ok ho d2 d3, px_layN ho c, fun M hM => ?_⟩
    obtain ⟨U, u1, u2, u3⟩ := pm_fault ho M hM
    refine ⟨U, ?_, u2, u3⟩
    have hp := (tx_R_p ho).1 c
    have n4 := nz_n4 (show (tx_R s).2.2.1 < 2147483648 by omega)
    rw [if_neg c] at u1
    unfold fX10_lay
    simp only [u1, am_bs, n4, if_false]
