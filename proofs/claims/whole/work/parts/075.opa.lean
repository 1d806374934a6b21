/-! ===== operations: what both objects do, by the state ===== -/
def ps_ox (f : am_M → Option (Int32 × am_M)) (s : ps_S) (r : Int32) (s' : ps_S) : Prop := ∀ pl M, ps_X s pl M → ∃ pl' M1, f M = some (r, M1) ∧ ps_X s' pl' M1 ∧ am_fx M M1
def ps_om (f : am_M → Option (Int32 × am_M)) (s : ps_S) (r : Int32) (s' : ps_S) : Prop := ∀ M, ps_M s M → ∃ M1, f M = some (r, M1) ∧ ps_M s' M1 ∧ am_fm M M1
def ps_op (f g : am_M → Option (Int32 × am_M)) : Prop := ∀ s, ps_ok s → ∃ r s', ps_ok s' ∧ ps_ox f s r s' ∧ ps_om g s r s'
theorem am_fx.rf (M : am_M) : am_fx M M := ⟨rfl, fun _ _ => ⟨rfl, rfl⟩⟩
theorem am_fm.rf (M : am_M) : am_fm M M := ⟨rfl, fun _ _ => ⟨rfl, rfl, rfl⟩⟩
theorem am_fx.pI {M M1 : am_M} (h : am_fx M M1) {k : Nat} (hk : k < 53) (j : Nat) (x : Int32) : am_fx M (am_pI M1 k j x) := ⟨h.1, fun a ha => ⟨(am_pI_r M1 k j x (by omega)).trans (h.2 a ha).1, (h.2 a ha).2⟩⟩
theorem am_fm.pI {M M1 : am_M} (h : am_fm M M1) {k : Nat} (hk : 53 ≤ k) (j : Nat) (x : Int32) : am_fm M (am_pI M1 k j x) := ⟨h.1, fun a ha => ⟨(am_pI_r M1 k j x (by omega)).trans (h.2 a ha).1, (h.2 a ha).2⟩⟩
theorem ps_ox.same {f : am_M → Option (Int32 × am_M)} {s : ps_S} {r : Int32} (h : ∀ pl M, ps_X s pl M → f M = some (r, M)) : ps_ox f s r s := fun pl M hX => ⟨pl, M, h pl M hX, hX, am_fx.rf M⟩
theorem ps_om.same {f : am_M → Option (Int32 × am_M)} {s : ps_S} {r : Int32} (h : ∀ M, ps_M s M → f M = some (r, M)) : ps_om f s r s := fun M hM => ⟨M, h M hM, hM, am_fm.rf M⟩
/-- numbers of the state, rows of it -/
def ps_n (s : ps_S) (k v : Nat) : ps_S := (fun j => if j = k then v else s.1 j, s.2)
def ps_w (s : ps_S) (a i v : Nat) : ps_S := (s.1, fun b => if b = a then (fun j => if j = i then v else s.2 a j) else s.2 b)
theorem nm_chr {n : Nat} (h : n < 65536) : ((nI n).toUInt32 % 65536).toInt32 = nI n := by
  rw [pk_char, pk_tn (by omega), Nat.mod_eq_of_lt h]
theorem nm_nar {n : Nat} (h : n < 65536) : vp_nar .char (nI n) = nI n := by
  unfold vp_nar
  rw [(pk_charN h).1]
/-- an int below, within, above -/
theorem nm_cut (a : Int32) (n : Nat) (hn : n < 2147483648) : a < 0 ∨ nI n ≤ a ∨ ∃ j, j < n ∧ a = nI j := pk_ix a hn
theorem nm_neg {a : Int32} (h : a < 0) {n : Nat} (hn : n < 2147483648) : a < nI n ∧ a ≤ nI n ∧ ¬ nI n < a ∧ ¬ nI n ≤ a ∧ ¬ a = nI n ∧ ¬ nI n = a := by
  have h0 : (0 : Int32).toInt = 0 := rfl
  have h1 : a.toInt < 0 := by rw [Int32.lt_iff_toInt_lt] at h; rw [h0] at h; exact h
  have h2 := nI_toInt (n := n) (by omega)
  refine ⟨?_, ?_, ?_, ?_, ?_, ?_⟩
  · rw [Int32.lt_iff_toInt_lt, h2]; omega
  · rw [Int32.le_iff_toInt_le, h2]; omega
  · rw [Int32.lt_iff_toInt_lt, h2]; omega
  · rw [Int32.le_iff_toInt_le, h2]; omega
  · intro e; rw [e, h2] at h1; omega
  · intro e; rw [← e, h2] at h1; omega
theorem nm_big {a : Int32} {m : Nat} (hm : m < 2147483648) (h : nI m ≤ a) {n : Nat} (hn : n < m) : nI n < a ∧ nI n ≤ a ∧ ¬ a < nI n ∧ ¬ a ≤ nI n ∧ ¬ a = nI n ∧ ¬ a < 0 ∧ 0 ≤ a := by
  have h2 := nI_toInt (n := n) (by omega)
  have h3 := nI_toInt (n := m) (by omega)
  have h0 : (0 : Int32).toInt = 0 := rfl
  rw [Int32.le_iff_toInt_le, h3] at h
  refine ⟨?_, ?_, ?_, ?_, ?_, ?_, ?_⟩
  · rw [Int32.lt_iff_toInt_lt, h2]; omega
  · rw [Int32.le_iff_toInt_le, h2]; omega
  · rw [Int32.lt_iff_toInt_lt, h2]; omega
  · rw [Int32.le_iff_toInt_le, h2]; omega
  · intro e; rw [e, h2] at h; omega
  · rw [Int32.lt_iff_toInt_lt, h0]; omega
  · rw [Int32.le_iff_toInt_le, h0]; omega
/-! write, wipe, cause -/
theorem op_write (a : Int32) : ps_op (fX9_write 0 a) (fX10_write 53 a) := by
  intro s ho
  obtain ⟨o1, o2, o3, o4, o5, o6, o7, o8, o9, o10, o11, o12, o13⟩ := ho
  have bad : (a < 32 ∨ 126 < a) → ∃ r s', ps_ok s' ∧ ps_ox (fX9_write 0 a) s r s' ∧ ps_om (fX10_write 53 a) s r s' := by
    intro h
    refine ⟨-1, s, ⟨o1, o2, o3, o4, o5, o6, o7, o8, o9, o10, o11, o12, o13⟩, ps_ox.same (fun pl M _ => ?_), ps_om.same (fun M _ => ?_)⟩
    · unfold fX9_write
      by_cases h1 : a < 32
      · rw [if_pos h1]
      · rw [if_neg h1, if_neg]
        rcases h with h | h
        · exact absurd h h1
        · exact Int32.not_le.mpr h
    · unfold fX10_write fX10_isIn
      by_cases h1 : a < 32
      · rw [if_pos h1]; rfl
      · rw [if_neg h1]
        rcases h with h | h
        · exact absurd h h1
        · rw [if_pos h]; rfl
  rcases nm_cut a 127 (by decide) with h | h | ⟨n, hn, rfl⟩
  · exact bad (Or.inl (by rw [nm_32]; exact (nm_neg h (by decide)).1))
  · exact bad (Or.inr (by rw [nm_126]; exact (nm_big (by decide) h (by decide)).1))
  · by_cases h32 : n < 32
    · exact bad (Or.inl (by rw [nm_32, nm_lt (by omega) (by decide)]; exact h32))
    · have c1 : ¬ nI n < 32 := by rw [nm_32, nm_lt (by omega) (by decide)]; exact h32
      have c2 : nI n ≤ 126 := by rw [nm_126, nm_le (by omega) (by decide)]; omega
      have c3 : ¬ (126 : Int32) < nI n := by rw [nm_126, nm_lt (by decide) (by omega)]; omega
      by_cases hf : s.1 6 = 200
      · refine ⟨-3, s, ⟨o1, o2, o3, o4, o5, o6, o7, o8, o9, o10, o11, o12, o13⟩, ps_ox.same (fun pl M hX => ?_), ps_om.same (fun M hM => ?_)⟩
        · have e1 := hX.2.2.2.2.1 0 0 1 (by decide) rfl
          obtain ⟨-, -, -, -, -, -, -, -, -, -, -, -, -, -, g9, -⟩ := hX
          unfold fX9_write fX7_append
          rw [if_neg c1, if_pos c2, e1, Option.bind_some, g9, hf, if_neg (by decide), Option.bind_some]
          rfl
        · obtain ⟨-, -, -, -, -, -, -, -, g9, -⟩ := hM
          unfold fX10_write fX10_isIn
          rw [if_neg c1, if_neg c3, Option.bind_some]
          show (if (1 : Int32) = 0 then _ else if M.1 53 10 = 200 then _ else _) = _
          rw [if_neg (by decide), g9, hf, if_pos (show nI 200 = (200 : Int32) from rfl)]
      · refine ⟨nI (s.1 6 + 1), ps_w (ps_n s 6 (s.1 6 + 1)) 8 (s.1 6) n, ⟨o1, o2, o3, o4, o5, o6, o7, by show s.1 6 + 1 ≤ 200; omega, o9, o10, o11, fun i hi => ?_, o13⟩, fun pl M hX => ?_, fun M hM => ?_⟩
        · have hi : i < s.1 6 + 1 := hi
          show 32 ≤ (if i = s.1 6 then n else s.2 8 i) ∧ (if i = s.1 6 then n else s.2 8 i) ≤ 126
          by_cases e : i = s.1 6
          · rw [if_pos e]; omega
          · rw [if_neg e]; exact o12 i (by omega)
        · have e1 := hX.2.2.2.2.1 0 0 1 (by decide) rfl
          have e2 := hX.2.2.2.2.1 1 0 2 (by decide) rfl
          have e3 : am_len M 2 = 200 := am_len_SH hX.1 2
          obtain ⟨-, -, -, -, -, -, -, -, -, -, -, -, -, -, g9, g10, g11, g12, -⟩ := id hX
          refine ⟨pl, am_pI (am_pI M 2 (s.1 6) (nI n)) 1 3 (nI (s.1 6 + 1)), ?_, ?_, ((am_fx.rf M).pI (by decide) _ _).pI (by decide) _ _⟩
          · unfold fX9_write fX7_append
            have q1 : (nI (s.1 6) < 200) = True := by rw [nm_200, nm_lt (by omega) (by decide)]; exact eq_true (by omega)
            rw [if_neg c1, if_pos c2, e1, Option.bind_some, g9, if_pos (of_eq_true q1), e2, Option.bind_some, e3, am_ix (by omega) (by decide), Option.bind_some, nm_cl (by omega), nm_chr (by omega), nm_nar (by omega)]
            have q2 : (am_pI M 2 (s.1 6) (nI n)).1 1 3 + 1 = nI (s.1 6 + 1) := by
              rw [am_pI_1, if_neg (by omega), g9, nI_1]
            show (if (1 : Int32) = 0 then _ else ((am_pI (am_pI M 2 (s.1 6) (nI n)) 1 3 _).2.2.1 0 0).bind _) = _
            rw [if_neg (by decide), q2]
            show (M.2.2.1 0 0).bind _ = _
            rw [e1, Option.bind_some]
            rfl
          · refine hX.text (fun k hk => ?_) (fun r hr => ?_) rfl rfl rfl (fun k hk => ?_) rfl ?_ (fun i hi => ?_) (fun i hi => ?_)
            · show (if k = 6 then _ else s.1 k) = _
              rw [if_neg (by omega)]
            · show (if r = 8 then _ else s.2 r) = _
              rw [if_neg (by omega)]
            · rw [am_pI_r _ _ _ _ (by omega), am_pI_r _ _ _ _ (by omega)]
            · show (am_pI (am_pI M 2 (s.1 6) (nI n)) 1 3 (nI (s.1 6 + 1))).1 1 4 = nI (s.1 7)
              rw [am_pI_1, if_neg (by omega), am_pI_1, if_neg (by omega)]
              exact g10
            · have hi : i < s.1 6 + 1 := hi
              show (am_pI (am_pI M 2 (s.1 6) (nI n)) 1 3 (nI (s.1 6 + 1))).1 2 i = nI (if i = s.1 6 then n else s.2 8 i)
              rw [am_pI_1, if_neg (by omega), am_pI_1]
              by_cases e : i = s.1 6
              · rw [if_pos ⟨rfl, e⟩, if_pos e]
              · rw [if_neg (by omega), if_neg e]; exact g11 i (by omega)
            · show (am_pI (am_pI M 2 (s.1 6) (nI n)) 1 3 (nI (s.1 6 + 1))).1 4 i = nI (s.2 9 i)
              rw [am_pI_1, if_neg (by omega), am_pI_1, if_neg (by omega)]
              exact g12 i hi
        · have e1 := hM.2.1 53 9 57 (by decide) rfl
          have e3 : am_len M 57 = 200 := am_len_SH hM.1 57
          obtain ⟨m1, m2, m3, m4, m5, m6, m7, m8, m9, m10, m11, m12, m13, m14⟩ := id hM
          refine ⟨am_pI (am_pI M 57 (s.1 6) (nI n)) 53 10 (nI (s.1 6 + 1)), ?_, ?_, ((am_fm.rf M).pI (by decide) _ _).pI (by decide) _ _⟩
          · unfold fX10_write fX10_isIn
            rw [if_neg c1, if_neg c3, Option.bind_some]
            show (if (1 : Int32) = 0 then _ else if M.1 53 10 = 200 then _ else (M.2.2.1 53 9).bind _) = _
            have q1 : ¬ nI (s.1 6) = 200 := by rw [nm_200, nm_eq (by omega) (by decide)]; exact hf
            have q2 : (am_pI M 57 (s.1 6) (nI n)).1 53 10 + 1 = nI (s.1 6 + 1) := by
              rw [am_pI_1, if_neg (by omega), m9, nI_1]
            rw [if_neg (by decide), m9, if_neg q1, e1, Option.bind_some]
            show (if nI (s.1 6) < 0 ∨ am_len M 57 ≤ (nI (s.1 6)).toNatClampNeg then none else _) = _
            rw [e3, am_ix (by omega) (by decide), nm_cl (by omega), q2]
            rfl
          · refine ⟨m1, m2, ?_⟩
            simp only [am_pI_1, ps_w, ps_n]
            refine ⟨m3, m4, m5, m6, m7, m8, rfl, m10, fun i j hi hj => ?_, m12, fun i hi => ?_, m14⟩
            · rw [if_neg (by omega), if_neg (by omega), if_neg (show ¬ j = 8 by omega)]; exact m11 i j hi hj
            · have hi : i < s.1 6 + 1 := hi
              by_cases e : i = s.1 6
              · simp [e]
              · simp [e]; exact m13 i (by omega)
