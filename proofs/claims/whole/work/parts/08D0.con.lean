/-! ===== the constructors ===== -/
def in_L : List Nat := [119, 52, 44, 49, 59, 43, 98, 50, 44, 51, 44, 57, 44, 56, 59, 43, 100, 49, 48, 44, 57, 44, 52, 59, 45, 98, 53, 44, 53, 44, 54, 44, 49, 50, 59, 112, 51, 44, 51, 59, 112, 49, 48, 44, 49, 48, 59, 112, 53, 44, 54, 59, 112, 48, 44, 49, 53, 59, 112, 57, 44, 52, 59, 112, 51, 44, 51, 59]
theorem in_chr : ∀ i : Fin 68, am_chr2 (nI i.val) = nI (in_L.getD i.val 0) := by decide +kernel
theorem in_chr_le : ∀ i : Fin 68, 32 ≤ in_L.getD i.val 0 ∧ in_L.getD i.val 0 ≤ 126 := by decide +kernel
def in_1 : am_M := am_new (fun _ _ => 0, fun _ _ => 0, fun _ _ => none, []) 13 4
def in_2 : am_M := am_new in_1 11 6
def in_5 : am_M := am_pR (am_new (am_pR (am_new (am_pR (am_new in_2 2 200) 1 0 (some 2)) 0 4) 1 1 (some 3)) 0 3) 1 2 (some 4)
def in_7 : am_M := am_new (am_pR in_5 0 0 (some 1)) 5 7
def in_10 : am_M := am_pR (am_pR (am_new (am_new in_7 7 1) 1 64) 6 0 (some 7)) 5 0 (some 6)
def in_13 : am_M := am_pR (am_pR (am_new (am_new in_10 7 1) 1 64) 8 0 (some 9)) 5 1 (some 8)
def in_16 : am_M := am_pR (am_pR (am_new (am_new in_13 7 1) 1 64) 10 0 (some 11)) 5 2 (some 10)
def in_19 : am_M := am_pR (am_pR (am_new (am_new in_16 6 2) 0 98) 12 0 (some 13)) 5 3 (some 12)
def in_22 : am_M := am_pR (am_pR (am_mna (am_new in_19 12 1) 7 13) 14 0 (some 15)) 5 4 (some 14)
def in_24 : am_M := am_new (am_pR in_22 0 1 (some 5)) 9 7
theorem in_e5 : fX7_init 1 in_2 = some in_5 := rfl
theorem in_e10 : fX3_init 6 (am_new in_7 7 1) = some (am_pR (am_new (am_new in_7 7 1) 1 64) 6 0 (some 7)) := rfl
theorem in_e13 : fX3_init 8 (am_new in_10 7 1) = some (am_pR (am_new (am_new in_10 7 1) 1 64) 8 0 (some 9)) := rfl
theorem in_e16 : fX3_init 10 (am_new in_13 7 1) = some (am_pR (am_new (am_new in_13 7 1) 1 64) 10 0 (some 11)) := rfl
theorem in_e19 : fX2_init 12 (am_new in_16 6 2) = some (am_pR (am_new (am_new in_16 6 2) 0 98) 12 0 (some 13)) := rfl
theorem in_e22 : fX8_init 14 (am_new in_19 12 1) = some (am_pR (am_mna (am_new in_19 12 1) 7 13) 14 0 (some 15)) := rfl
theorem in_cov : fX0_init 5 in_7 = some in_22 := by
  have e1 : fX0_init 5 in_7 = fX0_init_8 5 6 5 (am_new in_7 7 1) := rfl
  rw [e1]
  unfold fX0_init_8
  rw [in_e10, am_bs]
  show fX0_init_19 5 8 5 (am_new in_10 7 1) = some in_22
  unfold fX0_init_19
  rw [in_e13, am_bs]
  show fX0_init_30 5 10 5 (am_new in_13 7 1) = some in_22
  unfold fX0_init_30
  rw [in_e16, am_bs]
  show fX0_init_41 5 12 5 (am_new in_16 6 2) = some in_22
  unfold fX0_init_41
  rw [in_e19, am_bs]
  show fX0_init_52 14 5 (am_new in_19 12 1) = some in_22
  unfold fX0_init_52
  rw [in_e22, am_bs]
  rfl
theorem in_x9 : fX9_init 0 in_1 = (fX5_init 23 in_24).bind fun M12 => fX9_init_41 0 (am_n (am_pR M12 0 2 (some 23))) 0 (am_new (am_pR M12 0 2 (some 23)) (5 + 4) (am_N 4)) := by
  have e1 : fX9_init 0 in_1 = fX9_init_8 0 1 0 in_2 := rfl
  rw [e1]
  unfold fX9_init_8
  rw [in_e5, am_bs]
  have e2 : fX9_init_19 0 (am_n (am_pR in_5 0 0 (some 1))) 0 (am_new (am_pR in_5 0 0 (some 1)) (5 + 0) (am_N 0)) = fX9_init_19 0 5 0 in_7 := rfl
  rw [e2]
  unfold fX9_init_19
  rw [in_cov, am_bs]
  have e3 : fX9_init_30 0 (am_n (am_pR in_22 0 1 (some 5))) 0 (am_new (am_pR in_22 0 1 (some 5)) (5 + 4) (am_N 4)) = fX9_init_30 0 23 0 in_24 := rfl
  rw [e3]
  unfold fX9_init_30
  rfl
/-- reading what was made -/
theorem am_pR_r (M : am_M) (k j : Nat) (x : Option Nat) (a i : Nat) : (am_pR M k j x).2.2.1 a i = if a = k ∧ i = j then x else M.2.2.1 a i := rfl
theorem am_new_r (M : am_M) (kd n : Nat) (a i : Nat) : (am_new M kd n).2.2.1 a i = if a = am_n M then none else M.2.2.1 a i := rfl
theorem am_new_i (M : am_M) (kd n : Nat) (a i : Nat) : (am_new M kd n).1 a i = if a = am_n M then 0 else M.1 a i := rfl
theorem am_n_new (M : am_M) (kd n : Nat) : am_n (am_new M kd n) = am_n M + 1 := by
  show (M.2.2.2 ++ [(kd, n)]).length = _
  rw [List.length_append]; rfl
theorem am_n_pR (M : am_M) (k j : Nat) (x : Option Nat) : am_n (am_pR M k j x) = am_n M := rfl
/-- the plan's own, at q -/
def in_P (q : Nat) (M : am_M) : am_M := am_pR (am_new (am_pR (am_pR (am_new (am_pR (am_new (am_pR (am_new (am_pR (am_new (am_new M 10 5) 0 40) (q + 1) 0 (some (q + 2))) 0 40) (q + 1) 1 (some (q + 3))) 0 40) (q + 1) 2 (some (q + 4))) 0 40) (q + 1) 3 (some (q + 5))) q 0 (some (q + 1))) 3 8) q 1 (some (q + 6))
theorem in_p6 {q : Nat} {M : am_M} (hn : am_n M = q + 1) : fX5_init q M = am_loop fX5_init_26 100000 (q, 0, in_P q M) := by
  have e1 : am_n (am_new M 10 5) = q + 2 := by rw [am_n_new, hn]
  have i6 : fX6_init (q + 1) (am_new M 10 5) = some (am_pR (am_new (am_pR (am_new (am_pR (am_new (am_pR (am_new (am_new M 10 5) 0 40) (q + 1) 0 (some (q + 2))) 0 40) (q + 1) 1 (some (q + 3))) 0 40) (q + 1) 2 (some (q + 4))) 0 40) (q + 1) 3 (some (q + 5))) := by
    unfold fX6_init fX6_init_9 fX6_init_17 fX6_init_25 fX6_init_33
    simp only [am_n_new, am_n_pR, hn]
  have e2 : fX5_init q M = fX5_init_8 q (am_n M) q (am_new M 10 5) := rfl
  rw [e2, hn]
  unfold fX5_init_8
  rw [i6, am_bs]
  unfold fX5_init_21
  simp only [am_n_new, am_n_pR, hn]
  rfl
theorem am_len_at {M : am_M} {q kd n : Nat} (h : M.2.2.2[q]? = some (kd, n)) : am_len M q = n := by unfold am_len; rw [h]
def in_T (q : Nat) (M T : am_M) : Prop := (∀ k, k < q → T.1 k = M.1 k ∧ T.2.2.1 k = M.2.2.1 k) ∧ T.2.2.1 q 0 = some (q + 1) ∧ T.2.2.1 q 1 = some (q + 6) ∧ T.2.2.1 (q + 1) 0 = some (q + 2) ∧ T.2.2.1 (q + 1) 1 = some (q + 3) ∧ T.2.2.1 (q + 1) 2 = some (q + 4) ∧ T.2.2.1 (q + 1) 3 = some (q + 5)
theorem in_plan {q : Nat} {M : am_M} (hn : am_n M = q + 1) : ∃ T, fX5_init q M = some T ∧ in_T q M T ∧ (∀ i, i < 8 → T.2.2.1 (q + 6) i = some (q + 7 + i)) ∧ T.2.2.2 = M.2.2.2 ++ [(10, 5), (0, 40), (0, 40), (0, 40), (0, 40), (3, 8)] ++ List.replicate 8 (8, 6) := by
  rw [in_p6 hn]
  have hP : in_T q M (in_P q M) ∧ (in_P q M).2.2.2 = M.2.2.2 ++ [(10, 5), (0, 40), (0, 40), (0, 40), (0, 40), (3, 8)] := by
    refine ⟨⟨fun k hk => ⟨?_, ?_⟩, ?_, ?_, ?_, ?_, ?_, ?_⟩, ?_⟩
    · funext i
      show (am_new (am_pR (am_pR (am_new (am_pR (am_new (am_pR (am_new (am_pR (am_new (am_new M 10 5) 0 40) (q + 1) 0 (some (q + 2))) 0 40) (q + 1) 1 (some (q + 3))) 0 40) (q + 1) 2 (some (q + 4))) 0 40) (q + 1) 3 (some (q + 5))) q 0 (some (q + 1))) 3 8).1 k i = _
      rw [am_new_i, if_neg (by simp only [am_n_new, am_n_pR, hn]; omega)]
      show (am_new (am_pR (am_new (am_pR (am_new (am_pR (am_new (am_new M 10 5) 0 40) (q + 1) 0 (some (q + 2))) 0 40) (q + 1) 1 (some (q + 3))) 0 40) (q + 1) 2 (some (q + 4))) 0 40).1 k i = _
      rw [am_new_i, if_neg (by simp only [am_n_new, am_n_pR, hn]; omega)]
      show (am_new (am_pR (am_new (am_pR (am_new (am_new M 10 5) 0 40) (q + 1) 0 (some (q + 2))) 0 40) (q + 1) 1 (some (q + 3))) 0 40).1 k i = _
      rw [am_new_i, if_neg (by simp only [am_n_new, am_n_pR, hn]; omega)]
      show (am_new (am_pR (am_new (am_new M 10 5) 0 40) (q + 1) 0 (some (q + 2))) 0 40).1 k i = _
      rw [am_new_i, if_neg (by simp only [am_n_new, am_n_pR, hn]; omega)]
      show (am_new (am_new M 10 5) 0 40).1 k i = _
      rw [am_new_i, if_neg (by simp only [am_n_new, hn]; omega), am_new_i, if_neg (by omega)]
    · funext i
      unfold in_P
      simp only [am_pR_r, am_new_r, am_n_new, am_n_pR, hn]
      rw [if_neg (by omega), if_neg (by omega), if_neg (by omega), if_neg (by omega), if_neg (by omega), if_neg (by omega), if_neg (by omega), if_neg (by omega), if_neg (by omega), if_neg (by omega), if_neg (by omega), if_neg (by omega)]
    · unfold in_P
      simp only [am_pR_r, am_new_r, am_n_new, am_n_pR, hn]
      rw [if_neg (by omega), if_neg (by omega), if_pos (by simp)]
    · unfold in_P
      simp only [am_pR_r]
      rw [if_pos (by simp)]
    · unfold in_P
      simp only [am_pR_r, am_new_r, am_n_new, am_n_pR, hn]
      rw [if_neg (by omega), if_neg (by omega), if_neg (by omega), if_neg (by omega), if_neg (by omega), if_neg (by omega), if_neg (by omega), if_neg (by omega), if_neg (by omega), if_pos (by simp)]
    · unfold in_P
      simp only [am_pR_r, am_new_r, am_n_new, am_n_pR, hn]
      rw [if_neg (by omega), if_neg (by omega), if_neg (by omega), if_neg (by omega), if_neg (by omega), if_neg (by omega), if_neg (by omega), if_pos (by simp)]
    · unfold in_P
      simp only [am_pR_r, am_new_r, am_n_new, am_n_pR, hn]
      rw [if_neg (by omega), if_neg (by omega), if_neg (by omega), if_neg (by omega), if_neg (by omega), if_pos (by simp)]
    · unfold in_P
      simp only [am_pR_r, am_new_r, am_n_new, am_n_pR, hn]
      rw [if_neg (by omega), if_neg (by omega), if_neg (by omega), if_pos (by simp)]
    · show M.2.2.2 ++ [(10, 5)] ++ [(0, 40)] ++ [(0, 40)] ++ [(0, 40)] ++ [(0, 40)] ++ [(3, 8)] = _
      simp
  have lenl : M.2.2.2.length = q + 1 := hn
  obtain ⟨T, t1, t2, t3, t4⟩ := am_loop_inv (f := fX5_init_26) (fun i st => ∃ T, st = (q, nI i, T) ∧ in_T q M T ∧ (∀ u, u < i → T.2.2.1 (q + 6) u = some (q + 7 + u)) ∧ T.2.2.2 = M.2.2.2 ++ [(10, 5), (0, 40), (0, 40), (0, 40), (0, 40), (3, 8)] ++ List.replicate i (8, 6)) (fun r => ∃ T, r = some T ∧ in_T q M T ∧ (∀ u, u < 8 → T.2.2.1 (q + 6) u = some (q + 7 + u)) ∧ T.2.2.2 = M.2.2.2 ++ [(10, 5), (0, 40), (0, 40), (0, 40), (0, 40), (3, 8)] ++ List.replicate 8 (8, 6)) 8
    (fun i st kk hi ⟨T, e, ⟨a1, a2, a3, a4, a5, a6, a7⟩, h2, h3⟩ => by
      subst e
      have hnT : am_n T = q + 7 + i := by
        show T.2.2.2.length = _
        rw [h3]
        simp [lenl]
        omega
      have hl : am_len (am_new T 8 6) (q + 6) = 8 := by
        refine am_len_at (kd := 3) ?_
        show (T.2.2.2 ++ [(8, 6)])[q + 6]? = _
        rw [List.getElem?_append_left (by show q + 6 < am_n T; omega), h3, List.getElem?_append_left (by simp [lenl]), List.getElem?_append_right (by omega), show q + 6 - M.2.2.2.length = 5 by omega]
        rfl
      have hr : ∀ a j, a ≠ q + 6 → a < q + 7 → (am_pR (am_new T 8 6) (q + 6) i (some (q + 7 + i))).2.2.1 a j = T.2.2.1 a j := fun a j h1 h2 => by
        rw [am_pR_r, if_neg (by omega), am_new_r, if_neg (by omega)]
      refine Or.inl ⟨_, ⟨am_pR (am_new T 8 6) (q + 6) i (some (q + 7 + i)), rfl, ⟨fun k hk => ⟨?_, ?_⟩, by rw [hr _ _ (by omega) (by omega)]; exact a2, by rw [hr _ _ (by omega) (by omega)]; exact a3, by rw [hr _ _ (by omega) (by omega)]; exact a4, by rw [hr _ _ (by omega) (by omega)]; exact a5, by rw [hr _ _ (by omega) (by omega)]; exact a6, by rw [hr _ _ (by omega) (by omega)]; exact a7⟩, fun u hu => ?_, ?_⟩, ?_⟩
      · funext j
        show (am_new T 8 6).1 k j = _
        rw [am_new_i, if_neg (by omega), (a1 k hk).1]
      · funext j
        rw [hr _ _ (by omega) (by omega), (a1 k hk).2]
      · rw [am_pR_r]
        by_cases e : u = i
        · rw [if_pos ⟨rfl, e⟩, e]
        · rw [if_neg (fun z => e z.2), am_new_r, if_neg (by omega)]; exact h2 u (by omega)
      · show T.2.2.2 ++ [(8, 6)] = _
        rw [h3, List.append_assoc, List.append_assoc, List.append_assoc, ← List.replicate_succ']
      · have e8 : ((8 : Int32) ≤ nI i) = False := by rw [nm_8, nm_le (by decide) (by omega)]; exact eq_false (by omega)
        unfold fX5_init_26 fX5_init_40 fX4_init
        simp only [e8, if_false, a3, am_bs, hnT, show am_N 3 = 6 from rfl, hl, nm_cl (show i < 2147483648 by omega), am_ixc (show i < 8 by omega) (show 8 < 2147483648 by decide), nI_1])
    (fun st kk ⟨T, e, ⟨a1, a2, a3, a4, a5, a6, a7⟩, h2, h3⟩ => by
      subst e
      have bg : fX5_begin q 1 0 T = some (am_pI (am_pI (am_pI (am_pI (am_pI (am_pI T q 3 1) q 4 0) q 5 0) q 6 1) q 2 0) (q + 1) 4 0) := by
        unfold fX5_begin
        show (T.2.2.1 q 0).bind _ = _
        rw [a2, am_bs]
      refine ⟨am_pI (am_pI (am_pI (am_pI (am_pI (am_pI T q 3 1) q 4 0) q 5 0) q 6 1) q 2 0) (q + 1) 4 0, ?_, ⟨fun k hk => ⟨?_, (a1 k hk).2⟩, a2, a3, a4, a5, a6, a7⟩, h2, h3⟩
      · unfold fX5_init_26
        simp only [show ((8 : Int32) ≤ nI 8) = True from eq_true (by decide), if_true, bg, am_bs]
      · rw [am_pI_r _ _ _ _ (by omega), am_pI_r _ _ _ _ (by omega), am_pI_r _ _ _ _ (by omega), am_pI_r _ _ _ _ (by omega), am_pI_r _ _ _ _ (by omega), am_pI_r _ _ _ _ (by omega)]
        exact (a1 k hk).1)
    100000 0 (q, 0, in_P q M) (Nat.zero_le _) (by decide) ⟨in_P q M, rfl, hP.1, fun u hu => absurd hu (Nat.not_lt_zero u), by rw [hP.2]; simp⟩
  exact ⟨T, t1, t2, t3, t4⟩
