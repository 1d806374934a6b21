/-! the reference's object as it begins -/
def in_q1 (M : am_M) : am_M := in_st 54 (am_new (am_pI (am_pI (am_pI (am_pI M 53 0 4) 53 1 1) 53 3 4) 53 4 3) 0 48) 0 in_v1
def in_q2 (M : am_M) : am_M := in_st 55 (am_new (am_pI (am_pR (in_q1 M) 53 5 (some 54)) 53 6 6) 0 40) 0 in_v2
def in_q3 (M : am_M) : am_M := in_st 56 (am_new (am_pR (in_q2 M) 53 7 (some 55)) 0 40) 0 in_v3
def in_q4 (M : am_M) : am_M := am_new (am_pR (in_q3 M) 53 8 (some 56)) 0 200
def in_q5 (M : am_M) : am_M := am_new (am_pR (in_q4 M) 53 9 (some 57)) 0 3
def in_q6 (M : am_M) : am_M := am_new (am_pR (in_q5 M) 53 12 (some 58)) 0 4
def in_q7 (M : am_M) : am_M := am_new (am_pR (in_q6 M) 53 18 (some 59)) 0 4096
def in_q8 (M : am_M) : am_M := am_new (am_pR (in_q7 M) 53 21 (some 60)) 0 4096
def in_q9 (M : am_M) : am_M := am_new (am_pR (in_q8 M) 53 22 (some 61)) 0 91
def in_q10 (M : am_M) : am_M := am_new (am_pR (in_q9 M) 53 25 (some 62)) 0 13
def in_q11 (M : am_M) : am_M := am_new (am_pR (in_q10 M) 53 26 (some 63)) 0 13
def in_q12 (M : am_M) : am_M := am_new (am_pR (in_q11 M) 53 27 (some 64)) 0 4096
def in_q13 (M : am_M) : am_M := am_pR (in_q12 M) 53 28 (some 65)
theorem in_n1 {M : am_M} (hn : am_n M = 54) : am_n (in_q1 M) = 55 := by
  unfold in_q1
  rw [in_st_n, am_n_new]
  rw [am_n_pI, am_n_pI, am_n_pI, am_n_pI]
  rw [hn]
theorem in_n2 {M : am_M} (hn : am_n M = 54) : am_n (in_q2 M) = 56 := by
  unfold in_q2
  rw [in_st_n, am_n_new]
  rw [am_n_pI, am_n_pR]
  rw [in_n1 hn]
theorem in_n3 {M : am_M} (hn : am_n M = 54) : am_n (in_q3 M) = 57 := by
  unfold in_q3
  rw [in_st_n, am_n_new]
  rw [am_n_pR]
  rw [in_n2 hn]
theorem in_n4 {M : am_M} (hn : am_n M = 54) : am_n (in_q4 M) = 58 := by
  unfold in_q4
  rw [am_n_new]
  rw [am_n_pR]
  rw [in_n3 hn]
theorem in_n5 {M : am_M} (hn : am_n M = 54) : am_n (in_q5 M) = 59 := by
  unfold in_q5
  rw [am_n_new]
  rw [am_n_pR]
  rw [in_n4 hn]
theorem in_n6 {M : am_M} (hn : am_n M = 54) : am_n (in_q6 M) = 60 := by
  unfold in_q6
  rw [am_n_new]
  rw [am_n_pR]
  rw [in_n5 hn]
theorem in_n7 {M : am_M} (hn : am_n M = 54) : am_n (in_q7 M) = 61 := by
  unfold in_q7
  rw [am_n_new]
  rw [am_n_pR]
  rw [in_n6 hn]
theorem in_n8 {M : am_M} (hn : am_n M = 54) : am_n (in_q8 M) = 62 := by
  unfold in_q8
  rw [am_n_new]
  rw [am_n_pR]
  rw [in_n7 hn]
theorem in_n9 {M : am_M} (hn : am_n M = 54) : am_n (in_q9 M) = 63 := by
  unfold in_q9
  rw [am_n_new]
  rw [am_n_pR]
  rw [in_n8 hn]
theorem in_n10 {M : am_M} (hn : am_n M = 54) : am_n (in_q10 M) = 64 := by
  unfold in_q10
  rw [am_n_new]
  rw [am_n_pR]
  rw [in_n9 hn]
theorem in_n11 {M : am_M} (hn : am_n M = 54) : am_n (in_q11 M) = 65 := by
  unfold in_q11
  rw [am_n_new]
  rw [am_n_pR]
  rw [in_n10 hn]
theorem in_n12 {M : am_M} (hn : am_n M = 54) : am_n (in_q12 M) = 66 := by
  unfold in_q12
  rw [am_n_new]
  rw [am_n_pR]
  rw [in_n11 hn]
theorem in_ref {M : am_M} (hn : am_n M = 54) : fX10_init 53 M = some (in_q13 M) := by
  have e0 : fX10_init 53 M = fX10_init_29 53 (am_n M) 53 (am_new (am_pI (am_pI (am_pI (am_pI M 53 0 4) 53 1 1) 53 3 4) 53 4 3) 0 48) := rfl
  have l1 : am_len (am_new (am_pI (am_pI (am_pI (am_pI M 53 0 4) 53 1 1) 53 3 4) 53 4 3) 0 48) 54 = 48 := by
    have := am_len_new (am_pI (am_pI (am_pI (am_pI M 53 0 4) 53 1 1) 53 3 4) 53 4 3) 0 48
    rw [am_n_pI, am_n_pI, am_n_pI, am_n_pI, hn] at this
    exact this
  rw [e0, hn, in_s1 l1]
  show fX10_init_269 53 54 53 (in_q1 M) = _
  unfold fX10_init_269
  rw [am_n_pI, am_n_pR, in_n1 hn]
  have l2 : am_len (am_new (am_pI (am_pR (in_q1 M) 53 5 (some 54)) 53 6 6) 0 40) 55 = 40 := by
    have := am_len_new (am_pI (am_pR (in_q1 M) 53 5 (some 54)) 53 6 6) 0 40
    rw [am_n_pI, am_n_pR, in_n1 hn] at this
    exact this
  rw [in_s2 l2]
  show fX10_init_479 53 55 53 (in_q2 M) = _
  unfold fX10_init_479
  rw [am_n_pR, in_n2 hn]
  have l3 : am_len (am_new (am_pR (in_q2 M) 53 7 (some 55)) 0 40) 56 = 40 := by
    have := am_len_new (am_pR (in_q2 M) 53 7 (some 55)) 0 40
    rw [am_n_pR, in_n2 hn] at this
    exact this
  rw [in_s3 l3]
  show fX10_init_684 53 56 53 (in_q3 M) = _
  unfold fX10_init_684
  rw [am_n_pR, in_n3 hn]
  show fX10_init_693 53 57 53 (in_q4 M) = _
  unfold fX10_init_693
  rw [am_n_pR, in_n4 hn]
  show fX10_init_700 53 58 53 (in_q5 M) = _
  unfold fX10_init_700
  rw [am_n_pR, in_n5 hn]
  show fX10_init_707 53 59 53 (in_q6 M) = _
  unfold fX10_init_707
  rw [am_n_pR, in_n6 hn]
  show fX10_init_716 53 60 53 (in_q7 M) = _
  unfold fX10_init_716
  rw [am_n_pR, in_n7 hn]
  show fX10_init_725 53 61 53 (in_q8 M) = _
  unfold fX10_init_725
  rw [am_n_pR, in_n8 hn]
  show fX10_init_733 53 62 53 (in_q9 M) = _
  unfold fX10_init_733
  rw [am_n_pR, in_n9 hn]
  show fX10_init_741 53 63 53 (in_q10 M) = _
  unfold fX10_init_741
  rw [am_n_pR, in_n10 hn]
  show fX10_init_749 53 64 53 (in_q11 M) = _
  unfold fX10_init_749
  rw [am_n_pR, in_n11 hn]
  rfl
/-- what was there stays -/
theorem in_sg {X : am_M} {j v kd n a : Nat} (hn : 53 < am_n X) (ha : a < 53) : (am_new (am_pR X 53 j (some v)) kd n).1 a = X.1 a ∧ (am_new (am_pR X 53 j (some v)) kd n).2.1 a = X.2.1 a ∧ (am_new (am_pR X 53 j (some v)) kd n).2.2.1 a = X.2.2.1 a := by
  have h1 : ¬ a = am_n (am_pR X 53 j (some v)) := by rw [am_n_pR]; omega
  refine ⟨funext fun i => ?_, funext fun i => ?_, funext fun i => ?_⟩
  · rw [am_new_i, if_neg h1]; rfl
  · show (if a = am_n (am_pR X 53 j (some v)) then 0 else X.2.1 a i) = _
    rw [if_neg h1]
  · rw [am_new_r, if_neg h1, am_pR_r, if_neg (by omega)]
theorem in_sg1 {X : am_M} {j v kd n a : Nat} (hn : 53 < am_n X) (ha : a < am_n X) (i : Nat) : (am_new (am_pR X 53 j (some v)) kd n).1 a i = X.1 a i := by
  rw [am_new_i, if_neg (by rw [am_n_pR]; omega)]; rfl
theorem in_lo {M : am_M} (hn : am_n M = 54) {a : Nat} (ha : a < 53) : (in_q13 M).1 a = M.1 a ∧ (in_q13 M).2.1 a = M.2.1 a ∧ (in_q13 M).2.2.1 a = M.2.2.1 a := by
  have s12 := in_sg (X := in_q11 M) (j := 27) (v := 64) (kd := 0) (n := 4096) (a := a) (by rw [in_n11 hn]; decide) ha
  have s11 := in_sg (X := in_q10 M) (j := 26) (v := 63) (kd := 0) (n := 13) (a := a) (by rw [in_n10 hn]; decide) ha
  have s10 := in_sg (X := in_q9 M) (j := 25) (v := 62) (kd := 0) (n := 13) (a := a) (by rw [in_n9 hn]; decide) ha
  have s9 := in_sg (X := in_q8 M) (j := 22) (v := 61) (kd := 0) (n := 91) (a := a) (by rw [in_n8 hn]; decide) ha
  have s8 := in_sg (X := in_q7 M) (j := 21) (v := 60) (kd := 0) (n := 4096) (a := a) (by rw [in_n7 hn]; decide) ha
  have s7 := in_sg (X := in_q6 M) (j := 18) (v := 59) (kd := 0) (n := 4096) (a := a) (by rw [in_n6 hn]; decide) ha
  have s6 := in_sg (X := in_q5 M) (j := 12) (v := 58) (kd := 0) (n := 4) (a := a) (by rw [in_n5 hn]; decide) ha
  have s5 := in_sg (X := in_q4 M) (j := 9) (v := 57) (kd := 0) (n := 3) (a := a) (by rw [in_n4 hn]; decide) ha
  have s4 := in_sg (X := in_q3 M) (j := 8) (v := 56) (kd := 0) (n := 200) (a := a) (by rw [in_n3 hn]; decide) ha
  have s3 : (in_q3 M).1 a = M.1 a ∧ (in_q3 M).2.1 a = M.2.1 a ∧ (in_q3 M).2.2.1 a = M.2.2.1 a := by
    have n1 : ¬ a = am_n (am_pI (am_pI (am_pI (am_pI M 53 0 4) 53 1 1) 53 3 4) 53 4 3) := by rw [am_n_pI, am_n_pI, am_n_pI, am_n_pI]; omega
    have n2 : ¬ a = am_n (am_pI (am_pR (in_q1 M) 53 5 (some 54)) 53 6 6) := by rw [am_n_pI, am_n_pR, in_n1 hn]; omega
    have n3 : ¬ a = am_n (am_pR (in_q2 M) 53 7 (some 55)) := by rw [am_n_pR, in_n2 hn]; omega
    refine ⟨funext fun i => ?_, funext fun i => ?_, funext fun i => ?_⟩
    · unfold in_q3
      rw [in_st_i, if_neg (by omega), am_new_i, if_neg n3]
      show (in_q2 M).1 a i = _
      unfold in_q2
      rw [in_st_i, if_neg (by omega), am_new_i, if_neg n2, am_pI_1, if_neg (by omega)]
      show (in_q1 M).1 a i = _
      unfold in_q1
      rw [in_st_i, if_neg (by omega), am_new_i, if_neg n1, am_pI_1, if_neg (by omega), am_pI_1, if_neg (by omega), am_pI_1, if_neg (by omega), am_pI_1, if_neg (by omega)]
    · show (in_q3 M).2.1 a i = _
      unfold in_q3
      rw [in_st_2]
      show (if a = am_n (am_pR (in_q2 M) 53 7 (some 55)) then 0 else (in_q2 M).2.1 a i) = _
      rw [if_neg n3]
      unfold in_q2
      rw [in_st_2]
      show (if a = am_n (am_pI (am_pR (in_q1 M) 53 5 (some 54)) 53 6 6) then 0 else (in_q1 M).2.1 a i) = _
      rw [if_neg n2]
      unfold in_q1
      rw [in_st_2]
      show (if a = am_n (am_pI (am_pI (am_pI (am_pI M 53 0 4) 53 1 1) 53 3 4) 53 4 3) then 0 else M.2.1 a i) = _
      rw [if_neg n1]
    · show (in_q3 M).2.2.1 a i = _
      unfold in_q3
      rw [in_st_2, am_new_r, if_neg n3, am_pR_r, if_neg (by omega)]
      unfold in_q2
      rw [in_st_2, am_new_r, if_neg n2]
      show (am_pR (in_q1 M) 53 5 (some 54)).2.2.1 a i = _
      rw [am_pR_r, if_neg (by omega)]
      unfold in_q1
      rw [in_st_2, am_new_r, if_neg n1]
      rfl
  have s13 : (in_q13 M).2.2.1 a = (in_q12 M).2.2.1 a := funext fun i => by
    unfold in_q13
    rw [am_pR_r, if_neg (by omega)]
  refine ⟨s12.1.trans (s11.1.trans (s10.1.trans (s9.1.trans (s8.1.trans (s7.1.trans (s6.1.trans (s5.1.trans (s4.1.trans (s3.1))))))))), s12.2.1.trans (s11.2.1.trans (s10.2.1.trans (s9.2.1.trans (s8.2.1.trans (s7.2.1.trans (s6.2.1.trans (s5.2.1.trans (s4.2.1.trans (s3.2.1))))))))), s13.trans (s12.2.2.trans (s11.2.2.trans (s10.2.2.trans (s9.2.2.trans (s8.2.2.trans (s7.2.2.trans (s6.2.2.trans (s5.2.2.trans (s4.2.2.trans (s3.2.2))))))))))⟩
/-- the first rows of the reference -/
theorem in_up {M : am_M} (hn : am_n M = 54) {a : Nat} (ha : a < 57) (i : Nat) : (in_q13 M).1 a i = (in_q3 M).1 a i := by
  have s12 := in_sg1 (X := in_q11 M) (j := 27) (v := 64) (kd := 0) (n := 4096) (a := a) (by rw [in_n11 hn]; decide) (by rw [in_n11 hn]; omega) i
  have s11 := in_sg1 (X := in_q10 M) (j := 26) (v := 63) (kd := 0) (n := 13) (a := a) (by rw [in_n10 hn]; decide) (by rw [in_n10 hn]; omega) i
  have s10 := in_sg1 (X := in_q9 M) (j := 25) (v := 62) (kd := 0) (n := 13) (a := a) (by rw [in_n9 hn]; decide) (by rw [in_n9 hn]; omega) i
  have s9 := in_sg1 (X := in_q8 M) (j := 22) (v := 61) (kd := 0) (n := 91) (a := a) (by rw [in_n8 hn]; decide) (by rw [in_n8 hn]; omega) i
  have s8 := in_sg1 (X := in_q7 M) (j := 21) (v := 60) (kd := 0) (n := 4096) (a := a) (by rw [in_n7 hn]; decide) (by rw [in_n7 hn]; omega) i
  have s7 := in_sg1 (X := in_q6 M) (j := 18) (v := 59) (kd := 0) (n := 4096) (a := a) (by rw [in_n6 hn]; decide) (by rw [in_n6 hn]; omega) i
  have s6 := in_sg1 (X := in_q5 M) (j := 12) (v := 58) (kd := 0) (n := 4) (a := a) (by rw [in_n5 hn]; decide) (by rw [in_n5 hn]; omega) i
  have s5 := in_sg1 (X := in_q4 M) (j := 9) (v := 57) (kd := 0) (n := 3) (a := a) (by rw [in_n4 hn]; decide) (by rw [in_n4 hn]; omega) i
  have s4 := in_sg1 (X := in_q3 M) (j := 8) (v := 56) (kd := 0) (n := 200) (a := a) (by rw [in_n3 hn]; decide) (by rw [in_n3 hn]; omega) i
  exact s12.trans (s11.trans (s10.trans (s9.trans (s8.trans (s7.trans (s6.trans (s5.trans (s4))))))))
theorem in_r56 {M : am_M} (hn : am_n M = 54) {i : Nat} (hi : i < 40) : (in_q13 M).1 56 i = in_v3.getD i 0 := by
  rw [in_up hn (by decide)]
  unfold in_q3
  rw [in_st_i, if_pos ⟨rfl, Nat.zero_le _, by show i < 0 + 40; omega⟩]
  rfl
theorem in_r55 {M : am_M} (hn : am_n M = 54) {i : Nat} (hi : i < 40) : (in_q13 M).1 55 i = in_v2.getD i 0 := by
  rw [in_up hn (by decide)]
  unfold in_q3
  rw [in_st_i, if_neg (by omega), am_new_i, if_neg (by rw [am_n_pR, in_n2 hn]; decide)]
  show (in_q2 M).1 55 i = _
  unfold in_q2
  rw [in_st_i, if_pos ⟨rfl, Nat.zero_le _, by show i < 0 + 40; omega⟩]
  rfl
theorem in_to2 {M : am_M} (hn : am_n M = 54) {a : Nat} (ha : a < 55) (i : Nat) : (in_q13 M).1 a i = if a = 53 ∧ i = 6 then 6 else (in_q1 M).1 a i := by
  rw [in_up hn (by omega)]
  unfold in_q3
  rw [in_st_i, if_neg (by omega), am_new_i, if_neg (by rw [am_n_pR, in_n2 hn]; omega)]
  show (in_q2 M).1 a i = _
  unfold in_q2
  rw [in_st_i, if_neg (by omega), am_new_i, if_neg (by rw [am_n_pI, am_n_pR, in_n1 hn]; omega), am_pI_1]
  rfl
theorem in_r54 {M : am_M} (hn : am_n M = 54) {i : Nat} (hi : i < 48) : (in_q13 M).1 54 i = in_v1.getD i 0 := by
  rw [in_to2 hn (by decide), if_neg (by omega)]
  unfold in_q1
  rw [in_st_i, if_pos ⟨rfl, Nat.zero_le _, by show i < 0 + 48; omega⟩]
  rfl
theorem in_r53 {M : am_M} (hn : am_n M = 54) (i : Nat) : (in_q13 M).1 53 i = if i = 6 then 6 else if i = 4 then 3 else if i = 3 then 4 else if i = 1 then 1 else if i = 0 then 4 else M.1 53 i := by
  rw [in_to2 hn (by decide)]
  unfold in_q1
  rw [in_st_i, if_neg (show ¬ (53 = 54 ∧ 0 ≤ i ∧ i < 0 + in_v1.length) by omega), am_new_i, if_neg (show ¬ 53 = am_n (am_pI (am_pI (am_pI (am_pI M 53 0 4) 53 1 1) 53 3 4) 53 4 3) by show ¬ 53 = am_n M; omega), am_pI_1, am_pI_1, am_pI_1, am_pI_1]
  simp only [true_and]
theorem in_rr {M : am_M} (hn : am_n M = 54) : (in_q13 M).2.2.1 53 5 = some 54 ∧ (in_q13 M).2.2.1 53 7 = some 55 ∧ (in_q13 M).2.2.1 53 8 = some 56 ∧ (in_q13 M).2.2.1 53 9 = some 57 ∧ (in_q13 M).2.2.1 53 12 = some 58 ∧ (in_q13 M).2.2.1 53 18 = some 59 ∧ (in_q13 M).2.2.1 53 21 = some 60 ∧ (in_q13 M).2.2.1 53 22 = some 61 ∧ (in_q13 M).2.2.1 53 25 = some 62 ∧ (in_q13 M).2.2.1 53 26 = some 63 ∧ (in_q13 M).2.2.1 53 27 = some 64 ∧ (in_q13 M).2.2.1 53 28 = some 65 := by
  have g : ∀ (X : am_M) (j v kd n i : Nat), 53 < am_n X → (am_new (am_pR X 53 j (some v)) kd n).2.2.1 53 i = if i = j then some v else X.2.2.1 53 i := fun X j v kd n i h => by
    rw [am_new_r, if_neg (by rw [am_n_pR]; omega), am_pR_r]
    simp only [true_and]
  have g13 : ∀ i, (in_q13 M).2.2.1 53 i = if i = 28 then some 65 else (in_q12 M).2.2.1 53 i := fun i => by
    unfold in_q13
    rw [am_pR_r]
    simp only [true_and]
  have g4 : ∀ i, (in_q4 M).2.2.1 53 i = if i = 8 then some 56 else (in_q3 M).2.2.1 53 i := fun i => g (in_q3 M) 8 56 0 200 i (by rw [in_n3 hn]; decide)
  have g5 : ∀ i, (in_q5 M).2.2.1 53 i = if i = 9 then some 57 else (in_q4 M).2.2.1 53 i := fun i => g (in_q4 M) 9 57 0 3 i (by rw [in_n4 hn]; decide)
  have g6 : ∀ i, (in_q6 M).2.2.1 53 i = if i = 12 then some 58 else (in_q5 M).2.2.1 53 i := fun i => g (in_q5 M) 12 58 0 4 i (by rw [in_n5 hn]; decide)
  have g7 : ∀ i, (in_q7 M).2.2.1 53 i = if i = 18 then some 59 else (in_q6 M).2.2.1 53 i := fun i => g (in_q6 M) 18 59 0 4096 i (by rw [in_n6 hn]; decide)
  have g8 : ∀ i, (in_q8 M).2.2.1 53 i = if i = 21 then some 60 else (in_q7 M).2.2.1 53 i := fun i => g (in_q7 M) 21 60 0 4096 i (by rw [in_n7 hn]; decide)
  have g9 : ∀ i, (in_q9 M).2.2.1 53 i = if i = 22 then some 61 else (in_q8 M).2.2.1 53 i := fun i => g (in_q8 M) 22 61 0 91 i (by rw [in_n8 hn]; decide)
  have g10 : ∀ i, (in_q10 M).2.2.1 53 i = if i = 25 then some 62 else (in_q9 M).2.2.1 53 i := fun i => g (in_q9 M) 25 62 0 13 i (by rw [in_n9 hn]; decide)
  have g11 : ∀ i, (in_q11 M).2.2.1 53 i = if i = 26 then some 63 else (in_q10 M).2.2.1 53 i := fun i => g (in_q10 M) 26 63 0 13 i (by rw [in_n10 hn]; decide)
  have g12 : ∀ i, (in_q12 M).2.2.1 53 i = if i = 27 then some 64 else (in_q11 M).2.2.1 53 i := fun i => g (in_q11 M) 27 64 0 4096 i (by rw [in_n11 hn]; decide)
  have g3 : ∀ i, (in_q3 M).2.2.1 53 i = if i = 7 then some 55 else (in_q2 M).2.2.1 53 i := fun i => by
    unfold in_q3
    rw [in_st_2]
    exact g (in_q2 M) 7 55 0 40 i (by rw [in_n2 hn]; decide)
  have g2 : (in_q2 M).2.2.1 53 5 = some 54 := by
    unfold in_q2
    rw [in_st_2, am_new_r, if_neg (by rw [am_n_pI, am_n_pR, in_n1 hn]; decide)]
    show (am_pR (in_q1 M) 53 5 (some 54)).2.2.1 53 5 = _
    rw [am_pR_r, if_pos ⟨rfl, rfl⟩]
  exact ⟨by rw [g13, if_neg (by decide), g12, if_neg (by decide), g11, if_neg (by decide), g10, if_neg (by decide), g9, if_neg (by decide), g8, if_neg (by decide), g7, if_neg (by decide), g6, if_neg (by decide), g5, if_neg (by decide), g4, if_neg (by decide), g3, if_neg (by decide), g2], by rw [g13, if_neg (by decide), g12, if_neg (by decide), g11, if_neg (by decide), g10, if_neg (by decide), g9, if_neg (by decide), g8, if_neg (by decide), g7, if_neg (by decide), g6, if_neg (by decide), g5, if_neg (by decide), g4, if_neg (by decide), g3, if_pos rfl], by rw [g13, if_neg (by decide), g12, if_neg (by decide), g11, if_neg (by decide), g10, if_neg (by decide), g9, if_neg (by decide), g8, if_neg (by decide), g7, if_neg (by decide), g6, if_neg (by decide), g5, if_neg (by decide), g4, if_pos rfl], by rw [g13, if_neg (by decide), g12, if_neg (by decide), g11, if_neg (by decide), g10, if_neg (by decide), g9, if_neg (by decide), g8, if_neg (by decide), g7, if_neg (by decide), g6, if_neg (by decide), g5, if_pos rfl], by rw [g13, if_neg (by decide), g12, if_neg (by decide), g11, if_neg (by decide), g10, if_neg (by decide), g9, if_neg (by decide), g8, if_neg (by decide), g7, if_neg (by decide), g6, if_pos rfl], by rw [g13, if_neg (by decide), g12, if_neg (by decide), g11, if_neg (by decide), g10, if_neg (by decide), g9, if_neg (by decide), g8, if_neg (by decide), g7, if_pos rfl], by rw [g13, if_neg (by decide), g12, if_neg (by decide), g11, if_neg (by decide), g10, if_neg (by decide), g9, if_neg (by decide), g8, if_pos rfl], by rw [g13, if_neg (by decide), g12, if_neg (by decide), g11, if_neg (by decide), g10, if_neg (by decide), g9, if_pos rfl], by rw [g13, if_neg (by decide), g12, if_neg (by decide), g11, if_neg (by decide), g10, if_pos rfl], by rw [g13, if_neg (by decide), g12, if_neg (by decide), g11, if_pos rfl], by rw [g13, if_neg (by decide), g12, if_pos rfl], by rw [g13, if_pos rfl]⟩
theorem in_shp {M : am_M} (hn : am_n M = 54) : (in_q13 M).2.2.2 = M.2.2.2 ++ [(0, 48), (0, 40), (0, 40), (0, 200), (0, 3), (0, 4), (0, 4096), (0, 4096), (0, 91), (0, 13), (0, 13), (0, 4096)] := by
  have e1 : (in_q1 M).2.2.2 = M.2.2.2 ++ [(0, 48)] := by unfold in_q1; rw [in_st_2]; rfl
  have e2 : (in_q2 M).2.2.2 = (in_q1 M).2.2.2 ++ [(0, 40)] := by unfold in_q2; rw [in_st_2]; rfl
  have e3 : (in_q3 M).2.2.2 = (in_q2 M).2.2.2 ++ [(0, 40)] := by unfold in_q3; rw [in_st_2]; rfl
  show (in_q3 M).2.2.2 ++ [(0, 200)] ++ [(0, 3)] ++ [(0, 4)] ++ [(0, 4096)] ++ [(0, 4096)] ++ [(0, 91)] ++ [(0, 13)] ++ [(0, 13)] ++ [(0, 4096)] = _
  rw [e3, e2, e1]
  simp
