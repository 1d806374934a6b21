/-! ===== the first text ===== -/
def in_s : ps_S := (fun j => if j = 0 then 1 else if j = 3 then 1 else if j = 6 then 68 else 0, fun b i => if b = 8 then in_L.getD i 0 else 0)
theorem in_s_ok : ps_ok in_s := by
  refine ⟨by decide, by decide, by decide, by decide, by decide, by decide, by decide, by decide, by decide, fun i hi => absurd hi (Nat.not_lt_zero i), fun i hi => absurd hi (Nat.not_lt_zero i), fun i hi => ?_, fun i hi => absurd hi (Nat.not_lt_zero i)⟩
  have hi : i < 68 := hi
  exact in_chr_le ⟨i, hi⟩
theorem in_step {h : Nat → Nat} {n f k p p' q kd sg sd : Nat} {d : ps_S} {V : Nat → Nat} (e1 : h p = sg) (e2 : tx_k h p = kd) (e3 : tx_q h p = q) (e4 : 2 ^ d.1 0 = sd) (e5 : tx_m kd k (d.1 4) (d.1 5) = true) (e6 : it_n h kd sd (tx_many kd) (tx_many kd) 0 q (fun _ => 0) = (0, p', V)) (hp : ¬ n ≤ p) : tx_run h n (f + 1) k d p = tx_run h n f (k + 1) (tx_put d sg kd V) p' := by
  have e : tx_item h k d p = (0, p', tx_put d sg kd V) := by
    unfold tx_item
    rw [e1, e2, e3, e4, if_pos e5, e6, if_pos rfl]
  rw [tx_run, if_neg hp, e, if_pos rfl]
def in_d0 : ps_S := tx_0 in_s
def in_d1 : ps_S := tx_put in_d0 119 119 (tx_u (tx_u (fun _ => 0) 0 4) 1 1)
def in_d2 : ps_S := tx_put in_d1 43 98 (tx_u (tx_u (tx_u (tx_u (fun _ => 0) 0 2) 1 3) 2 9) 3 8)
def in_d3 : ps_S := tx_put in_d2 43 100 (tx_u (tx_u (tx_u (fun _ => 0) 0 10) 1 9) 2 4)
def in_d4 : ps_S := tx_put in_d3 45 98 (tx_u (tx_u (tx_u (tx_u (fun _ => 0) 0 5) 1 5) 2 6) 3 12)
def in_d5 : ps_S := tx_put in_d4 112 112 (tx_u (tx_u (fun _ => 0) 0 3) 1 3)
def in_d6 : ps_S := tx_put in_d5 112 112 (tx_u (tx_u (fun _ => 0) 0 10) 1 10)
def in_d7 : ps_S := tx_put in_d6 112 112 (tx_u (tx_u (fun _ => 0) 0 5) 1 6)
def in_d8 : ps_S := tx_put in_d7 112 112 (tx_u (tx_u (fun _ => 0) 0 0) 1 15)
def in_d9 : ps_S := tx_put in_d8 112 112 (tx_u (tx_u (fun _ => 0) 0 9) 1 4)
def in_d10 : ps_S := tx_put in_d9 112 112 (tx_u (tx_u (fun _ => 0) 0 3) 1 3)
theorem in_i0 : it_n (tx_h in_s) 119 2 2 2 0 1 (fun _ => 0) = (0, 5, (tx_u (tx_u (fun _ => 0) 0 4) 1 1)) := rfl
theorem in_i1 : it_n (tx_h in_s) 98 16 4 4 0 7 (fun _ => 0) = (0, 15, (tx_u (tx_u (tx_u (tx_u (fun _ => 0) 0 2) 1 3) 2 9) 3 8)) := rfl
theorem in_i2 : it_n (tx_h in_s) 100 16 3 3 0 17 (fun _ => 0) = (0, 24, (tx_u (tx_u (tx_u (fun _ => 0) 0 10) 1 9) 2 4)) := rfl
theorem in_i3 : it_n (tx_h in_s) 98 16 4 4 0 26 (fun _ => 0) = (0, 35, (tx_u (tx_u (tx_u (tx_u (fun _ => 0) 0 5) 1 5) 2 6) 3 12)) := rfl
theorem in_i4 : it_n (tx_h in_s) 112 16 2 2 0 36 (fun _ => 0) = (0, 40, (tx_u (tx_u (fun _ => 0) 0 3) 1 3)) := rfl
theorem in_i5 : it_n (tx_h in_s) 112 16 2 2 0 41 (fun _ => 0) = (0, 47, (tx_u (tx_u (fun _ => 0) 0 10) 1 10)) := rfl
theorem in_i6 : it_n (tx_h in_s) 112 16 2 2 0 48 (fun _ => 0) = (0, 52, (tx_u (tx_u (fun _ => 0) 0 5) 1 6)) := rfl
theorem in_i7 : it_n (tx_h in_s) 112 16 2 2 0 53 (fun _ => 0) = (0, 58, (tx_u (tx_u (fun _ => 0) 0 0) 1 15)) := rfl
theorem in_i8 : it_n (tx_h in_s) 112 16 2 2 0 59 (fun _ => 0) = (0, 63, (tx_u (tx_u (fun _ => 0) 0 9) 1 4)) := rfl
theorem in_i9 : it_n (tx_h in_s) 112 16 2 2 0 64 (fun _ => 0) = (0, 68, (tx_u (tx_u (fun _ => 0) 0 3) 1 3)) := rfl
theorem in_R : tx_R in_s = (0, 10, 68, in_d10) := by
  show tx_run (tx_h in_s) 68 (199 + 1) 0 in_d0 0 = _
  rw [in_step (sg := 119) (kd := 119) (q := 1) (sd := 2) rfl rfl rfl rfl rfl in_i0 (by decide)]
  show tx_run (tx_h in_s) 68 (198 + 1) 1 in_d1 5 = _
  rw [in_step (sg := 43) (kd := 98) (q := 7) (sd := 16) rfl rfl rfl rfl rfl in_i1 (by decide)]
  show tx_run (tx_h in_s) 68 (197 + 1) 2 in_d2 15 = _
  rw [in_step (sg := 43) (kd := 100) (q := 17) (sd := 16) rfl rfl rfl rfl rfl in_i2 (by decide)]
  show tx_run (tx_h in_s) 68 (196 + 1) 3 in_d3 24 = _
  rw [in_step (sg := 45) (kd := 98) (q := 26) (sd := 16) rfl rfl rfl rfl rfl in_i3 (by decide)]
  show tx_run (tx_h in_s) 68 (195 + 1) 4 in_d4 35 = _
  rw [in_step (sg := 112) (kd := 112) (q := 36) (sd := 16) rfl rfl rfl rfl rfl in_i4 (by decide)]
  show tx_run (tx_h in_s) 68 (194 + 1) 5 in_d5 40 = _
  rw [in_step (sg := 112) (kd := 112) (q := 41) (sd := 16) rfl rfl rfl rfl rfl in_i5 (by decide)]
  show tx_run (tx_h in_s) 68 (193 + 1) 6 in_d6 47 = _
  rw [in_step (sg := 112) (kd := 112) (q := 48) (sd := 16) rfl rfl rfl rfl rfl in_i6 (by decide)]
  show tx_run (tx_h in_s) 68 (192 + 1) 7 in_d7 52 = _
  rw [in_step (sg := 112) (kd := 112) (q := 53) (sd := 16) rfl rfl rfl rfl rfl in_i7 (by decide)]
  show tx_run (tx_h in_s) 68 (191 + 1) 8 in_d8 58 = _
  rw [in_step (sg := 112) (kd := 112) (q := 59) (sd := 16) rfl rfl rfl rfl rfl in_i8 (by decide)]
  show tx_run (tx_h in_s) 68 (190 + 1) 9 in_d9 63 = _
  rw [in_step (sg := 112) (kd := 112) (q := 64) (sd := 16) rfl rfl rfl rfl rfl in_i9 (by decide)]
  show tx_run (tx_h in_s) 68 (189 + 1) 10 in_d10 68 = _
  rw [tx_run, if_pos (by decide)]
/-! ===== the class's constructor ===== -/
def in_SH : List (Nat × Nat) := [(13, 4), (11, 6), (2, 200), (0, 4), (0, 3), (5, 7), (7, 1), (1, 64), (7, 1), (1, 64), (7, 1), (1, 64), (6, 2), (0, 98), (12, 1), (4, 7), (0, 13), (0, 13), (0, 13), (0, 13), (0, 13), (0, 13), (0, 13), (9, 7), (10, 5), (0, 40), (0, 40), (0, 40), (0, 40), (3, 8), (8, 6), (8, 6), (8, 6), (8, 6), (8, 6), (8, 6), (8, 6), (8, 6), (9, 7), (10, 5), (0, 40), (0, 40), (0, 40), (0, 40), (3, 8), (8, 6), (8, 6), (8, 6), (8, 6), (8, 6), (8, 6), (8, 6), (8, 6)]
def in_Rf : List (Nat × Nat × Nat) := [(0,0,1), (0,1,5), (1,0,2), (1,1,3), (1,2,4), (5,0,6), (5,1,8), (5,2,10), (5,3,12), (5,4,14), (6,0,7), (8,0,9), (10,0,11), (12,0,13), (14,0,15), (15,0,16), (15,1,17), (15,2,18), (15,3,19), (15,4,20), (15,5,21), (15,6,22), (23,0,24), (23,1,29), (24,0,25), (24,1,26), (24,2,27), (24,3,28), (38,0,39), (38,1,44), (39,0,40), (39,1,41), (39,2,42), (39,3,43), (53,5,54), (53,7,55), (53,8,56), (53,9,57), (53,12,58), (53,18,59), (53,21,60), (53,22,61), (53,25,62), (53,26,63), (53,27,64), (53,28,65)]
theorem in_Rf_in {k j q : Nat} (h : am_rf k j = some q) : (k, j, q) ∈ in_Rf := by
  unfold am_rf at h
  split at h <;> first | (cases h; decide) | (cases h)
theorem in_Rf_lo : ∀ x ∈ in_Rf, x.1 < 23 → in_24.2.2.1 x.1 x.2.1 = some x.2.2 ∧ ¬ (x.1 = 0 ∧ (x.2.1 = 2 ∨ x.2.1 = 3)) := by decide +kernel
theorem in_Rf_hi : ∀ x ∈ in_Rf, x.1 < 53 → ¬ x.1 < 23 → x = (23, 0, 24) ∨ x = (23, 1, 29) ∨ x = (24, 0, 25) ∨ x = (24, 1, 26) ∨ x = (24, 2, 27) ∨ x = (24, 3, 28) ∨ x = (38, 0, 39) ∨ x = (38, 1, 44) ∨ x = (39, 0, 40) ∨ x = (39, 1, 41) ∨ x = (39, 2, 42) ∨ x = (39, 3, 43) := by decide +kernel
