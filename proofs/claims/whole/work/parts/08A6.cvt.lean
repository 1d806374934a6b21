/-! the tiles one behind the other: how far the last one reached, which ones begin -/
def cw_bl (s : ps_S) (f : Nat → Bool) : Nat → Nat
  | 0 => 0
  | j + 1 => if cw_bl s f j ≤ j * ps_sz s (s.1 3) ∧ f (j * ps_sz s (s.1 3)) = true then j * ps_sz s (s.1 3) + ps_sz s (cw_W s f (j * ps_sz s (s.1 3))) else cw_bl s f j
def cw_g (s : ps_S) (f : Nat → Bool) (j : Nat) : Bool := decide (cw_bl s f j ≤ j * ps_sz s (s.1 3)) && f (j * ps_sz s (s.1 3))
theorem cw_g_t {s : ps_S} {f : Nat → Bool} {j : Nat} : cw_g s f j = true ↔ (cw_bl s f j ≤ j * ps_sz s (s.1 3) ∧ f (j * ps_sz s (s.1 3)) = true) := by
  unfold cw_g
  rw [Bool.and_eq_true, decide_eq_true_iff]
theorem cw_bl_t {s : ps_S} {f : Nat → Bool} {j : Nat} (h : cw_g s f j = true) : cw_bl s f (j + 1) = j * ps_sz s (s.1 3) + ps_sz s (cw_W s f (j * ps_sz s (s.1 3))) := by rw [cw_bl, if_pos (cw_g_t.mp h)]
theorem cw_bl_f {s : ps_S} {f : Nat → Bool} {j : Nat} (h : cw_g s f j = false) : cw_bl s f (j + 1) = cw_bl s f j := by
  rw [cw_bl, if_neg (fun q => by rw [cw_g_t.mpr q] at h; exact absurd h (by decide))]
/-- the cover is the same over a tile of the deepest level -/
theorem cw_hi {s : ps_S} (ho : ps_ok s) (b : Nat) {j : Nat} (hj : j < 4 ^ s.1 3) (h : ps_cov s b (j * ps_sz s (s.1 3)) = true) : cw_P s (ps_cov s b) (j * ps_sz s (s.1 3)) (s.1 3) := by
  have hz : 0 < ps_sz s (s.1 3) := Nat.pow_pos (by decide)
  refine ⟨Nat.mul_mod_left _ _, ps_ct_all (fun i hi => ?_)⟩
  have h1 := (ps_cov_in ho hj (k := j * ps_sz s (s.1 3)) (Nat.le_refl _) (by omega) b).2
  have h2 := (ps_cov_in ho hj (k := j * ps_sz s (s.1 3) + i) (by omega) (by omega) b).2
  rw [h2, ← h1]
  exact h
theorem cw_sz {s : ps_S} (ho : ps_ok s) : 4 ^ s.1 3 * ps_sz s (s.1 3) = 4 ^ s.1 0 ∧ 0 < ps_sz s (s.1 3) := by
  obtain ⟨o1, o2, o3, o4, o5, -⟩ := id ho
  refine ⟨?_, Nat.pow_pos (by decide)⟩
  unfold ps_sz
  rw [← Nat.pow_add, show s.1 3 + (s.1 0 - s.1 3) = s.1 0 by omega]
/-- what is known of the tile that begins at j -/
theorem cw_at {s : ps_S} (ho : ps_ok s) (b : Nat) {j : Nat} (hj : j < 4 ^ s.1 3) (h : ps_cov s b (j * ps_sz s (s.1 3)) = true) : cw_W s (ps_cov s b) (j * ps_sz s (s.1 3)) ≤ s.1 3 ∧ ∃ d, 0 < d ∧ ps_sz s (cw_W s (ps_cov s b) (j * ps_sz s (s.1 3))) = d * ps_sz s (s.1 3) ∧ j + d ≤ 4 ^ s.1 3 := by
  obtain ⟨o1, o2, o3, o4, o5, -⟩ := id ho
  obtain ⟨hm, hz⟩ := cw_sz ho
  have w := cw_w_ok (s := s) (f := ps_cov s b) (k := j * ps_sz s (s.1 3)) (s.1 3 - s.1 2) (s.1 2) (by rw [show s.1 2 + (s.1 3 - s.1 2) = s.1 3 by omega]; exact cw_hi ho b hj h)
  rw [show s.1 2 + (s.1 3 - s.1 2) = s.1 3 by omega] at w
  obtain ⟨w1, w2, w3⟩ := w
  refine ⟨w2, 4 ^ (s.1 3 - cw_W s (ps_cov s b) (j * ps_sz s (s.1 3))), Nat.pow_pos (by decide), ?_, ?_⟩
  · have w2' : cw_W s (ps_cov s b) (j * ps_sz s (s.1 3)) ≤ s.1 3 := w2
    generalize cw_W s (ps_cov s b) (j * ps_sz s (s.1 3)) = W at *
    unfold ps_sz
    rw [← Nat.pow_add]
    congr 1
    omega
  · have w3' : cw_P s (ps_cov s b) (j * ps_sz s (s.1 3)) (cw_W s (ps_cov s b) (j * ps_sz s (s.1 3))) := w3
    have w2' : cw_W s (ps_cov s b) (j * ps_sz s (s.1 3)) ≤ s.1 3 := w2
    generalize cw_W s (ps_cov s b) (j * ps_sz s (s.1 3)) = W at *
    have e : ps_sz s W = 4 ^ (s.1 3 - W) * ps_sz s (s.1 3) := by
      unfold ps_sz
      rw [← Nat.pow_add]
      congr 1
      omega
    have m := w3'.1
    rw [e, Nat.mul_mod_mul_right] at m
    have m2 : j % 4 ^ (s.1 3 - W) = 0 := by
      rcases Nat.mul_eq_zero.mp m with q | q
      · exact q
      · omega
    have hd : 0 < 4 ^ (s.1 3 - W) := Nat.pow_pos (by decide)
    have e1 : 4 ^ (s.1 3 - W) * 4 ^ W = 4 ^ s.1 3 := by rw [← Nat.pow_add, show s.1 3 - W + W = s.1 3 by omega]
    have hdm := Nat.div_add_mod' j (4 ^ (s.1 3 - W))
    rw [m2, Nat.add_zero] at hdm
    have e2 : j / 4 ^ (s.1 3 - W) < 4 ^ W := Nat.div_lt_of_lt_mul (by rw [e1]; exact hj)
    have e3 : (j / 4 ^ (s.1 3 - W) + 1) * 4 ^ (s.1 3 - W) ≤ 4 ^ W * 4 ^ (s.1 3 - W) := Nat.mul_le_mul_right _ e2
    rw [Nat.succ_mul, hdm, Nat.mul_comm, e1] at e3
    exact e3
/-- behind a tile's begin nothing begins until its end -/
theorem cw_jump {s : ps_S} {f : Nat → Bool} {j d : Nat} (hz : 0 < ps_sz s (s.1 3)) (h : cw_g s f j = true) (hd : ps_sz s (cw_W s f (j * ps_sz s (s.1 3))) = d * ps_sz s (s.1 3)) : ∀ t, t < d → cw_bl s f (j + 1 + t) = (j + d) * ps_sz s (s.1 3) ∧ ps_ct (cw_g s f) 0 (j + 1 + t) = ps_ct (cw_g s f) 0 j + 1 ∧ (0 < t → cw_g s f (j + t) = false)
  | 0, _ => by
    refine ⟨?_, ct_t h, fun q => absurd q (Nat.lt_irrefl 0)⟩
    rw [Nat.add_zero, cw_bl_t h, hd, Nat.add_mul]
  | t + 1, ht => by
    obtain ⟨h1, h2, -⟩ := cw_jump hz h hd t (by omega)
    have hlt : (j + 1 + t) * ps_sz s (s.1 3) < (j + d) * ps_sz s (s.1 3) := Nat.mul_lt_mul_of_pos_right (by omega) hz
    have g : cw_g s f (j + 1 + t) = false := by
      unfold cw_g
      rw [decide_eq_false (by omega), Bool.false_and]
    refine ⟨?_, ?_, fun _ => ?_⟩
    · show cw_bl s f (j + 1 + t + 1) = _
      rw [cw_bl_f g]; exact h1
    · show ps_ct (cw_g s f) 0 (j + 1 + t + 1) = _
      rw [ct_f g]; exact h2
    · rw [show j + (t + 1) = j + 1 + t by omega]; exact g
def cw_V (s : ps_S) (f : Nat → Bool) (w j : Nat) : Nat := if w = 0 then cw_W s f (j * ps_sz s (s.1 3)) else j * ps_sz s (s.1 3) / ps_sz s (cw_W s f (j * ps_sz s (s.1 3)))
theorem px_tl_step {s : ps_S} {pl : Nat} {M : am_M} (ho : ps_ok s) (hX : ps_X s pl M) {a q b : Nat} (hk : ps_kq M a q) (h : ps_ks M q (ps_cov s b)) (i : Int32) {w : Nat} (hw : w ≤ 1) {j : Nat} (hj : j < 4 ^ s.1 3) (kk : (Nat × Nat × Int32 × Int32 × Int32 × Int32 × Int32 × Int32 × am_M) → Option (Int32 × am_M)) :
    (cw_g s (ps_cov s b) j = true → nI (ps_ct (cw_g s (ps_cov s b)) 0 j) = i → fX0_tileOf_19 kk (pl, a, i, nI w, nI (ps_sz s (s.1 3)), nI (ps_ct (cw_g s (ps_cov s b)) 0 j), nI (cw_bl s (ps_cov s b) j), nI (j * ps_sz s (s.1 3)), M) = some (nI (cw_V s (ps_cov s b) w j), M)) ∧
    (¬ (cw_g s (ps_cov s b) j = true ∧ nI (ps_ct (cw_g s (ps_cov s b)) 0 j) = i) → cw_bl s (ps_cov s b) j ≤ 4096 → fX0_tileOf_19 kk (pl, a, i, nI w, nI (ps_sz s (s.1 3)), nI (ps_ct (cw_g s (ps_cov s b)) 0 j), nI (cw_bl s (ps_cov s b) j), nI (j * ps_sz s (s.1 3)), M) = kk (pl, a, i, nI w, nI (ps_sz s (s.1 3)), nI (ps_ct (cw_g s (ps_cov s b)) 0 (j + 1)), nI (cw_bl s (ps_cov s b) (j + 1)), nI ((j + 1) * ps_sz s (s.1 3)), M) ∧ cw_bl s (ps_cov s b) (j + 1) ≤ 4096) := by
  obtain ⟨o1, o2, o3, o4, o5, -⟩ := id ho
  obtain ⟨-, -, -, p4, -⟩ := hX.pl
  have hp4 := nz_p4 o2
  obtain ⟨hm, hz⟩ := cw_sz ho
  have hlt : j * ps_sz s (s.1 3) < 4 ^ s.1 0 := by rw [← hm]; exact Nat.mul_lt_mul_of_pos_right hj hz
  have hW := px_widest ho hX hk h hlt (fun c => cw_hi ho b hj c)
  have hat := fun c => cw_at ho b hj c
  have es : (j + 1) * ps_sz s (s.1 3) = j * ps_sz s (s.1 3) + ps_sz s (s.1 3) := Nat.succ_mul _ _
  have ew : (nI w = (0 : Int32)) = (w = 0) := nm_eq (by omega) (by decide)
  unfold fX0_tileOf_19 fX0_tileOf_48 fX0_tileOf_99
  refine ⟨fun hg hi => ?_, fun hng hbl => ?_⟩
  · obtain ⟨g1, g2⟩ := cw_g_t.mp hg
    obtain ⟨a1, d, a2, a3, a4⟩ := hat g2
    have hsz : fX5_tileAround pl (nI (j * ps_sz s (s.1 3))) (nI (cw_W s (ps_cov s b) (j * ps_sz s (s.1 3)))) M = some (nI (j * ps_sz s (s.1 3) / ps_sz s (cw_W s (ps_cov s b) (j * ps_sz s (s.1 3)))), M) := px_around o2 (by omega) (by omega) p4
    simp only [px_size0 o2 p4, am_bs, nm_le (show 4 ^ s.1 0 < 2147483648 by omega) (show j * ps_sz s (s.1 3) < 2147483648 by omega), show (4 ^ s.1 0 ≤ j * ps_sz s (s.1 3)) = False from eq_false (by omega), if_false, nm_le (show cw_bl s (ps_cov s b) j < 2147483648 by omega) (show j * ps_sz s (s.1 3) < 2147483648 by omega), show (cw_bl s (ps_cov s b) j ≤ j * ps_sz s (s.1 3)) = True from eq_true (by omega), if_true, hW, g2, nz_n4 (show cw_W s (ps_cov s b) (j * ps_sz s (s.1 3)) < 2147483648 by omega), hi, ew, hsz]
    unfold cw_V
    by_cases c : w = 0
    · rw [if_pos c, if_pos c]
    · rw [if_neg c, if_neg c]
  · cases hg : cw_g s (ps_cov s b) j with
    | true =>
      obtain ⟨g1, g2⟩ := cw_g_t.mp hg
      obtain ⟨a1, d, a2, a3, a4⟩ := hat g2
      have hni : (nI (ps_ct (cw_g s (ps_cov s b)) 0 j) = i) = False := eq_false (fun q => hng ⟨hg, q⟩)
      have hsz : fX5_tileSize pl (nI (cw_W s (ps_cov s b) (j * ps_sz s (s.1 3)))) M = some (nI (ps_sz s (cw_W s (ps_cov s b) (j * ps_sz s (s.1 3)))), M) := px_size o2 (by omega) p4
      have e1 := cw_bl_t hg
      have e2 : (j + d) * ps_sz s (s.1 3) ≤ 4 ^ s.1 3 * ps_sz s (s.1 3) := Nat.mul_le_mul_right _ a4
      rw [hm, Nat.add_mul, ← a3, ← e1] at e2
      refine ⟨?_, by omega⟩
      simp only [px_size0 o2 p4, am_bs, nm_le (show 4 ^ s.1 0 < 2147483648 by omega) (show j * ps_sz s (s.1 3) < 2147483648 by omega), show (4 ^ s.1 0 ≤ j * ps_sz s (s.1 3)) = False from eq_false (by omega), if_false, nm_le (show cw_bl s (ps_cov s b) j < 2147483648 by omega) (show j * ps_sz s (s.1 3) < 2147483648 by omega), show (cw_bl s (ps_cov s b) j ≤ j * ps_sz s (s.1 3)) = True from eq_true (by omega), if_true, hW, g2, nz_n4 (show cw_W s (ps_cov s b) (j * ps_sz s (s.1 3)) < 2147483648 by omega), hni, hsz, nI_add, nI_1, ct_t hg, e1, es]
    | false =>
      have e1 := cw_bl_f hg
      refine ⟨?_, by omega⟩
      rw [e1, ct_f hg]
      by_cases c : cw_bl s (ps_cov s b) j ≤ j * ps_sz s (s.1 3)
      · have g2 : ¬ ps_cov s b (j * ps_sz s (s.1 3)) = true := fun q => by rw [cw_g_t.mpr ⟨c, q⟩] at hg; exact absurd hg (by decide)
        rw [if_neg g2] at hW
        simp only [px_size0 o2 p4, am_bs, nm_le (show 4 ^ s.1 0 < 2147483648 by omega) (show j * ps_sz s (s.1 3) < 2147483648 by omega), show (4 ^ s.1 0 ≤ j * ps_sz s (s.1 3)) = False from eq_false (by omega), if_false, nm_le (show cw_bl s (ps_cov s b) j < 2147483648 by omega) (show j * ps_sz s (s.1 3) < 2147483648 by omega), show (cw_bl s (ps_cov s b) j ≤ j * ps_sz s (s.1 3)) = True from eq_true (by omega), if_true, hW, g2, nI_add, es]
      · simp only [px_size0 o2 p4, am_bs, nm_le (show 4 ^ s.1 0 < 2147483648 by omega) (show j * ps_sz s (s.1 3) < 2147483648 by omega), show (4 ^ s.1 0 ≤ j * ps_sz s (s.1 3)) = False from eq_false (by omega), if_false, nm_le (show cw_bl s (ps_cov s b) j < 2147483648 by omega) (show j * ps_sz s (s.1 3) < 2147483648 by omega), show (cw_bl s (ps_cov s b) j ≤ j * ps_sz s (s.1 3)) = False from eq_false (by omega), if_true, nI_add, es]
theorem px_tileOf {s : ps_S} {pl : Nat} {M : am_M} (ho : ps_ok s) (hX : ps_X s pl M) {a q b : Nat} (hk : ps_kq M a q) (h : ps_ks M q (ps_cov s b)) (i : Int32) {w : Nat} (hw : w ≤ 1) :
    (∀ j, j < 4 ^ s.1 3 → cw_g s (ps_cov s b) j = true → nI (ps_ct (cw_g s (ps_cov s b)) 0 j) = i → fX0_tileOf 5 pl a i (nI w) M = some (nI (cw_V s (ps_cov s b) w j), M)) ∧
    ((∀ j, j < 4 ^ s.1 3 → cw_g s (ps_cov s b) j = true → ¬ nI (ps_ct (cw_g s (ps_cov s b)) 0 j) = i) → fX0_tileOf 5 pl a i (nI w) M = some (if i = -1 then nI (ps_ct (cw_g s (ps_cov s b)) 0 (4 ^ s.1 3)) else -4, M)) := by
  obtain ⟨o1, o2, o3, o4, o5, -⟩ := id ho
  obtain ⟨-, -, -, p4, -, -, p7, -⟩ := hX.pl
  have hp4 := nz_p4 o2
  have hp3 := nz_p4 (show s.1 3 ≤ 6 by omega)
  obtain ⟨hm, hz⟩ := cw_sz ho
  have hsz : fX5_tileSize pl (nI (s.1 3)) M = some (nI (ps_sz s (s.1 3)), M) := px_size o2 (by omega) p4
  have e0 : fX0_tileOf 5 pl a i (nI w) M = am_loop fX0_tileOf_19 100000 (pl, a, i, nI w, nI (ps_sz s (s.1 3)), nI 0, nI 0, nI (0 * ps_sz s (s.1 3)), M) := by
    unfold fX0_tileOf
    simp only [p7, hsz, am_bs, Nat.zero_mul]
    rfl
  rw [e0]
  refine ⟨fun J hJ hg hi => ?_, fun hn => ?_⟩
  · exact am_loop_inv (f := fX0_tileOf_19) (fun j st => st = (pl, a, i, nI w, nI (ps_sz s (s.1 3)), nI (ps_ct (cw_g s (ps_cov s b)) 0 j), nI (cw_bl s (ps_cov s b) j), nI (j * ps_sz s (s.1 3)), M) ∧ cw_bl s (ps_cov s b) j ≤ 4096) (fun r => r = some (nI (cw_V s (ps_cov s b) w J), M)) J
      (fun j st kk hlt ⟨e, hb⟩ => by
        subst e
        have st := (px_tl_step ho hX hk h i hw (show j < 4 ^ s.1 3 by omega) kk).2 (fun q => by
          have e3 : ps_ct (cw_g s (ps_cov s b)) 0 (j + 1) = ps_ct (cw_g s (ps_cov s b)) 0 j + 1 := ct_t q.1
          have e4 := ct_mono (cw_g s (ps_cov s b)) (show j + 1 ≤ J by omega)
          have b1 := ps_ct_le (cw_g s (ps_cov s b)) 0 J
          have e5 := (nI_eq (by omega) (by omega)).mp (hi.trans q.2.symm)
          omega) hb
        exact Or.inl ⟨_, ⟨rfl, st.2⟩, st.1⟩)
      (fun st kk ⟨e, hb⟩ => by
        subst e
        exact (px_tl_step ho hX hk h i hw hJ kk).1 hg hi)
      100000 0 _ (Nat.zero_le _) (by omega) ⟨rfl, Nat.zero_le _⟩
  · exact am_loop_inv (f := fX0_tileOf_19) (fun j st => st = (pl, a, i, nI w, nI (ps_sz s (s.1 3)), nI (ps_ct (cw_g s (ps_cov s b)) 0 j), nI (cw_bl s (ps_cov s b) j), nI (j * ps_sz s (s.1 3)), M) ∧ cw_bl s (ps_cov s b) j ≤ 4096) (fun r => r = some (if i = -1 then nI (ps_ct (cw_g s (ps_cov s b)) 0 (4 ^ s.1 3)) else -4, M)) (4 ^ s.1 3)
      (fun j st kk hlt ⟨e, hb⟩ => by
        subst e
        have st := (px_tl_step ho hX hk h i hw hlt kk).2 (fun q => hn j hlt q.1 q.2) hb
        exact Or.inl ⟨_, ⟨rfl, st.2⟩, st.1⟩)
      (fun st kk ⟨e, hb⟩ => by
        subst e
        unfold fX0_tileOf_19
        simp only [px_size0 o2 p4, am_bs, hm, Int32.le_refl, if_true]
        by_cases c : i = -1
        · rw [if_pos c, if_pos c]
        · rw [if_neg c, if_neg c])
      100000 0 _ (Nat.zero_le _) (by omega) ⟨rfl, Nat.zero_le _⟩
def cw_I (s : ps_S) (M : am_M) (f : Nat → Bool) (a : Int32) (j : Nat) (T : am_M) : Prop := ps_R s M T ∧ ps_row T 61 (4 ^ s.1 0) f ∧ ∀ q, q < j → cw_g s f q = true → nI (ps_ct (cw_g s f) 0 q) = a → T.1 53 23 = nI (cw_V s f 0 q) ∧ T.1 53 24 = nI (cw_V s f 1 q)
theorem pm_tiles {s : ps_S} {M T : am_M} {b : Nat} (ho : ps_ok s) (hR : ps_R s M T) (hrow : ps_row T 61 (4 ^ s.1 0) (ps_cov s b)) (a : Int32) : ∃ T', fX10_tiles 53 a T = some (nI (ps_ct (cw_g s (ps_cov s b)) 0 (4 ^ s.1 3)), T') ∧ cw_I s M (ps_cov s b) a (4 ^ s.1 3) T' := by
  obtain ⟨o1, o2, o3, o4, o5, -⟩ := id ho
  have hp4 := nz_p4 o2
  have hp3 := nz_p4 (show s.1 3 ≤ 6 by omega)
  obtain ⟨hm, hz⟩ := cw_sz ho
  have fin : ∀ (T : am_M) (kk : (Nat × Int32 × Int32 × Int32 × am_M) → Option (Int32 × am_M)), cw_I s M (ps_cov s b) a (4 ^ s.1 3) T → ∃ T', fX10_tiles_4 kk (53, a, nI (ps_ct (cw_g s (ps_cov s b)) 0 (4 ^ s.1 3)), nI (4 ^ s.1 3 * ps_sz s (s.1 3)), T) = some (nI (ps_ct (cw_g s (ps_cov s b)) 0 (4 ^ s.1 3)), T') ∧ cw_I s M (ps_cov s b) a (4 ^ s.1 3) T' := fun T kk hI => by
    refine ⟨T, ?_, hI⟩
    unfold fX10_tiles_4
    simp only [pm_cells o2 hI.1.1.2.2.1, am_bs, hm, Int32.le_refl, if_true]
  have L := am_loop_inv (f := fX10_tiles_4) (fun i st => ∃ j T, i ≤ j ∧ j ≤ 4 ^ s.1 3 ∧ st = (53, a, nI (ps_ct (cw_g s (ps_cov s b)) 0 j), nI (j * ps_sz s (s.1 3)), T) ∧ cw_bl s (ps_cov s b) j ≤ j * ps_sz s (s.1 3) ∧ cw_I s M (ps_cov s b) a j T) (fun r => ∃ T', r = some (nI (ps_ct (cw_g s (ps_cov s b)) 0 (4 ^ s.1 3)), T') ∧ cw_I s M (ps_cov s b) a (4 ^ s.1 3) T') (4 ^ s.1 3)
    (fun i st kk hi ⟨j, T, j1, j2, e, hb, hI⟩ => by
      subst e
      by_cases cj : j = 4 ^ s.1 3
      · subst cj
        exact Or.inr (fin T kk hI)
      · have hj : j < 4 ^ s.1 3 := by omega
        left
        obtain ⟨h1, h2, h3⟩ := id hI
        obtain ⟨-, -, -, r22, -, -, -, -, -, -, -, l61, -⟩ := h1.1.r
        have d0 := h1.1.2.2.1
        have d3 := h1.1.2.2.2.2.2.1
        have hlt : j * ps_sz s (s.1 3) < 4 ^ s.1 0 := by rw [← hm]; exact Nat.mul_lt_mul_of_pos_right hj hz
        have es : (j + 1) * ps_sz s (s.1 3) = j * ps_sz s (s.1 3) + ps_sz s (s.1 3) := Nat.succ_mul _ _
        have hr := h2 _ hlt
        cases hf : ps_cov s b (j * ps_sz s (s.1 3)) with
        | false =>
          have hg : cw_g s (ps_cov s b) j = false := by unfold cw_g; rw [hf, Bool.and_false]
          have hsz : fX10_sizeOf 53 (nI (s.1 3)) T = some (nI (ps_sz s (s.1 3)), T) := pm_size o2 o5 d0
          rw [hf] at hr
          refine ⟨_, ⟨j + 1, T, by omega, by omega, rfl, by rw [cw_bl_f hg]; omega, h1, h2, fun q a1 a2 a3 => ?_⟩, ?_⟩
          · by_cases e : q = j
            · rw [e, hg] at a2; exact absurd a2 (by decide)
            · exact h3 q (by omega) a2 a3
          · unfold fX10_tiles_4
            simp only [pm_cells o2 d0, am_bs, nm_le (show 4 ^ s.1 0 < 2147483648 by omega) (show j * ps_sz s (s.1 3) < 2147483648 by omega), show (4 ^ s.1 0 ≤ j * ps_sz s (s.1 3)) = False from eq_false (by omega), if_false, r22, l61, nm_cl (show j * ps_sz s (s.1 3) < 2147483648 by omega), am_ixc (show j * ps_sz s (s.1 3) < 4096 by omega) (show 4096 < 2147483648 by decide), hr, Bool.false_eq_true, show (nI 0 = (0 : Int32)) = True from eq_true rfl, if_true, d3, hsz, nI_add, ct_f hg, es]
        | true =>
          have hg : cw_g s (ps_cov s b) j = true := cw_g_t.mpr ⟨hb, hf⟩
          obtain ⟨a1, d, a2, a3, a4⟩ := cw_at ho b hj hf
          have hsz : ∀ T' : am_M, T'.1 53 0 = nI (s.1 0) → fX10_sizeOf 53 (nI (cw_W s (ps_cov s b) (j * ps_sz s (s.1 3)))) T' = some (nI (ps_sz s (cw_W s (ps_cov s b) (j * ps_sz s (s.1 3)))), T') := fun T' hT' => pm_size o2 (by omega) hT'
          have hlv := pm_levelAt ho h1.1 h2 hlt (cw_hi ho b hj hf)
          rw [hf] at hr
          obtain ⟨d', rfl⟩ : ∃ d', d = d' + 1 := ⟨d - 1, by omega⟩
          have jp := cw_jump hz hg a3
          obtain ⟨k1, k2, -⟩ := jp d' (by omega)
          have hW0 : 0 < ps_sz s (cw_W s (ps_cov s b) (j * ps_sz s (s.1 3))) := Nat.pow_pos (by decide)
          have hW1 : ps_sz s (cw_W s (ps_cov s b) (j * ps_sz s (s.1 3))) ≤ 4096 := (nz_p4 (show s.1 0 - cw_W s (ps_cov s b) (j * ps_sz s (s.1 3)) ≤ 6 by omega)).2
          have eV0 : cw_V s (ps_cov s b) 0 j = cw_W s (ps_cov s b) (j * ps_sz s (s.1 3)) := by unfold cw_V; rw [if_pos rfl]
          have eV1 : cw_V s (ps_cov s b) 1 j = j * ps_sz s (s.1 3) / ps_sz s (cw_W s (ps_cov s b) (j * ps_sz s (s.1 3))) := by unfold cw_V; rw [if_neg (by decide)]
          have ej : j + 1 + d' = j + (d' + 1) := by omega
          rw [ej] at k1 k2
          have ek : (j + (d' + 1)) * ps_sz s (s.1 3) = j * ps_sz s (s.1 3) + ps_sz s (cw_W s (ps_cov s b) (j * ps_sz s (s.1 3))) := by rw [Nat.add_mul, a3]
          have nob : ∀ q, j < q → q < j + (d' + 1) → cw_g s (ps_cov s b) q = false := fun q q1 q2 => by
            have := (jp (q - j) (by omega)).2.2 (by omega)
            rw [show j + (q - j) = q by omega] at this
            exact this
          have bj := ps_ct_le (cw_g s (ps_cov s b)) 0 j
          by_cases ca : nI (ps_ct (cw_g s (ps_cov s b)) 0 j) = a
          · refine ⟨_, ⟨j + (d' + 1), am_pI (am_pI T 53 23 (nI (cw_V s (ps_cov s b) 0 j))) 53 24 (nI (cw_V s (ps_cov s b) 1 j)), by omega, a4, rfl, by rw [k1]; exact Nat.le_refl _, (h1.pI (Or.inl ⟨rfl, by decide⟩) _).pI (Or.inl ⟨rfl, by decide⟩) _, (h2.cg (am_pI_r _ _ _ _ (by decide))).cg (am_pI_r _ _ _ _ (by decide)), fun q q1 q2 q3 => ?_⟩, ?_⟩
            · have : q = j := by
                rcases Nat.lt_trichotomy q j with c | c | c
                · have e3 : ps_ct (cw_g s (ps_cov s b)) 0 (q + 1) = ps_ct (cw_g s (ps_cov s b)) 0 q + 1 := ct_t q2
                  have e4 := ct_mono (cw_g s (ps_cov s b)) (show q + 1 ≤ j by omega)
                  have e5 := (nI_eq (by omega) (by omega)).mp (ca.trans q3.symm)
                  omega
                · exact c
                · rw [nob q c q1] at q2; exact absurd q2 (by decide)
              subst this
              refine ⟨?_, ?_⟩
              · rw [am_pI_1, if_neg (by omega), am_pI_1, if_pos ⟨rfl, rfl⟩]
              · rw [am_pI_1, if_pos ⟨rfl, rfl⟩]
            · have s1 := hsz (am_pI T 53 23 (nI (cw_W s (ps_cov s b) (j * ps_sz s (s.1 3))))) (by rw [am_pI_1, if_neg (by omega)]; exact d0)
              have s2 := hsz (am_pI (am_pI T 53 23 (nI (cw_W s (ps_cov s b) (j * ps_sz s (s.1 3))))) 53 24 (nI (j * ps_sz s (s.1 3) / ps_sz s (cw_W s (ps_cov s b) (j * ps_sz s (s.1 3)))))) (by rw [am_pI_1, if_neg (by omega), am_pI_1, if_neg (by omega)]; exact d0)
              rw [eV0, eV1, k2, ek]
              unfold fX10_tiles_4 fX10_tiles_65
              simp only [pm_cells o2 d0, am_bs, nm_le (show 4 ^ s.1 0 < 2147483648 by omega) (show j * ps_sz s (s.1 3) < 2147483648 by omega), show (4 ^ s.1 0 ≤ j * ps_sz s (s.1 3)) = False from eq_false (by omega), if_false, r22, l61, nm_cl (show j * ps_sz s (s.1 3) < 2147483648 by omega), am_ixc (show j * ps_sz s (s.1 3) < 4096 by omega) (show 4096 < 2147483648 by decide), hr, if_true, show (nI 1 = (0 : Int32)) = False from eq_false (by decide), hlv, ca, s1, nz_eq0 (show ps_sz s (cw_W s (ps_cov s b) (j * ps_sz s (s.1 3))) < 2147483648 by omega), show (ps_sz s (cw_W s (ps_cov s b) (j * ps_sz s (s.1 3))) = 0) = False from eq_false (by omega), nm_div (show j * ps_sz s (s.1 3) < 2147483648 by omega) hW0 (show ps_sz s (cw_W s (ps_cov s b) (j * ps_sz s (s.1 3))) < 2147483648 by omega), s2, nI_add]
              rw [← nI_1, ca]
          · refine ⟨_, ⟨j + (d' + 1), T, by omega, a4, rfl, by rw [k1]; exact Nat.le_refl _, h1, h2, fun q q1 q2 q3 => ?_⟩, ?_⟩
            · rcases Nat.lt_trichotomy q j with c | c | c
              · exact h3 q c q2 q3
              · rw [c] at q3; exact absurd q3 ca
              · rw [nob q c q1] at q2; exact absurd q2 (by decide)
            · rw [k2, ek]
              unfold fX10_tiles_4 fX10_tiles_65
              simp only [pm_cells o2 d0, am_bs, nm_le (show 4 ^ s.1 0 < 2147483648 by omega) (show j * ps_sz s (s.1 3) < 2147483648 by omega), show (4 ^ s.1 0 ≤ j * ps_sz s (s.1 3)) = False from eq_false (by omega), if_false, r22, l61, nm_cl (show j * ps_sz s (s.1 3) < 2147483648 by omega), am_ixc (show j * ps_sz s (s.1 3) < 4096 by omega) (show 4096 < 2147483648 by decide), hr, if_true, show (nI 1 = (0 : Int32)) = False from eq_false (by decide), hlv, ca, hsz T d0, nI_add, nI_1])
    (fun st kk ⟨j, T, j1, j2, e, hb, hI⟩ => by
      subst e
      have : j = 4 ^ s.1 3 := by omega
      subst this
      exact fin T kk hI)
    100000 0 (53, a, nI 0, nI 0, T) (Nat.zero_le _) (by omega) ⟨0, T, Nat.le_refl 0, Nat.zero_le _, by rw [Nat.zero_mul]; rfl, Nat.zero_le _, hR, hrow, fun q hq => absurd hq (Nat.not_lt_zero q)⟩
  exact L
theorem op_cover (w i v : Int32) : ps_op (fX9_cover 0 w i v) (fX10_cover 53 w i v) := by
  intro s ho
  obtain ⟨o1, o2, o3, o4, o5, -⟩ := id ho
  have hp3 := nz_p4 (show s.1 3 ≤ 6 by omega)
  by_cases hQ : (w = 0 ∨ w = 1) ∧ ¬ i < -1 ∧ (v = 0 ∨ v = 1)
  · obtain ⟨hw, hi, hv⟩ := id hQ
    obtain ⟨b, hb, rfl⟩ := nm_bits hw
    obtain ⟨c, hc, rfl⟩ := nm_bits hv
    have bB := ps_ct_le (cw_g s (ps_cov s b)) 0 (4 ^ s.1 3)
    have cls : ∀ r : Int32, (∀ (pl : Nat) (M : am_M) (a q : Nat), ps_X s pl M → ps_kq M a q → ps_ks M q (ps_cov s b) → fX0_tileOf 5 pl a i (nI c) M = some (r, M)) → ps_ox (fX9_cover 0 (nI b) i (nI c)) s r s := fun r hr pl M hX => by
      obtain ⟨-, p2, -, -, -, -, -, p8, -⟩ := hX.pl
      obtain ⟨T, t1, t2, t3, t4⟩ := px_refresh ho hX
      obtain ⟨v1, v2, v3⟩ := t2.kc t4 hb
      obtain ⟨-, u2, -, -, -, -, -, u8, -⟩ := t2.pl
      refine ⟨pl, T, ?_, t2, t3⟩
      unfold fX9_cover
      simp only [px_bit, hw, hv, hi, if_true, am_bs, nm_1f, if_false, p8, p2, t1, u8, u2, v3, hr pl T _ _ t2 v1 v2]
    have rfm : ∀ r : Int32, (∀ (M T : am_M), cw_I s M (ps_cov s b) i (4 ^ s.1 3) T → (if i = (-1) then some (nI (ps_ct (cw_g s (ps_cov s b)) 0 (4 ^ s.1 3)), T) else if i < nI (ps_ct (cw_g s (ps_cov s b)) 0 (4 ^ s.1 3)) then if nI c = 0 then some (T.1 53 23, T) else some (T.1 53 24, T) else some ((-4), T)) = some (r, T)) → ps_om (fX10_cover 53 (nI b) i (nI c)) s r s := fun r hr M hM => by
      obtain ⟨T, t1, t2, t3, t4⟩ := pm_setCover ho hM hb
      obtain ⟨U, u1, u2⟩ := pm_tiles ho t2 t4 i
      refine ⟨U, ?_, u2.1.1, u2.1.2⟩
      unfold fX10_cover
      simp only [pm_asked hw hi hv, am_bs, nm_1f, if_false, t1, u1]
      exact hr M U u2
    rcases nz_m1 hi with e | e
    · subst e
      refine ⟨nI (ps_ct (cw_g s (ps_cov s b)) 0 (4 ^ s.1 3)), s, ho, cls _ (fun pl M a q hX hk h => ?_), rfm _ (fun M T hI => ?_)⟩
      · rw [(px_tileOf ho hX hk h (-1) hc).2, if_pos rfl]
        intro j hj hg q
        have := ps_ct_le (cw_g s (ps_cov s b)) 0 j
        have e4 : (0 : Int32) ≤ nI (ps_ct (cw_g s (ps_cov s b)) 0 j) := nI_pos' (by omega)
        rw [q] at e4
        exact absurd e4 (by decide)
      · rw [if_pos rfl]
    · have i1 : ¬ i = -1 := fun q => by rw [q] at e; exact absurd e (by decide)
      rcases nm_cut i (ps_ct (cw_g s (ps_cov s b)) 0 (4 ^ s.1 3)) (by omega) with h | h | ⟨j, hj, rfl⟩
      · exact absurd h (Int32.not_lt.mpr e)
      · refine ⟨-4, s, ho, cls _ (fun pl M a q hX hk h2 => ?_), rfm _ (fun M T hI => ?_)⟩
        · rw [(px_tileOf ho hX hk h2 i hc).2, if_neg i1]
          intro j hj hg q
          have e3 : ps_ct (cw_g s (ps_cov s b)) 0 (j + 1) = ps_ct (cw_g s (ps_cov s b)) 0 j + 1 := ct_t hg
          have m := ct_mono (cw_g s (ps_cov s b)) (show j + 1 ≤ 4 ^ s.1 3 by omega)
          exact (nm_big (m := ps_ct (cw_g s (ps_cov s b)) 0 (4 ^ s.1 3)) (by omega) h (n := ps_ct (cw_g s (ps_cov s b)) 0 j) (by omega)).2.2.2.2.1 q.symm
        · rw [if_neg i1, if_neg (Int32.not_lt.mpr h)]
      · have ij : nI j < nI (ps_ct (cw_g s (ps_cov s b)) 0 (4 ^ s.1 3)) := by rw [nm_lt (by omega) (by omega)]; exact hj
        obtain ⟨k0, z1, z2, z3⟩ := ct_ex hj
        refine ⟨nI (cw_V s (ps_cov s b) c k0), s, ho, cls _ (fun pl M a q hX hk h2 => (px_tileOf ho hX hk h2 (nI j) hc).1 k0 z1 z2 (by rw [z3])), rfm _ (fun M T hI => ?_)⟩
        have z5 := hI.2.2 k0 z1 z2 (by rw [z3])
        rw [if_neg i1, if_pos ij]
        rcases (show c = 0 ∨ c = 1 by omega) with rfl | rfl
        · rw [if_pos (show nI 0 = (0 : Int32) from rfl), z5.1]
        · rw [if_neg (show ¬ nI 1 = (0 : Int32) by decide), z5.2]
  · refine ⟨-1, s, ho, ps_ox.same (fun pl M hX => ?_), ps_om.same (fun M hM => ?_)⟩
    · unfold fX9_cover
      by_cases hw : w = 0 ∨ w = 1
      · by_cases hi : i < -1
        · simp only [px_bit, hw, if_true, am_bs, nm_1f, if_false, hi]
        · have hv : ¬ (v = 0 ∨ v = 1) := fun q => hQ ⟨hw, hi, q⟩
          simp only [px_bit, hw, if_true, am_bs, nm_1f, if_false, hi, hv]
      · simp only [px_bit, hw, if_true, am_bs, if_false]
    · unfold fX10_cover
      simp only [pm_asked_no hQ, am_bs, if_true]
