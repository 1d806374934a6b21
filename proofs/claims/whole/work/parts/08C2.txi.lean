/-! the class reads an item -/
def am_fq (q : Nat) (M T : am_M) : Prop := T.2 = M.2 ∧ ∀ k, (k < q ∨ q + 14 < k) → T.1 k = M.1 k
theorem am_fq.pI {q : Nat} {M T : am_M} (h : am_fq q M T) {k : Nat} (h1 : q ≤ k) (h2 : k ≤ q + 14) (j : Nat) (x : Int32) : am_fq q M (am_pI T k j x) := ⟨h.1, fun a ha => (am_pI_r _ _ _ _ (by omega)).trans (h.2 a ha)⟩
theorem am_fq.rf (q : Nat) (M : am_M) : am_fq q M M := ⟨rfl, fun _ _ => rfl⟩
/-- a plan's memory -/
def ps_P (d : ps_S) (q : Nat) (M : am_M) : Prop := M.1 q 2 = nI (d.1 4) ∧ M.1 q 3 = nI (d.1 0) ∧ M.1 q 4 = nI (d.1 1) ∧ M.1 q 5 = nI (d.1 2) ∧ M.1 q 6 = nI (d.1 3) ∧ M.1 (q + 1) 4 = nI (d.1 5) ∧ (∀ i, i < d.1 5 → M.1 (q + 2) i = nI (d.2 6 i) ∧ M.1 (q + 3) i = nI (d.2 7 i)) ∧ ∀ i, i < d.1 4 → ∃ r, M.2.2.1 (q + 6) i = some r ∧ q + 7 ≤ r ∧ r < q + 15 ∧ ∀ j, j < 6 → M.1 r j = nI (d.2 j i)
theorem ps_P.fr {d : ps_S} {q : Nat} {M T : am_M} (h : ps_P d q M) (e : T.2 = M.2) (e1 : ∀ k, q ≤ k → k ≤ q + 14 → T.1 k = M.1 k) : ps_P d q T := by
  obtain ⟨h1, h2, h3, h4, h5, h6, h7, h8⟩ := h
  refine ⟨by rw [e1 q (by omega) (by omega)]; exact h1, by rw [e1 q (by omega) (by omega)]; exact h2, by rw [e1 q (by omega) (by omega)]; exact h3, by rw [e1 q (by omega) (by omega)]; exact h4, by rw [e1 q (by omega) (by omega)]; exact h5, by rw [e1 (q + 1) (by omega) (by omega)]; exact h6, fun i hi => by rw [e1 (q + 2) (by omega) (by omega), e1 (q + 3) (by omega) (by omega)]; exact h7 i hi, fun i hi => ?_⟩
  obtain ⟨r, r1, r2, r3, r4⟩ := h8 i hi
  exact ⟨r, by rw [e]; exact r1, r2, r3, fun j hj => by rw [e1 r (by omega) (by omega)]; exact r4 j hj⟩
theorem px_begin {d : ps_S} {q a b : Nat} {T : am_M} (hr : T.2.2.1 q 0 = some (q + 1)) : ∃ U, fX5_begin q (nI a) (nI b) T = some U ∧ am_fq q T U ∧ ps_P (tx_begin d a b) q U := by
  refine ⟨am_pI (am_pI (am_pI (am_pI (am_pI (am_pI T q 3 (nI a)) q 4 (nI b)) q 5 0) q 6 (nI a)) q 2 0) (q + 1) 4 0, ?_, ?_, ?_⟩
  · unfold fX5_begin
    show (T.2.2.1 q 0).bind _ = _
    rw [hr, am_bs]
  · exact ((((((am_fq.rf q T).pI (by omega) (by omega) _ _).pI (by omega) (by omega) _ _).pI (by omega) (by omega) _ _).pI (by omega) (by omega) _ _).pI (by omega) (by omega) _ _).pI (by omega) (by omega) _ _
  · refine ⟨?_, ?_, ?_, ?_, ?_, ?_, fun i hi => absurd hi (Nat.not_lt_zero i), fun i hi => absurd hi (Nat.not_lt_zero i)⟩
    · rw [am_pI_r _ _ _ _ (by omega), am_pI_1, if_pos ⟨rfl, rfl⟩]; rfl
    · rw [am_pI_r _ _ _ _ (by omega), am_pI_1, if_neg (by omega), am_pI_1, if_neg (by omega), am_pI_1, if_neg (by omega), am_pI_1, if_neg (by omega), am_pI_1, if_pos ⟨rfl, rfl⟩]; rfl
    · rw [am_pI_r _ _ _ _ (by omega), am_pI_1, if_neg (by omega), am_pI_1, if_neg (by omega), am_pI_1, if_neg (by omega), am_pI_1, if_pos ⟨rfl, rfl⟩]; rfl
    · rw [am_pI_r _ _ _ _ (by omega), am_pI_1, if_neg (by omega), am_pI_1, if_neg (by omega), am_pI_1, if_pos ⟨rfl, rfl⟩]; rfl
    · rw [am_pI_r _ _ _ _ (by omega), am_pI_1, if_neg (by omega), am_pI_1, if_pos ⟨rfl, rfl⟩]; rfl
    · rw [am_pI_1, if_pos ⟨rfl, rfl⟩]; rfl
theorem px_padd {d : ps_S} {q a b : Nat} {T : am_M} (hS : tx_S q T) (hP : ps_P d q T) (h5 : d.1 5 < 40) : ∃ U, fX6_add (q + 1) (nI a) (nI b) T = some (1, U) ∧ am_fq q T U ∧ ps_P (tx_point d a b) q U := by
  obtain ⟨-, -, -, -, -, -, s7, s8, s9, s10, s11, s12, s13, -⟩ := hS
  obtain ⟨h1, h2, h3, h4, h50, h6, h7, h8⟩ := hP
  refine ⟨am_pI (am_pI (am_pI T (q + 2) (d.1 5) (nI a)) (q + 3) (d.1 5) (nI b)) (q + 1) 4 (nI (d.1 5 + 1)), ?_, ?_, ?_⟩
  · have e40 : (nI (d.1 5) < (40 : Int32)) = True := by rw [nm_40, nm_lt (by omega) (by decide)]; exact eq_true h5
    have e6 : (am_pI T (q + 2) (d.1 5) (nI a)).1 (q + 1) 4 = nI (d.1 5) := by rw [am_pI_r _ _ _ _ (by omega)]; exact h6
    have e7 : (am_pI (am_pI T (q + 2) (d.1 5) (nI a)) (q + 3) (d.1 5) (nI b)).1 (q + 1) 4 = nI (d.1 5) := by rw [am_pI_r _ _ _ _ (by omega)]; exact e6
    have l3 : am_len (am_pI T (q + 2) (d.1 5) (nI a)) (q + 3) = 40 := s12
    have r3 : (am_pI T (q + 2) (d.1 5) (nI a)).2.2.1 (q + 1) 1 = some (q + 3) := s10
    unfold fX6_add
    simp only [h6, e40, if_true, s9, am_bs, s11, nm_cl (show d.1 5 < 2147483648 by omega), am_ixc (show d.1 5 < 40 by omega) (show 40 < 2147483648 by decide), if_false, r3, e6, l3, e7, nI_1]
  · exact (((am_fq.rf q T).pI (by omega) (by omega) _ _).pI (by omega) (by omega) _ _).pI (by omega) (by omega) _ _
  · have r0 : ∀ k, k ≠ q + 1 → k ≠ q + 2 → k ≠ q + 3 → (am_pI (am_pI (am_pI T (q + 2) (d.1 5) (nI a)) (q + 3) (d.1 5) (nI b)) (q + 1) 4 (nI (d.1 5 + 1))).1 k = T.1 k := fun k a b c => by rw [am_pI_r _ _ _ _ a, am_pI_r _ _ _ _ c, am_pI_r _ _ _ _ b]
    refine ⟨by rw [r0 q (by omega) (by omega) (by omega)]; exact h1, by rw [r0 q (by omega) (by omega) (by omega)]; exact h2, by rw [r0 q (by omega) (by omega) (by omega)]; exact h3, by rw [r0 q (by omega) (by omega) (by omega)]; exact h4, by rw [r0 q (by omega) (by omega) (by omega)]; exact h50, by rw [am_pI_1, if_pos ⟨rfl, rfl⟩]; rfl, fun i hi => ?_, fun i hi => ?_⟩
    · have hi : i < d.1 5 + 1 := hi
      show _ = nI (if i = d.1 5 then a else d.2 6 i) ∧ _ = nI (if i = d.1 5 then b else d.2 7 i)
      refine ⟨?_, ?_⟩
      · rw [am_pI_r _ _ _ _ (show q + 2 ≠ q + 1 by omega), am_pI_r _ _ _ _ (show q + 2 ≠ q + 3 by omega), am_pI_1]
        by_cases e : i = d.1 5
        · rw [if_pos ⟨rfl, e⟩, if_pos e]
        · rw [if_neg (fun z => e z.2), if_neg e]
          exact (h7 i (by omega)).1
      · rw [am_pI_r _ _ _ _ (show q + 3 ≠ q + 1 by omega), am_pI_1]
        by_cases e : i = d.1 5
        · rw [if_pos ⟨rfl, e⟩, if_pos e]
        · rw [if_neg (fun z => e z.2), if_neg e, am_pI_r _ _ _ _ (show q + 3 ≠ q + 2 by omega)]
          exact (h7 i (by omega)).2
    · obtain ⟨r, r1, r2, r3, r4⟩ := h8 i hi
      refine ⟨r, r1, r2, r3, fun j hj => ?_⟩
      show _ = nI ((if j = 6 then _ else if j = 7 then _ else d.2 j) i)
      rw [r0 r (by omega) (by omega) (by omega), if_neg (by omega), if_neg (by omega)]
      exact r4 j hj
theorem px_pmore {d : ps_S} {q r : Nat} {T : am_M} (hS : tx_S q T) (hP : ps_P d q T) (h8 : d.1 4 < 8) (f : Nat → Nat) (hr : T.2.2.1 (q + 6) (d.1 4) = some r) : am_fq q T (am_pI (am_six T r (nI (f 0)) (nI (f 1)) (nI (f 2)) (nI (f 3)) (nI (f 4)) (nI (f 5))) q 2 (nI (d.1 4 + 1))) ∧ ps_P (ps_more d f) q (am_pI (am_six T r (nI (f 0)) (nI (f 1)) (nI (f 2)) (nI (f 3)) (nI (f 4)) (nI (f 5))) q 2 (nI (d.1 4 + 1))) ∧ q ≠ r := by
  obtain ⟨-, -, -, -, -, -, s7, s8, s9, s10, s11, s12, s13, -, -, pi, hpi, hinj⟩ := hS
  obtain ⟨g1, g2, g3, g4, g5, g6, g7, g8⟩ := hP
  have hq2 : r = q + 7 + pi (d.1 4) := Option.some.inj (hr.symm.trans (hpi _ h8).2)
  have hb : q + 7 ≤ r ∧ r < q + 15 := by have := (hpi _ h8).1; omega
  have hin : ∀ j, j < 6 → (am_six T r (nI (f 0)) (nI (f 1)) (nI (f 2)) (nI (f 3)) (nI (f 4)) (nI (f 5))).1 r j = nI (f j) := fun j hj => am_six_in T r (fun t => nI (f t)) hj
  have hot : ∀ k, k ≠ r → (am_six T r (nI (f 0)) (nI (f 1)) (nI (f 2)) (nI (f 3)) (nI (f 4)) (nI (f 5))).1 k = T.1 k := fun k hk => am_six_o T r _ _ _ _ _ _ hk
  have hR : (am_six T r (nI (f 0)) (nI (f 1)) (nI (f 2)) (nI (f 3)) (nI (f 4)) (nI (f 5))).2 = T.2 := rfl
  generalize am_six T r (nI (f 0)) (nI (f 1)) (nI (f 2)) (nI (f 3)) (nI (f 4)) (nI (f 5)) = U at hin hot hR
  have hRR : (am_pI U q 2 (nI (d.1 4 + 1))).2 = T.2 := hR
  have hk : ∀ k i, ¬ (k = q ∧ i = 2) → (am_pI U q 2 (nI (d.1 4 + 1))).1 k i = U.1 k i := fun k i h => by rw [am_pI_1, if_neg h]
  refine ⟨⟨hRR, fun k hk' => by rw [am_pI_r _ _ _ _ (by omega), hot k (by omega)]⟩, ⟨?_, ?_, ?_, ?_, ?_, ?_, fun i hi => ?_, fun i hi => ?_⟩, by omega⟩
  · rw [am_pI_1, if_pos ⟨rfl, rfl⟩]; rfl
  · rw [hk q 3 (by omega), hot q (by omega)]; exact g2
  · rw [hk q 4 (by omega), hot q (by omega)]; exact g3
  · rw [hk q 5 (by omega), hot q (by omega)]; exact g4
  · rw [hk q 6 (by omega), hot q (by omega)]; exact g5
  · rw [hk (q + 1) 4 (by omega), hot (q + 1) (by omega)]; exact g6
  · rw [hk (q + 2) i (by omega), hk (q + 3) i (by omega), hot (q + 2) (by omega), hot (q + 3) (by omega)]; exact g7 i hi
  · have hi : i < d.1 4 + 1 := hi
    rw [hRR]
    by_cases c : i = d.1 4
    · refine ⟨r, by rw [c]; exact hr, hb.1, hb.2, fun j hj => ?_⟩
      rw [hk r j (by omega), hin j hj]
      show _ = nI ((if j < 6 then (fun i => if i = d.1 4 then f j else d.2 j i) else d.2 j) i)
      rw [if_pos hj]
      simp only [c, if_true]
    · obtain ⟨q', q1, q2, q3, q4⟩ := g8 i (by omega)
      have hne : q' ≠ r := by
        rintro rfl
        have e9 : q' = q + 7 + pi i := Option.some.inj (q1.symm.trans (hpi i (by omega)).2)
        exact c (hinj _ _ (by omega) h8 (by omega))
      refine ⟨q', q1, q2, q3, fun j hj => ?_⟩
      rw [hk q' j (by omega), hot q' hne, q4 j hj]
      show _ = nI ((if j < 6 then (fun i => if i = d.1 4 then f j else d.2 j i) else d.2 j) i)
      rw [if_pos hj]
      simp only [c, if_false]
theorem px_puts {d : ps_S} {q sg kd : Nat} {V : Nat → Nat} {T : am_M} (hS : tx_S q T) (hP : ps_P d q T) (hk : kd = 119 ∨ kd = 112 ∨ kd = 98 ∨ kd = 100) (hm : if kd = 112 then d.1 5 < 40 else d.1 4 < 8) (hV : ∀ j, j < tx_many kd → T.1 3 j = nI (V j)) (hsg : sg ≤ 126) : ∃ U, fX7_put 1 q (nI sg) (nI kd) T = some U ∧ am_fq q T U ∧ ps_P (tx_put d sg kd V) q U := by
  obtain ⟨s1, s2, s3, s4, s5, s6, s7, s8, s9, s10, s11, s12, s13, s14, s15, pi, hpi, hinj⟩ := id hS
  have c0 : (0 : Int32).toNatClampNeg = 0 := rfl
  have c1 : (1 : Int32).toNatClampNeg = 1 := rfl
  have c2 : (2 : Int32).toNatClampNeg = 2 := rfl
  have c3 : (3 : Int32).toNatClampNeg = 3 := rfl
  have n0 : ((0 : Int32) < 0 ∨ 4 ≤ 0) = False := eq_false (by decide)
  have n1 : ((1 : Int32) < 0 ∨ 4 ≤ 1) = False := eq_false (by decide)
  have n2 : ((2 : Int32) < 0 ∨ 4 ≤ 2) = False := eq_false (by decide)
  have n3 : ((3 : Int32) < 0 ∨ 4 ≤ 3) = False := eq_false (by decide)
  have esg : (nI sg = (43 : Int32)) = (sg = 43) := nm_eq (by omega) (by decide)
  have eon : (if sg = 43 then (1 : Nat) else 0) ≤ 1 := by split <;> omega
  have hbit : ∀ {α : Type} (g : Int32 → α), (if nI sg = (43 : Int32) then g 1 else g 0) = g (nI (if sg = 43 then 1 else 0)) := fun g => by
    simp only [esg]
    by_cases c : sg = 43
    · rw [if_pos c, if_pos c]; rfl
    · rw [if_neg c, if_neg c]; rfl
  unfold tx_put
  rcases hk with rfl | rfl | rfl | rfl
  · obtain ⟨U, u1, u2, u3⟩ := px_begin (d := d) (a := V 0) (b := V 1) s7
    refine ⟨U, ?_, u2, by rw [if_pos rfl]; exact u3⟩
    have v0 := hV 0 (by decide)
    have v1 := hV 1 (by decide)
    unfold fX7_put
    simp only [show (nI 119 = (119 : Int32)) = True from eq_true rfl, if_true, s2, am_bs, s5, c0, c1, n0, n1, if_false, v0, v1, u1]
  · rw [if_pos rfl] at hm
    obtain ⟨U, u1, u2, u3⟩ := px_padd (a := V 0) (b := V 1) hS hP hm
    refine ⟨U, ?_, u2, by rw [if_neg (by decide), if_pos rfl]; exact u3⟩
    have v0 := hV 0 (by decide)
    have v1 := hV 1 (by decide)
    unfold fX7_put
    simp only [show (nI 112 = (119 : Int32)) = False from eq_false (by decide), show (nI 112 = (112 : Int32)) = True from eq_true rfl, if_true, if_false, s7, s2, am_bs, s5, c0, c1, n0, n1, v0, v1, u1]
  · rw [if_neg (by decide)] at hm
    have hr := (hpi _ hm).2
    obtain ⟨u2, u3, u4⟩ := px_pmore hS hP hm (tx_part sg 98 V) hr
    refine ⟨_, ?_, u2, by rw [if_neg (by decide), if_neg (by decide)]; exact u3⟩
    have v0 := hV 0 (by decide)
    have v1 := hV 1 (by decide)
    have v2 := hV 2 (by decide)
    have v3 := hV 3 (by decide)
    have ab := px_addBox (M := T) (pl := q) hP.1 s8 s13 hr u4 hm eon (nI (V 0)) (nI (V 1)) (nI (V 2)) (nI (V 3))
    unfold fX7_put
    simp only [show (nI 98 = (119 : Int32)) = False from eq_false (by decide), show (nI 98 = (112 : Int32)) = False from eq_false (by decide), show (nI 98 = (98 : Int32)) = True from eq_true rfl, if_true, if_false]
    rw [hbit (fun b => fX7_put_72 1 b q T)]
    unfold fX7_put_72
    simp only [s2, am_bs, s5, c0, c1, c2, c3, n0, n1, n2, n3, if_false, v0, v1, v2, v3, ab]
    rfl
  · rw [if_neg (by decide)] at hm
    have hr := (hpi _ hm).2
    obtain ⟨u2, u3, u4⟩ := px_pmore hS hP hm (tx_part sg 100 V) hr
    refine ⟨_, ?_, u2, by rw [if_neg (by decide), if_neg (by decide)]; exact u3⟩
    have v0 := hV 0 (by decide)
    have v1 := hV 1 (by decide)
    have v2 := hV 2 (by decide)
    have ab := px_addDisc (M := T) (pl := q) hP.1 s8 s13 hr u4 hm eon (nI (V 0)) (nI (V 1)) (nI (V 2))
    unfold fX7_put
    simp only [show (nI 100 = (119 : Int32)) = False from eq_false (by decide), show (nI 100 = (112 : Int32)) = False from eq_false (by decide), show (nI 100 = (98 : Int32)) = False from eq_false (by decide), if_true, if_false]
    rw [hbit (fun b => fX7_put_115 1 b q T)]
    unfold fX7_put_115
    simp only [s2, am_bs, s5, c0, c1, c2, n0, n1, n2, if_false, v0, v1, v2, ab]
    rfl
theorem px_kind {s : ps_S} {q p : Nat} {T : am_M} (ho : ps_ok s) (hS : tx_S q T) (hC : tx_C s p T) (hp : p ≤ 200) : ∃ T', fX7_readKind 1 T = some (nI (tx_k (tx_h s) p), T') ∧ am_f3 T T' ∧ tx_C s (tx_q (tx_h s) p) T' := by
  have hl := tx_h_le ho
  have eh := px_here ho hS hC (by omega)
  have b := hl p
  have e5 : T.1 1 5 + 1 = nI (p + 1) := by rw [hC.2.1, nI_1]
  have C1 : tx_C s (p + 1) (am_pI T 1 5 (nI (p + 1))) := hC.p5
  have S1 : tx_S q (am_pI T 1 5 (nI (p + 1))) := hS.fr rfl
  have eh1 := px_here ho S1 C1 (by omega)
  have e51 : (am_pI T 1 5 (nI (p + 1))).1 1 5 + 1 = nI (p + 2) := by rw [C1.2.1, nI_1]
  have b1 := hl (p + 1)
  have ex : ∀ c : Nat, c < 2147483648 → (nI (tx_h s p) = nI c) = (tx_h s p = c) := fun c hc => nm_eq (by omega) hc
  have ex1 : ∀ c : Nat, c < 2147483648 → (nI (tx_h s (p + 1)) = nI c) = (tx_h s (p + 1) = c) := fun c hc => nm_eq (by omega) hc
  have z0 : (0 : Int32).toUInt32.toUInt16.toUInt32.toInt32 = nI 0 := rfl
  have r43 : ∃ T', fX7_readKind_43 1 (am_pI T 1 5 (nI (p + 1))) = some (nI (if tx_h s (p + 1) = 98 then 98 else if tx_h s (p + 1) = 100 then 100 else 0), T') ∧ am_f3 T T' ∧ tx_C s (p + 2) T' := by
    refine ⟨am_pI (am_pI T 1 5 (nI (p + 1))) 1 5 (nI (p + 2)), ?_, ((am_f3.rf T).p5 _).p5 _, C1.p5⟩
    unfold fX7_readKind_43
    simp only [eh1, am_bs, show (98 : Int32) = nI 98 from rfl, show (100 : Int32) = nI 100 from rfl, ex1 98 (by decide), ex1 100 (by decide), e51, nz_u16 b1, z0]
    by_cases c1 : tx_h s (p + 1) = 98
    · rw [if_pos c1, if_pos c1, c1]
    · rw [if_neg c1, if_neg c1]
      by_cases c2 : tx_h s (p + 1) = 100
      · rw [if_pos c2, if_pos c2, c2]
      · rw [if_neg c2, if_neg c2]
  unfold fX7_readKind tx_k tx_q
  simp only [eh, am_bs, show (119 : Int32) = nI 119 from rfl, show (112 : Int32) = nI 112 from rfl, show (43 : Int32) = nI 43 from rfl, show (45 : Int32) = nI 45 from rfl, ex 119 (by decide), ex 112 (by decide), ex 43 (by decide), ex 45 (by decide), e5, nz_u16 b, z0]
  by_cases c1 : tx_h s p = 119
  · refine ⟨am_pI T 1 5 (nI (p + 1)), by rw [if_pos c1, if_pos c1, c1], (am_f3.rf T).p5 _, by rw [if_neg (by omega)]; exact C1⟩
  · by_cases c2 : tx_h s p = 112
    · refine ⟨am_pI T 1 5 (nI (p + 1)), by rw [if_neg c1, if_neg c1, if_pos c2, if_pos c2, c2], (am_f3.rf T).p5 _, by rw [if_neg (by omega)]; exact C1⟩
    · rw [if_neg c1, if_neg c1, if_neg c2, if_neg c2]
      by_cases c3 : tx_h s p = 43
      · rw [if_pos c3, if_pos (Or.inl c3), if_pos (Or.inl c3)]; exact r43
      · rw [if_neg c3]
        by_cases c4 : tx_h s p = 45
        · rw [if_pos c4, if_pos (Or.inr c4), if_pos (Or.inr c4)]; exact r43
        · rw [if_neg c4, if_neg (by omega), if_neg (by omega)]
          exact ⟨am_pI T 1 5 (nI (p + 1)), rfl, (am_f3.rf T).p5 _, C1⟩
theorem px_may {q kd k np nq : Nat} {T : am_M} (hr : T.2.2.1 q 0 = some (q + 1)) (h2 : T.1 q 2 = nI np) (h4 : T.1 (q + 1) 4 = nI nq) (hkd : kd ≤ 126) (hk : k < 100000) (hnp : np < 100000) (hnq : nq < 100000) : fX7_mayStand 1 q (nI kd) (nI k) T = some (if tx_m kd k np nq = true then 1 else 0, T) := by
  have ex : ∀ c : Nat, c < 2147483648 → (nI kd = nI c) = (kd = c) := fun c hc => nm_eq (by omega) hc
  have ek : (nI k = (0 : Int32)) = (k = 0) := nm_eq (by omega) (by decide)
  have e8 : ((8 : Int32) ≤ nI np) = (8 ≤ np) := by rw [nm_8, nm_le (by decide) (by omega)]
  have e40 : ((40 : Int32) ≤ nI nq) = (40 ≤ nq) := by rw [nm_40, nm_le (by decide) (by omega)]
  have e := tx_m_t (kd := kd) (k := k) (np := np) (nq := nq)
  have i10 : ((1 : Int32) = 0) = False := eq_false (by decide)
  have i01 : ((0 : Int32) = 1) = False := eq_false (by decide)
  unfold fX7_mayStand fX7_mayStand_15 fX7_mayStand_24
  simp only [show (nI kd = (0 : Int32)) = (kd = 0) from ex 0 (by decide), show (nI kd = (119 : Int32)) = (kd = 119) from ex 119 (by decide), show (nI kd = (112 : Int32)) = (kd = 112) from ex 112 (by decide), ek, hr, am_bs, h2, h4, e8, e40, i10, i01, if_true, if_false]
  by_cases c0 : kd = 0
  · rw [if_pos c0, if_neg (fun z => (e.mp z).1 c0)]
  · rw [if_neg c0]
    have fin : (kd = 119 ↔ k = 0) → (if kd = 112 then if 40 ≤ nq then some ((0 : Int32), T) else some (1, T) else if 8 ≤ np then some (0, T) else some (1, T)) = some (if tx_m kd k np nq = true then 1 else 0, T) := fun hh => by
      by_cases c3 : kd = 112
      · rw [if_pos c3]
        by_cases c4 : 40 ≤ nq
        · rw [if_pos c4, if_neg (fun z => by have := (e.mp z).2.2; rw [if_pos c3] at this; omega)]
        · rw [if_neg c4, if_pos (e.mpr ⟨c0, hh, by rw [if_pos c3]; omega⟩)]
      · rw [if_neg c3]
        by_cases c4 : 8 ≤ np
        · rw [if_pos c4, if_neg (fun z => by have := (e.mp z).2.2; rw [if_neg c3] at this; omega)]
        · rw [if_neg c4, if_pos (e.mpr ⟨c0, hh, by rw [if_neg c3]; omega⟩)]
    by_cases c1 : kd = 119
    · rw [if_pos c1]
      by_cases c2 : k = 0
      · rw [if_pos c2]; exact fin ⟨fun _ => c2, fun _ => c1⟩
      · rw [if_neg c2, if_neg (fun z => c2 ((e.mp z).2.1.mp c1))]
    · rw [if_neg c1]
      by_cases c2 : k = 0
      · rw [if_pos c2, if_neg (fun z => c1 ((e.mp z).2.1.mpr c2))]
      · rw [if_neg c2]; exact fin ⟨fun z => absurd z c1, fun z => absurd z c2⟩
def am_fr (q : Nat) (M T : am_M) : Prop := T.2 = M.2 ∧ (∀ k, k ≠ 1 → k ≠ 3 → (k < q ∨ q + 14 < k) → T.1 k = M.1 k) ∧ ∀ j, j ≠ 5 → T.1 1 j = M.1 1 j
theorem am_f3.r {q : Nat} {M T : am_M} (h : am_f3 M T) : am_fr q M T := ⟨h.1, fun k a b _ => h.2.1 k a b, h.2.2⟩
theorem am_fr.tr {q : Nat} {M T U : am_M} (h : am_fr q M T) (h' : am_fr q T U) : am_fr q M U := ⟨h'.1.trans h.1, fun k a b c => (h'.2.1 k a b c).trans (h.2.1 k a b c), fun j a => (h'.2.2 j a).trans (h.2.2 j a)⟩
theorem am_fq.r {q : Nat} {M T : am_M} (h : am_fq q M T) (hq : 4 < q) : am_fr q M T := ⟨h.1, fun k _ _ c => h.2 k c, fun j _ => by rw [h.2 1 (by omega)]⟩
theorem px_item {s d : ps_S} {q k p : Nat} {T : am_M} (ho : ps_ok s) (od : ps_ok d) (hS : tx_S q T) (hC : tx_C s p T) (hP : ps_P d q T) (hp : p ≤ 200) (hk : k < 100000) : ∃ T', fX7_readItem 1 q (nI k) T = some (nI (tx_item (tx_h s) k d p).1, T') ∧ am_fr q T T' ∧ ((tx_item (tx_h s) k d p).1 = 0 → tx_C s (tx_item (tx_h s) k d p).2.1 T' ∧ ps_P (tx_item (tx_h s) k d p).2.2 q T' ∧ (tx_item (tx_h s) k d p).2.1 ≤ 202) := by
  have hl := tx_h_le ho
  have hq4 : 4 < q := hS.2.2.2.2.2.2.2.2.2.2.2.2.2.1
  have s7 := hS.2.2.2.2.2.2.1
  have eh := px_here ho hS hC (by omega)
  obtain ⟨T1, a1, a2, a3⟩ := px_kind ho hS hC hp
  have S1 := hS.fr a2.1
  have P1 : ps_P d q T1 := hP.fr a2.1 (fun k k1 k2 => a2.2.1 k (by omega) (by omega))
  have hkc := tx_k_c (tx_h s) p
  have em := px_may (k := k) S1.2.2.2.2.2.2.1 P1.1 P1.2.2.2.2.2.1 (kd := tx_k (tx_h s) p) (by omega) hk (show d.1 4 < 100000 by have := od.2.2.2.2.2.1; omega) (show d.1 5 < 100000 by have := od.2.2.2.2.2.2.1; omega)
  unfold fX7_readItem
  simp only [eh, am_bs, a1, em, nm_if0]
  by_cases c1 : tx_m (tx_k (tx_h s) p) k (d.1 4) (d.1 5) = true
  · have m := tx_m_t.mp c1
    have hk4 : tx_k (tx_h s) p = 119 ∨ tx_k (tx_h s) p = 112 ∨ tx_k (tx_h s) p = 98 ∨ tx_k (tx_h s) p = 100 := by omega
    have hq := tx_q_lt (tx_h s) p
    obtain ⟨T2, b1, b2, b3⟩ := px_itn (q := q) ho od.2.1 hk4 (nI (tx_h s p)) (tx_many (tx_k (tx_h s) p)) 0 (tx_q (tx_h s) p) (fun _ => 0) T1 100000 (by omega) (by have := tx_many_le (tx_k (tx_h s) p); omega) (by omega) S1 a3 P1.2.1 (fun j hj => absurd hj (Nat.not_lt_zero j))
    have go : (if nI (tx_k (tx_h s) p) = 98 then fX7_readItem_47 1 q (nI (tx_h s p)) (nI (tx_k (tx_h s) p)) 4 T1 else if nI (tx_k (tx_h s) p) = 100 then fX7_readItem_47 1 q (nI (tx_h s p)) (nI (tx_k (tx_h s) p)) 3 T1 else fX7_readItem_47 1 q (nI (tx_h s p)) (nI (tx_k (tx_h s) p)) 2 T1) = am_loop fX7_readItem_52 100000 (1, q, nI (tx_h s p), nI (tx_k (tx_h s) p), nI (tx_many (tx_k (tx_h s) p)), nI 0, T1) := by
      unfold fX7_readItem_47
      rcases hk4 with z | z | z | z <;> rw [z]
      · rw [if_neg (show ¬ nI 119 = (98 : Int32) by decide), if_neg (show ¬ nI 119 = (100 : Int32) by decide), show nI (tx_many 119) = (2 : Int32) from rfl, show nI 0 = (0 : Int32) from rfl]
      · rw [if_neg (show ¬ nI 112 = (98 : Int32) by decide), if_neg (show ¬ nI 112 = (100 : Int32) by decide), show nI (tx_many 112) = (2 : Int32) from rfl, show nI 0 = (0 : Int32) from rfl]
      · rw [if_pos (show nI 98 = (98 : Int32) from rfl), show nI (tx_many 98) = (4 : Int32) from rfl, show nI 0 = (0 : Int32) from rfl]
      · rw [if_neg (show ¬ nI 100 = (98 : Int32) by decide), if_pos (show nI 100 = (100 : Int32) from rfl), show nI (tx_many 100) = (3 : Int32) from rfl, show nI 0 = (0 : Int32) from rfl]
    rw [if_neg (not_not_intro c1), go, b2]
    unfold tx_item
    rw [if_pos c1]
    by_cases c2 : (it_n (tx_h s) (tx_k (tx_h s) p) (2 ^ d.1 0) (tx_many (tx_k (tx_h s) p)) (tx_many (tx_k (tx_h s) p)) 0 (tx_q (tx_h s) p) (fun _ => 0)).1 = 0
    · rw [if_pos c2, if_pos c2]
      obtain ⟨w1, w2, w3⟩ := b3 c2
      have P2 : ps_P d q T2 := P1.fr b1.1 (fun k k1 k2 => b1.2.1 k (by omega) (by omega))
      obtain ⟨U, u1, u2, u3⟩ := px_puts (sg := tx_h s p) (S1.fr b1.1) P2 hk4 m.2.2 w3 (hl p)
      refine ⟨U, by rw [u1, am_bs]; rfl, ((a2.tr b1).r).tr (u2.r hq4), fun _ => ⟨⟨?_, ?_, fun i hi => ?_⟩, u3, w2⟩⟩
      · rw [u2.2 1 (by omega)]; exact w1.1
      · rw [u2.2 1 (by omega)]; exact w1.2.1
      · rw [u2.2 2 (by omega)]; exact w1.2.2 i hi
    · rw [if_neg c2, if_neg c2]
      exact ⟨T2, rfl, (a2.tr b1).r, fun z => absurd z c2⟩
  · rw [if_pos c1]
    unfold tx_item
    rw [if_neg c1]
    exact ⟨T1, rfl, a2.r, fun z => absurd z (show ¬ (1 : Nat) = 0 by decide)⟩
