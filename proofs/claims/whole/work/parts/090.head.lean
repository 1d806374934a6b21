/-! THE CLAIM OUT OF ONE WALK OF THE LAW'S BODY. Your part is whole_start (and what it stands on); all else here is the same for every law, but numbers. -/
def R_law : String := "QuadKeysLaw"
def lw_P (b : Addr) (xs : List Int32) (args : Array Value) (s : State) : Prop := args = #[.ref b] ∧ s.IntsAt b xs ∧ xs.length ≤ 3072 ∧ (Jvm.Cond.and given_1 narrow_1).before args s = true
def lw_Q (_ : Array Value) (s : State) (o : Outcome) (t : State) : Prop := o = .returned (some (.int 1)) ∧ Framed s o t [] 600000 7302250
def lw_Z (below : List Frame) (a : Array Value) (s : State) : State → Prop := fun t => ∃ o, t.status = .running ∧ Ended t below o ∧ lw_Q a s o t
/-- the law's own end, with 1 on the stack, nothing written that was there before, its room as the claim has it -/
theorem lw_ret {p : Program} {l : Launch} {e : Env} {s : State} {m : MethodId} {below : List Frame} {meth : Method} {c : Code} {b : Nat} (hx : p.tables.exec = Jvm.exec) (hb : c.code = code) (hr : meth.sig.returnType = ret) (hlocks : meth.locks = false) {pc : Nat} {H : Heap} {ls : Array Slot} (hdg : decode code pc = .ok (.ireturn, 1)) : W p l e room_1 s m #[Value.ref b] below meth c H [] 600000 7302250 (lw_Z below #[Value.ref b] s) (F0 m pc ls [.int 1]) := by
  intro T hT X
  obtain ⟨fs, hret, hrun, hended, hW, hframe⟩ := X.leave (v := some (.int 1)) (hlocks := hlocks) (fun h => by rw [hr] at h; cases h)
  have hmeth' : T.vm.method? m = some meth := X.method'
  refine ⟨T.setFrames fs, ?_, .returned (some (.int 1)), hrun, hended, rfl, ⟨_, rfl⟩, hW, hframe⟩
  jvm_step X.here [X.here.top, hx, hb, hdg, hmeth', hr, ret, narrow_b1]
  (try refine ⟨rfl, ?_⟩); (try refine ⟨rfl, ?_⟩)
  first | (intro acts; rw [hret _ acts rfl rfl rfl]) | rw [hret _ _ rfl rfl rfl]
  exact Steps.refl _
/-- what holds at the law's entry: the machine, the code, the tables' words (any of lw_tbl by 'hts w (by decide +kernel)'), the script of L ints xs at the cell b, what the Statement gives of the start (any of its parts by flat_of_before) -/
def lw_At (p : Program) (s : State) (m : MethodId) (meth : Method) (c : Code) (b L : Nat) (xs : Nat → Int32) : Prop :=
  p.tables.exec = Jvm.exec ∧ c.code = code ∧ meth.sig.returnType = ret ∧ c.maxLocals = 4 ∧ s.vm.findClass R_law = some m.cls ∧ (∀ w ∈ lw_tbl, w.before #[Value.ref b] s = true) ∧ va_X b L xs s s.heap ∧ b < s.heap.size ∧ meth.locks = false ∧ (Jvm.Cond.and given_1 narrow_1).before #[Value.ref b] s = true
theorem am_nest_in : ∀ q ∈ am_Nest, Cond.methodLinkNest q.1 q.2.1 q.2.2.1 q.2.2.2 ∈ lw_tbl := by
  have h : am_Nest.map (fun q => Cond.methodLinkNest q.1 q.2.1 q.2.2.1 q.2.2.2) = [82, 112, 118, 129, 142, 185, 217, 365].filterMap (fun i => lw_tbl[i]?) := by decide +kernel
  intro q hq
  have h1 : Cond.methodLinkNest q.1 q.2.1 q.2.2.1 q.2.2.2 ∈ am_Nest.map (fun q => Cond.methodLinkNest q.1 q.2.1 q.2.2.1 q.2.2.2) := List.mem_map.mpr ⟨q, hq, rfl⟩
  rw [h] at h1
  obtain ⟨i, -, hi⟩ := List.mem_filterMap.mp h1
  exact List.mem_of_getElem? hi
theorem am_elem_in : ∀ j, j < 68 → Cond.eq (.elem (.field (.string "QuadKeys" 33) "java/lang/String" "value" "[B") (.int (Int32.ofNat j))) (.int (([am_bytes].getD 0 []).getD j 0)) ∈ flatC (Jvm.Cond.and given_1 narrow_1) := by decide +kernel

/-! ===== the claim out of the law's function ===== -/
def am_M0 : am_M := (fun _ _ => 0, fun _ _ => 0, fun _ _ => none, [])
theorem am_eqI {args : Array Value} {s : State} {t : Term} {n : Int32} (h : (Cond.eq t (.int n)).before args s = true) : t.eval args s none [] s = some (.int n) := by
  unfold Cond.before Cond.holds at h
  simp only [Cond.value] at h
  have e2 : (Term.int n).eval args s none [] s = some (.int n) := rfl
  rw [e2] at h
  cases hv : t.eval args s none [] s with
  | none => rw [hv] at h; cases h
  | some v =>
    rw [hv] at h
    cases v with
    | int x =>
      simp at h
      rw [h]
    | _ => simp at h
theorem am_arrT {s : State} {c comp : ClassId} {k : Class} {ty : FieldType} (h1 : s.vm.classes[c]? = some k) (h2 : k.kind = .array comp ty) : ArrOfT s c ty := fun n z => ⟨(fun q hq => by cases hq), k, h1, comp, h2⟩
set_option maxRecDepth 100000 in
set_option maxHeartbeats 4000000 in
/-- what the Statement gives, as the walks take it -/
theorem am_start {p : Program} {s : State} {m : MethodId} {meth : Method} {c : Code} (l : Launch) {b L : Nat} {xs : Nat → Int32} (C0 : lw_At p s m meth c b L xs) :
    ∃ G : am_G, G.1 = l ∧ G.2.1 = s.heap.size ∧ G.2.2.2.2.1 = b ∧ G.2.2.2.2.2.1 = L ∧ G.2.2.2.2.2.2.1 = xs ∧ (G.2.2.2.2.2.2.2.2.2 = .null ∨ ∃ t, G.2.2.2.2.2.2.2.2.2 = .retAddr t) ∧ am_K G s := by
  obtain ⟨hx, hb, hr, hml, hown, hts, hX, hbl, hlocks, hgv⟩ := C0
  have htT : ∀ w ∈ am_T, w.before #[Value.ref b] s = true := fun w h => hts w (am_T_in w h)
  have hA : ∀ a : Nat, a < s.heap.size → ¬ am_A s.heap.size a := fun a h => Nat.not_le.mpr h
  have hfl := flat_of_before _ hgv
  obtain ⟨c0, iS0, hKn0⟩ := u_known (C := am_CN 0) (T := am_TT 0) (N := am_N 0) (n := am_N 0) htT am_cf_0.2.1 (htT _ ib_0)
  obtain ⟨c1, iS1, hKn1⟩ := u_known (C := am_CN 1) (T := am_TT 1) (N := am_N 1) (n := am_N 1) htT am_cf_1.2.1 (htT _ ib_1)
  obtain ⟨c2, iS2, hKn2⟩ := u_known (C := am_CN 2) (T := am_TT 2) (N := am_N 2) (n := am_N 2) htT am_cf_2.2.1 (htT _ ib_2)
  obtain ⟨c3, iS3, hKn3⟩ := u_known (C := am_CN 3) (T := am_TT 3) (N := am_N 3) (n := am_N 3) htT am_cf_3.2.1 (htT _ ib_3)
  obtain ⟨c4, iS4, hKn4⟩ := u_known (C := am_CN 4) (T := am_TT 4) (N := am_N 4) (n := am_N 4) htT am_cf_4.2.1 (htT _ ib_4)
  obtain ⟨c5, iS5, hKn5⟩ := u_known (C := am_CN 5) (T := am_TT 5) (N := am_N 5) (n := am_N 5) htT am_cf_5.2.1 (htT _ ib_5)
  obtain ⟨c6, iS6, hKn6⟩ := u_known (C := am_CN 6) (T := am_TT 6) (N := am_N 6) (n := am_N 6) htT am_cf_6.2.1 (htT _ ib_6)
  obtain ⟨c7, iS7, hKn7⟩ := u_known (C := am_CN 7) (T := am_TT 7) (N := am_N 7) (n := am_N 7) htT am_cf_7.2.1 (htT _ ib_7)
  obtain ⟨c8, iS8, hKn8⟩ := u_known (C := am_CN 8) (T := am_TT 8) (N := am_N 8) (n := am_N 8) htT am_cf_8.2.1 (htT _ ib_8)
  obtain ⟨c9, iS9, hKn9⟩ := u_known (C := am_CN 9) (T := am_TT 9) (N := am_N 9) (n := am_N 9) htT am_cf_9.2.1 (htT _ ib_9)
  obtain ⟨dC, dI, hKc⟩ : ∃ (dC : Nat → ClassId) (dI : Nat → Nat → Nat), ∀ (k : Nat) (q : vw_C), vwCl[k]? = some q → u_Kn s q.1 q.2.1 q.2.2 (dC k) (dI k) := by
    refine ⟨fun k => if k = 0 then c0 else if k = 1 then c1 else if k = 2 then c2 else if k = 3 then c3 else if k = 4 then c4 else if k = 5 then c5 else if k = 6 then c6 else if k = 7 then c7 else if k = 8 then c8 else c9, fun k => if k = 0 then iS0 else if k = 1 then iS1 else if k = 2 then iS2 else if k = 3 then iS3 else if k = 4 then iS4 else if k = 5 then iS5 else if k = 6 then iS6 else if k = 7 then iS7 else if k = 8 then iS8 else iS9, ?_⟩
    intro k q hq
    match k, hq with
    | 0, hq => cases hq; exact hKn0
    | 1, hq => cases hq; exact hKn1
    | 2, hq => cases hq; exact hKn2
    | 3, hq => cases hq; exact hKn3
    | 4, hq => cases hq; exact hKn4
    | 5, hq => cases hq; exact hKn5
    | 6, hq => cases hq; exact hKn6
    | 7, hq => cases hq; exact hKn7
    | 8, hq => cases hq; exact hKn8
    | 9, hq => cases hq; exact hKn9
    | k + 10, hq => simp [vwCl] at hq
  obtain ⟨a0, k0, p0, f0, g0, t0⟩ := Cond.arrayClass_spec (htT _ ac_int)
  obtain ⟨a1, k1, p1, f1, g1, t1⟩ := Cond.arrayClass_spec (htT _ ac_long)
  obtain ⟨a2, k2, p2, f2, g2, t2⟩ := Cond.arrayClass_spec (htT _ ac_char)
  have hao : va_AO RX4 s := va_AO.of (A := #[Value.ref b]) (hts (.arrayOver (.object RX4)) (List.mem_of_getElem? (i := 215) (by decide +kernel)))
  have hai : va_Nw (.arrayOver (.array .int)) s := hts (.arrayOver (.array .int)) (List.mem_of_getElem? (i := 147) (by decide +kernel))
  obtain ⟨p3, a3, k3, e3, -, g3, t3, f3⟩ := Cond.arrayOver_spec hao
  obtain ⟨p4, a4, k4, e4, -, g4, t4, f4⟩ := am_over_spec hai
  have hKa : va_K (dC, dI) vwCl (am_tys (fun k => if k = 0 then a0 else if k = 1 then a1 else if k = 2 then a2 else if k = 3 then a3 else a4)) s := by
    refine ⟨hKc, fun k q hq => ?_⟩
    match k, hq with
    | 0, hq => cases hq; exact ⟨am_arrT g0 t0, f0⟩
    | 1, hq => cases hq; exact ⟨am_arrT g1 t1, f1⟩
    | 2, hq => cases hq; exact ⟨am_arrT g2 t2, f2⟩
    | 3, hq => cases hq; exact ⟨am_arrT g3 t3, k3, p3, g3, t3, e3, f3⟩
    | 4, hq => cases hq; exact ⟨am_arrT g4 t4, f4⟩
    | k + 5, hq => simp [am_tys] at hq
  have hN : ∀ q ∈ am_Nest, va_Nw (.methodLinkNest q.1 q.2.1 q.2.2.1 q.2.2.2) s := by
    intro q hq
    refine va_Nw.of rfl (hts (.methodLinkNest q.1 q.2.1 q.2.2.1 q.2.2.2) ?_)
    exact am_nest_in q hq
  obtain ⟨adK, adV, hSt, hev⟩ := vk_Sof (args := #[Value.ref b]) (s := s) (N := 1) (tm := fun _ => .string "QuadKeys" 33) (len := [68]) (byt := [am_bytes]) (A := am_A s.heap.size) (fun i hi => by rw [show i = 0 by omega]; decide) (fun i _ => hfl _ (by decide +kernel)) (fun i _ => hfl _ (by decide +kernel)) (fun i _ => hfl _ (by decide +kernel)) (fun i hi => by rw [show i = 0 by omega]; exact hfl _ (by decide +kernel)) (fun i hi j hj => by
      have hi0 : i = 0 := by omega
      subst hi0
      have hj : j < 68 := hj
      exact hfl _ (am_elem_in j hj)) (fun i j hi hj hne => absurd (show i = j by omega) hne) hA
  have hR : vk_R RX9 33 am_text (adK 0) s := vk_R.of (A := #[Value.ref b]) (hts (.stringRef RX9 33 am_text) (List.mem_of_getElem? (i := 280) (by decide +kernel))) (hev 0 (by decide))
  have hZc : va_Z "java/lang/String" "COMPACT_STRINGS" "Z" (.int 1) (am_A s.heap.size) s s.heap := va_Zof (args := #[Value.ref b]) (hts (.laysStatic "java/lang/String" "COMPACT_STRINGS" "Z") (List.mem_of_getElem? (i := 290) (by decide +kernel))) (hts (.initialized "java/lang/String") (List.mem_of_getElem? (i := 63) (by decide +kernel))) (am_eqI (hfl _ (by decide +kernel))) hA
  have hZf : va_Zq "jdk/internal/util/Preconditions" "SIOOBE_FORMATTER" "Ljava/util/function/BiFunction;" (am_A s.heap.size) s s.heap := va_Zqof (args := #[Value.ref b]) (hts (.laysStatic "jdk/internal/util/Preconditions" "SIOOBE_FORMATTER" "Ljava/util/function/BiFunction;") (List.mem_of_getElem? (i := 306) (by decide +kernel))) (hts (.initialized "jdk/internal/util/Preconditions") (List.mem_of_getElem? (i := 65) (by decide +kernel))) (hfl _ (by decide +kernel)) hA
  have hSt0 : vk_S 1 [68] [am_bytes] (fun _ => adK 0) (fun _ => adV 0) (am_A s.heap.size) s s.heap := ⟨fun i hi => by
    have hi0 : i = 0 := by omega
    subst hi0
    exact hSt.1 0 hi, fun i j hi hj _ => by omega⟩
  rcases hZf with hz | ⟨t, hz⟩
  · exact ⟨(l, s.heap.size, (dC, dI), _, b, L, xs, adK 0, adV 0, .null), rfl, rfl, rfl, rfl, rfl, Or.inl rfl, hKa, hN, hao, hai, hX, hbl, hSt0, hR, hZc, hz⟩
  · exact ⟨(l, s.heap.size, (dC, dI), _, b, L, xs, adK 0, adV 0, .retAddr t), rfl, rfl, rfl, rfl, rfl, Or.inr ⟨t, rfl⟩, hKa, hN, hao, hai, hX, hbl, hSt0, hR, hZc, hz⟩
