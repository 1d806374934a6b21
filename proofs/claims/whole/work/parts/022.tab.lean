/-! tables of the classes, by their numbers in vwCl (laid by wip/whole/gentab.py) -/
def am_CN : Nat → String := fun c => match c with
  | 0 => RX0
  | 1 => RX2
  | 2 => RX3
  | 3 => RX4
  | 4 => RX5
  | 5 => RX6
  | 6 => RX7
  | 7 => RX8
  | 8 => RX9
  | _ => RX10
def am_TT : Nat → u_T := fun c => match c with
  | 0 => TX0
  | 1 => TX2
  | 2 => TX3
  | 3 => TX4
  | 4 => TX5
  | 5 => TX6
  | 6 => TX7
  | 7 => TX8
  | 8 => TX9
  | _ => TX10
def am_N : Nat → Nat := fun c => match c with
  | 0 => 7
  | 1 => 2
  | 2 => 1
  | 3 => 6
  | 4 => 7
  | 5 => 5
  | 6 => 6
  | 7 => 1
  | 8 => 4
  | _ => 30
def am_ty : Nat → Nat → FieldType := fun c => match c with
  | 0 => tyX0
  | 1 => tyX2
  | 2 => tyX3
  | 3 => tyX4
  | 4 => tyX5
  | 5 => tyX6
  | 6 => tyX7
  | 7 => tyX8
  | 8 => tyX9
  | _ => tyX10
def am_fk (c j : Nat) : Nat := match c, j with
  | 0, 0 => 7
  | 0, 1 => 7
  | 0, 2 => 7
  | 0, 3 => 6
  | 0, 4 => 12
  | 1, 0 => 0
  | 2, 0 => 1
  | 4, 0 => 10
  | 4, 1 => 3
  | 5, 0 => 0
  | 5, 1 => 0
  | 5, 2 => 0
  | 5, 3 => 0
  | 6, 0 => 2
  | 6, 1 => 0
  | 6, 2 => 0
  | 7, 0 => 4
  | 8, 0 => 11
  | 8, 1 => 5
  | 8, 2 => 9
  | 8, 3 => 9
  | 9, 5 => 0
  | 9, 7 => 0
  | 9, 8 => 0
  | 9, 9 => 0
  | 9, 12 => 0
  | 9, 18 => 0
  | 9, 21 => 0
  | 9, 22 => 0
  | 9, 25 => 0
  | 9, 26 => 0
  | 9, 27 => 0
  | 9, 28 => 0
  | _, _ => 0
def am_Nest : List (String × Nat × MethodName × String) := [(RX9, 9, yX7_init, RX9), (RX9, 18, yX0_init, RX9), (RX0, 11, yX3_init, RX9), (RX0, 26, yX2_init, RX9), (RX0, 33, yX8_init, RX9), (RX5, 11, yX6_init, RX9), (RX5, 24, yX4_init, RX9), (RX7, 83, yX9_isBit, RX9)]
/-- the words that keep: of all methods alike -/
def am_T : List Cond := lw_tbl.filter goodWord
theorem am_T_in : ∀ w ∈ am_T, w ∈ lw_tbl := fun w h => (List.mem_filter.mp h).1
theorem am_T_good : ∀ w ∈ am_T, (w.onTables && w.keeps) = true ∨ ∃ ty, w = .arrayClass ty := fun w h => good_of_word (List.mem_filter.mp h).2
theorem am_in {w : Cond} {i : Nat} (h : lw_tbl[i]? = some w) (hg : goodWord w = true) : w ∈ am_T := List.mem_filter.mpr ⟨List.mem_of_getElem? h, hg⟩
theorem am_ins {ws : List Cond} (ps : List Nat) (hp : ws = ps.filterMap (fun i => lw_tbl[i]?)) (h : ws.all goodWord = true) : ∀ w ∈ ws, w ∈ am_T := by
  intro w hw
  have h1 := List.all_eq_true.mp h w hw
  rw [hp] at hw
  obtain ⟨i, -, hi⟩ := List.mem_filterMap.mp hw
  exact am_in hi h1
/-- an array of int rows can be made: the tables' word, moved -/
theorem am_over_spec {s : State} (h : (Cond.arrayOver (.array .int)).before #[] s = true) :
    ∃ comp c k, s.vm.findClass (FieldType.array .int).toString = some comp ∧ (s.vm.classes.findIdx? fun (x : Class) => match x.kind with | .array component _ => component == comp | _ => false) = some c ∧ s.vm.classes[c]? = some k ∧ k.kind = .array comp (.array .int) ∧ s.vm.findClass ("[" ++ (FieldType.array .int).toString) = some c := by
  unfold Cond.before at h
  simp only [Cond.holds, Cond.value, beq_iff_eq] at h
  cases hc : s.vm.findClass (FieldType.array .int).toString with
  | none => simp [hc] at h
  | some comp =>
    simp only [hc, Option.bind_some, Option.bind_eq_some_iff, Option.map_eq_some_iff] at h
    obtain ⟨c, hi, k, hk, hb⟩ := h
    obtain ⟨hlt, hp, -⟩ := Array.findIdx?_eq_some_iff_getElem.mp hi
    have hkk : s.vm.classes[c] = k := (Array.getElem?_eq_some_iff.mp hk).2
    rw [hkk] at hp
    cases hkind : k.kind with
    | array component ty =>
      rw [hkind] at hb hp
      simp at hb hp
      exact ⟨comp, c, k, rfl, hi, hk, by rw [hkind, hp, hb.1], hb.2⟩
    | _ => rw [hkind] at hb; simp at hb
theorem am_over_moved {u U : State} (hvm : u.vm.Alike U.vm) (h : va_Nw (.arrayOver (.array .int)) u) : va_Nw (.arrayOver (.array .int)) U := by
  obtain ⟨comp, c, k, h1, h2, h3, h4, h5⟩ := am_over_spec h
  obtain ⟨k', hk', he⟩ := hvm.2.2 _ _ h3
  have hi : (U.vm.classes.findIdx? fun (x : Class) => match x.kind with | .array component _ => component == comp | _ => false) = some c := by
    have e1 := va_idx_bare U.vm comp
    have e2 := va_idx_bare u.vm comp
    have e3 : U.vm.bare = u.vm.bare := by first | exact hvm.bare_eq | exact hvm.bare_eq.symm
    rw [e3] at e1
    exact e1.symm.trans (e2.trans h2)
  have hkind : k'.kind = .array comp (.array .int) := by rw [he]; exact h4
  have f1 : U.vm.findClass (FieldType.array .int).toString = some comp := by rw [hvm.findClass]; exact h1
  have f2 : U.vm.findClass ("[" ++ (FieldType.array .int).toString) = some c := by rw [hvm.findClass]; exact h5
  unfold va_Nw Cond.before Cond.holds
  simp only [Cond.value]
  rw [f1, Option.bind_some]
  refine (congrArg (fun o : Option Nat => (o.bind (fun c => (U.vm.classes[c]?).map fun (k : Class) => match k.kind with | .array _ ty => decide (ty = FieldType.array .int) && decide (U.vm.findClass ("[" ++ (FieldType.array .int).toString) = some c) | _ => false) == some true)) hi).trans ?_
  simp [hk', hkind, f2]
