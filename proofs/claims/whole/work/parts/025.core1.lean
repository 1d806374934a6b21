/-! ===== THE ABSTRACT MEMORY: cells by their places (a place is how many cells the run made before it); ints, longs and references of a place by their slots; the places' kinds and lengths.
Kinds: 0 int[], 1 long[], 2 char[], 3 Part[], 4 int[][], 5 + c an object of class c of vwCl. ===== -/
abbrev am_M : Type := (Nat → Nat → Int32) × (Nat → Nat → Int64) × (Nat → Nat → Option Nat) × List (Nat × Nat)
/-- what was there before: the script's cell, length and ints; the text constant's cell and its bytes' cell; the formatter -/
abbrev am_O : Type := Nat × Nat × (Nat → Int32) × Nat × Nat × Value
/-- launch, how many cells there were before, the classes, the array classes, what was there before -/
abbrev am_G : Type := Launch × Nat × va_G × (Nat → ClassId) × am_O
def am_c (b : Nat) (v : Value) : Value := match v with
  | .ref k => .ref (b + k)
  | .retAddr a => .ref a
  | v => v
theorem am_c_cat (b : Nat) (v : Value) : (am_c b v).category = v.category := by cases v <;> rfl
abbrev am_n (M : am_M) : Nat := M.2.2.2.length
def am_sl (M : am_M) : Nat := (M.2.2.2.map (fun q => q.2)).sum
def am_up {α : Type} (f : Nat → Nat → α) (k j : Nat) (x : α) : Nat → Nat → α := fun a i => if a = k ∧ i = j then x else f a i
theorem am_up_row {α : Type} (f : Nat → Nat → α) (k j : Nat) (x : α) : am_up f k j x k = fun i => if i = j then x else f k i := by
  funext i; simp [am_up]
theorem am_up_ne {α : Type} (f : Nat → Nat → α) {a k : Nat} (j : Nat) (x : α) (h : a ≠ k) : am_up f k j x a = f a := by
  funext i; simp [am_up, h]
def am_pI (M : am_M) (k j : Nat) (x : Int32) : am_M := (am_up M.1 k j x, M.2.1, M.2.2.1, M.2.2.2)
def am_pJ (M : am_M) (k j : Nat) (x : Int64) : am_M := (M.1, am_up M.2.1 k j x, M.2.2.1, M.2.2.2)
def am_pR (M : am_M) (k j : Nat) (x : Option Nat) : am_M := (M.1, M.2.1, am_up M.2.2.1 k j x, M.2.2.2)
def am_new (M : am_M) (kd n : Nat) : am_M := (fun a i => if a = am_n M then 0 else M.1 a i, fun a i => if a = am_n M then 0 else M.2.1 a i, fun a i => if a = am_n M then none else M.2.2.1 a i, M.2.2.2 ++ [(kd, n)])
def am_fv (b : Nat) (t : FieldType) (i : Int32) (j : Int64) (r : Option Nat) : Value := match t with
  | .object _ => va_rf (r.map (b + ·))
  | .array _ => va_rf (r.map (b + ·))
  | .long => .long j
  | _ => .int i
def am_fs (b : Nat) (M : am_M) (k c n : Nat) : List Value := (List.range n).map fun j => am_fv b (am_ty c j) (M.1 k j) (M.2.1 k j) (M.2.2.1 k j)
def am_e (G : am_G) (M : am_M) (k : Nat) (sh : Nat × Nat) : va_E :=
  if sh.1 = 0 then .inl (G.2.2.2.1 0, sh.2, .inl (M.1 k))
  else if sh.1 = 1 then .inl (G.2.2.2.1 1, sh.2, .inr (.inl (M.2.1 k)))
  else if sh.1 = 2 then .inl (G.2.2.2.1 2, sh.2, .inl (M.1 k))
  else if sh.1 = 3 then .inl (G.2.2.2.1 3, sh.2, .inr (.inr (.inr (.inr (fun j => (M.2.2.1 k j).map (G.2.1 + ·))))))
  else if sh.1 = 4 then .inl (G.2.2.2.1 4, sh.2, .inr (.inr (.inr (.inr (fun j => (M.2.2.1 k j).map (G.2.1 + ·))))))
  else .inr (sh.1 - 5, am_fs G.2.1 M k (sh.1 - 5) sh.2)
def am_ws (G : am_G) (M : am_M) : va_W := M.2.2.2.mapIdx (fun k sh => (G.2.1 + k, am_e G M k sh))
theorem am_ws_get (G : am_G) (M : am_M) (k : Nat) : (am_ws G M)[k]? = (M.2.2.2[k]?).map (fun sh => (G.2.1 + k, am_e G M k sh)) := by
  simp [am_ws, List.getElem?_mapIdx]
theorem am_ws_at {G : am_G} {M : am_M} {k : Nat} {sh : Nat × Nat} (h : M.2.2.2[k]? = some sh) : (am_ws G M)[k]? = some (G.2.1 + k, am_e G M k sh) := by
  rw [am_ws_get, h]; rfl
theorem am_ws_inv {G : am_G} {M : am_M} {k : Nat} {q : Nat × va_E} (h : (am_ws G M)[k]? = some q) : k < am_n M ∧ q.1 = G.2.1 + k := by
  rw [am_ws_get] at h
  cases hs : M.2.2.2[k]? with
  | none => rw [hs] at h; cases h
  | some sh => rw [hs] at h; cases h; exact ⟨(List.getElem?_eq_some_iff.mp hs).1, rfl⟩
abbrev am_A (b : Nat) : Nat → Prop := fun q => b ≤ q
theorem am_ws_D (G : am_G) (M : am_M) : va_D (am_A G.2.1) (am_ws G M) := by
  refine ⟨fun i j p q hi hj e => ?_, fun k q hk => ?_⟩
  · have h1 := (am_ws_inv hi).2
    have h2 := (am_ws_inv hj).2
    rw [h1, h2] at e
    omega
  · show G.2.1 ≤ q.1
    rw [(am_ws_inv hk).2]
    exact Nat.le_add_right _ _
abbrev am_tys (cA : Nat → ClassId) : List (ClassId × FieldType) := [(cA 0, .int), (cA 1, .long), (cA 2, .char), (cA 3, .object RX4), (cA 4, .array .int)]
/-- the heap holds the memory, and nothing else that was made since -/
def am_H (G : am_G) (M : am_M) (H : Heap) : Prop := H.size = G.2.1 + am_n M ∧ va_P G.2.2.1 vwCl (am_ws G M) H
/-- what is known of a place -/
def am_sh (M : am_M) (q kd : Nat) : Prop := ∃ n, M.2.2.2[q]? = some (kd, n)
def am_len (M : am_M) (q : Nat) : Nat := match M.2.2.2[q]? with
  | some s => s.2
  | none => 0
theorem am_sh.at {M : am_M} {q kd : Nat} (h : am_sh M q kd) : M.2.2.2[q]? = some (kd, am_len M q) := by
  obtain ⟨n, hn⟩ := h
  simp [am_len, hn]
/-- which kind a reference of a cell's slot has -/
def am_ek (kd j : Nat) : Nat := if kd = 3 then 5 + 3 else if kd = 4 then 0 else am_fk (kd - 5) j
/-- objects have their fields, references are of their kinds -/
def am_wt (M : am_M) : Prop := ∀ (k kd n : Nat), M.2.2.2[k]? = some (kd, n) → (5 ≤ kd → n = am_N (kd - 5)) ∧ ∀ (j q : Nat), M.2.2.1 k j = some q → am_sh M q (am_ek kd j)
def am_le (M M' : am_M) : Prop := ∃ t, M'.2.2.2 = M.2.2.2 ++ t
theorem am_le.rf (M : am_M) : am_le M M := ⟨[], by simp⟩
theorem am_le.tr {A B C : am_M} (h : am_le A B) (h2 : am_le B C) : am_le A C := by
  obtain ⟨t, ht⟩ := h
  obtain ⟨u, hu⟩ := h2
  exact ⟨t ++ u, by rw [hu, ht, List.append_assoc]⟩
theorem am_le.at {A B : am_M} (h : am_le A B) {k : Nat} {s : Nat × Nat} (hk : A.2.2.2[k]? = some s) : B.2.2.2[k]? = some s := by
  obtain ⟨t, ht⟩ := h
  rw [ht, List.getElem?_append_left (List.getElem?_eq_some_iff.mp hk).1]
  exact hk
theorem am_sh.mono {A B : am_M} (h : am_le A B) {q kd : Nat} (hs : am_sh A q kd) : am_sh B q kd := by
  obtain ⟨n, hn⟩ := hs
  exact ⟨n, h.at hn⟩
theorem am_le.n {A B : am_M} (h : am_le A B) : am_n A ≤ am_n B := by
  obtain ⟨t, ht⟩ := h
  simp [am_n, ht]
theorem am_le.sl {A B : am_M} (h : am_le A B) : am_sl A ≤ am_sl B := by
  obtain ⟨t, ht⟩ := h
  simp [am_sl, ht]
theorem am_le.len {A B : am_M} (h : am_le A B) {q kd : Nat} (hs : am_sh A q kd) : am_len B q = am_len A q := by
  obtain ⟨n, hn⟩ := hs
  have h2 := h.at hn
  simp [am_len, hn, h2]
theorem am_wt.ob {M : am_M} (h : am_wt M) {q c : Nat} (hs : am_sh M q (5 + c)) : M.2.2.2[q]? = some (5 + c, am_N c) := by
  obtain ⟨n, hn⟩ := hs
  have h1 := (h q _ n hn).1 (by omega)
  rw [hn, h1]
  have : 5 + c - 5 = c := by omega
  rw [this]
theorem am_wt.rf {M : am_M} (h : am_wt M) {k kd j q : Nat} (hs : am_sh M k kd) (hq : M.2.2.1 k j = some q) : am_sh M q (am_ek kd j) := by
  obtain ⟨n, hn⟩ := hs
  exact (h k kd n hn).2 j q hq
theorem am_wt.pI {M : am_M} (h : am_wt M) (k j : Nat) (x : Int32) : am_wt (am_pI M k j x) := h
theorem am_wt.pJ {M : am_M} (h : am_wt M) (k j : Nat) (x : Int64) : am_wt (am_pJ M k j x) := h
theorem am_wt.pR {M : am_M} (h : am_wt M) {k kd j q : Nat} (hk : am_sh M k kd) (hq : am_sh M q (am_ek kd j)) : am_wt (am_pR M k j (some q)) := by
  intro a ka n ha
  refine ⟨(h a ka n ha).1, fun i r hr => ?_⟩
  have hr : am_up M.2.2.1 k j (some q) a i = some r := hr
  by_cases he : a = k ∧ i = j
  · obtain ⟨rfl, rfl⟩ := he
    simp [am_up] at hr
    subst hr
    obtain ⟨n2, hn2⟩ := hk
    have ha : M.2.2.2[a]? = some (ka, n) := ha
    rw [hn2] at ha
    cases ha
    exact hq
  · simp [am_up, he] at hr
    exact (h a ka n ha).2 i r hr
theorem am_wt.new {M : am_M} (h : am_wt M) {kd n : Nat} (hn : 5 ≤ kd → n = am_N (kd - 5)) : am_wt (am_new M kd n) := by
  have hle : am_le M (am_new M kd n) := ⟨[(kd, n)], rfl⟩
  intro a ka m ha
  have ha : (M.2.2.2 ++ [(kd, n)])[a]? = some (ka, m) := ha
  by_cases he : a < M.2.2.2.length
  · rw [List.getElem?_append_left he] at ha
    refine ⟨(h a ka m ha).1, fun i r hr => ?_⟩
    have hr : (if a = am_n M then none else M.2.2.1 a i) = some r := hr
    rw [if_neg (by show ¬ a = M.2.2.2.length; omega)] at hr
    exact ((h a ka m ha).2 i r hr).mono hle
  · rw [List.getElem?_append_right (by omega)] at ha
    have hz : a - M.2.2.2.length < 1 := (List.getElem?_eq_some_iff.mp ha).1
    have hz0 : a = M.2.2.2.length := by omega
    rw [show a - M.2.2.2.length = 0 by omega] at ha
    cases ha
    refine ⟨hn, fun i r hr => ?_⟩
    have hr : (if a = am_n M then none else M.2.2.1 a i) = some r := hr
    rw [if_pos hz0] at hr
    cases hr
/-! ===== the world's list behind a store ===== -/
theorem am_ws_ext {G : am_G} {M M' : am_M} {k : Nat} {sh : Nat × Nat} (hs : M'.2.2.2 = M.2.2.2) (h : M.2.2.2[k]? = some sh) (ho : ∀ (a : Nat) (s2 : Nat × Nat), a ≠ k → am_e G M' a s2 = am_e G M a s2) :
    am_ws G M' = (am_ws G M).set k (G.2.1 + k, am_e G M' k sh) := by
  have hl : k < (am_ws G M).length := (List.getElem?_eq_some_iff.mp (am_ws_at (G := G) h)).1
  apply List.ext_getElem?
  intro i
  by_cases hi : i = k
  · subst hi
    rw [List.getElem?_set_self hl, am_ws_get, hs, h]
    rfl
  · rw [List.getElem?_set_ne (fun e => hi e.symm), am_ws_get, am_ws_get, hs]
    cases M.2.2.2[i]? with
    | none => rfl
    | some s2 => simp [ho i s2 hi]
theorem am_e_pI {G : am_G} {M : am_M} {k j : Nat} {x : Int32} (a : Nat) (s2 : Nat × Nat) (h : a ≠ k) : am_e G (am_pI M k j x) a s2 = am_e G M a s2 := by
  simp only [am_e, am_fs, am_pI, am_up_ne _ j x h]
theorem am_e_pJ {G : am_G} {M : am_M} {k j : Nat} {x : Int64} (a : Nat) (s2 : Nat × Nat) (h : a ≠ k) : am_e G (am_pJ M k j x) a s2 = am_e G M a s2 := by
  simp only [am_e, am_fs, am_pJ, am_up_ne _ j x h]
theorem am_e_pR {G : am_G} {M : am_M} {k j : Nat} {x : Option Nat} (a : Nat) (s2 : Nat × Nat) (h : a ≠ k) : am_e G (am_pR M k j x) a s2 = am_e G M a s2 := by
  simp only [am_e, am_fs, am_pR, am_up_ne _ j x h]
theorem am_e_ob (G : am_G) (M : am_M) (k c n : Nat) : am_e G M k (5 + c, n) = .inr (c, am_fs G.2.1 M k c n) := by
  unfold am_e
  rw [if_neg (by show ¬ 5 + c = 0; omega), if_neg (by show ¬ 5 + c = 1; omega), if_neg (by show ¬ 5 + c = 2; omega), if_neg (by show ¬ 5 + c = 3; omega), if_neg (by show ¬ 5 + c = 4; omega)]
  show (Sum.inr (5 + c - 5, am_fs G.2.1 M k (5 + c - 5) n) : va_E) = _
  rw [show 5 + c - 5 = c by omega]
theorem am_fs_get {b : Nat} {M : am_M} {k c n j : Nat} (h : j < n) : (am_fs b M k c n)[j]? = some (am_fv b (am_ty c j) (M.1 k j) (M.2.1 k j) (M.2.2.1 k j)) := by
  simp [am_fs, h]
theorem am_fs_len (b : Nat) (M : am_M) (k c n : Nat) : (am_fs b M k c n).length = n := by simp [am_fs]
theorem am_fs_set {b : Nat} {M M' : am_M} {k c n j : Nat} {v : Value} (h : j < n) (hv : am_fv b (am_ty c j) (M'.1 k j) (M'.2.1 k j) (M'.2.2.1 k j) = v)
    (ho : ∀ i, i ≠ j → am_fv b (am_ty c i) (M'.1 k i) (M'.2.1 k i) (M'.2.2.1 k i) = am_fv b (am_ty c i) (M.1 k i) (M.2.1 k i) (M.2.2.1 k i)) :
    am_fs b M' k c n = (am_fs b M k c n).set j v := by
  apply List.ext_getElem?
  intro i
  by_cases hi : i = j
  · subst hi
    rw [List.getElem?_set_self (by rw [am_fs_len]; exact h), am_fs_get h, hv]
  · rw [List.getElem?_set_ne (fun e => hi e.symm)]
    by_cases hin : i < n
    · rw [am_fs_get hin, am_fs_get hin, ho i hi]
    · rw [List.getElem?_eq_none (by rw [am_fs_len]; omega), List.getElem?_eq_none (by rw [am_fs_len]; omega)]
/-! ===== what the tables say, for all methods alike ===== -/
def am_text : String := "w4,1;+b2,3,9,8;+d10,9,4;-b5,5,6,12;p3,3;p10,10;p5,6;p0,15;p9,4;p3,3;"
def am_bytes : List Int32 := am_text.toList.map (fun c => Int32.ofNat c.toNat)
def am_K (G : am_G) (U : State) : Prop := va_K G.2.2.1 vwCl (am_tys G.2.2.2.1) U ∧ (∀ q ∈ am_Nest, va_Nw (.methodLinkNest q.1 q.2.1 q.2.2.1 q.2.2.2) U) ∧ va_AO RX4 U ∧ va_Nw (.arrayOver (.array .int)) U ∧
  va_X G.2.2.2.2.1 G.2.2.2.2.2.1 G.2.2.2.2.2.2.1 U U.heap ∧ G.2.2.2.2.1 < G.2.1 ∧
  vk_S 1 [68] [am_bytes] (fun _ => G.2.2.2.2.2.2.2.1) (fun _ => G.2.2.2.2.2.2.2.2.1) (am_A G.2.1) U U.heap ∧ vk_R RX9 33 am_text G.2.2.2.2.2.2.2.1 U ∧
  va_Z "java/lang/String" "COMPACT_STRINGS" "Z" (.int 1) (am_A G.2.1) U U.heap ∧ va_Z "jdk/internal/util/Preconditions" "SIOOBE_FORMATTER" "Ljava/util/function/BiFunction;" (am_c G.2.1 G.2.2.2.2.2.2.2.2.2) (am_A G.2.1) U U.heap
theorem am_K.step {G : am_G} {s U : State} (hW : s.WarmedH U.vm) (hb : G.2.1 ≤ s.heap.size) (hq : ∀ a : Nat, a < s.heap.size → ¬ am_A G.2.1 a → U.heap[a]? = s.heap[a]?) (h : am_K G s) : am_K G U := by
  obtain ⟨h1, h2, h3, h4, h5, h6, h7, h8, h9, h10⟩ := h
  exact ⟨h1.moved hW.alike, fun q hq => va_Nw.warmM hW (h2 q hq), h3.moved hW.alike, am_over_moved hW.alike h4, (h5.kept (hq _ (Nat.lt_of_lt_of_le h6 hb) (Nat.not_le.mpr h6))).moved hW.alike, h6, (h7.kept hq).moved hW.alike, h8.warm hW, (h9.kept hq).moved hW.alike, (h10.kept hq).moved hW.alike⟩
theorem am_K.same {G : am_G} {u U : State} (h : u.vm = U.vm) (hh : u.heap = U.heap) (hK : am_K G u) : am_K G U := by
  obtain ⟨h1, h2, h3, h4, h5, h6, h7, h8, h9, h10⟩ := hK
  have ha : u.vm.Alike U.vm := h ▸ Vm.Alike.refl u.vm
  refine ⟨h1.moved ha, fun q hq => va_Nw.same rfl h (h2 q hq), h3.moved ha, am_over_moved ha h4, ?_, h6, ?_, h8.same h.symm, ?_, ?_⟩
  · rw [← hh]; exact h5.moved ha
  · rw [← hh]; exact h7.moved ha
  · rw [← hh]; exact h9.moved ha
  · rw [← hh]; exact h10.moved ha
def am_R (d mc ms : Nat) : Room := { frames := d, cells := mc, slots := ms, locals := 64 * d }
/-- a method's end: its answer, its memory -/
def am_Q (G : am_G) (v : Option Value) (M' : am_M) : Array Value → State → Outcome → State → Prop := fun _ st o t => (o = .returned (v.map (am_c G.2.1)) ∧ am_H G M' t.heap) ∧ va_F (am_A G.2.1) st t
/-- THE CONTRACT of a method at the arguments av and the memory M: it does what X says, if X says something -/
def am_C {β : Type} (emb : β → Option Value × am_M) (G : am_G) (d : Nat) (y : MethodName) (cc : ByteArray) (nL : Nat) (ret : Option FieldType) (av : List Value) (M : am_M) (X : Option β) : Prop :=
  am_wt M → ∀ r : β, X = some r → am_le M (emb r).2 ∧ am_wt (emb r).2 ∧
    Met G.1 y (.code y cc nL ret :: am_T) (am_R d (am_n (emb r).2 - am_n M) (am_sl (emb r).2 - am_sl M)) (va_Pc (av.map (am_c G.2.1)) (fun U => am_H G M U.heap ∧ am_K G U)) (am_Q G (emb r).1 (emb r).2) (am_n (emb r).2 - am_n M) (am_sl (emb r).2 - am_sl M) (am_A G.2.1)
def am_Lc (b : Nat) (L : List (Nat × Value)) : List (Nat × Value) := L.map (fun q => (q.1, am_c b q.2))
def am_Z (G : am_G) (d : Nat) (own nm : String) (cc : ByteArray) (nL : Nat) (ret : Option FieldType) (p : Program) (R : Room) (s : State) (m : MethodId) (args : Array Value) (meth : Method) (c : Code) : Prop :=
  p.tables.exec = Jvm.exec ∧ c.code = cc ∧ c.maxLocals = nL ∧ s.vm.findClass own = some m.cls ∧ (∀ w ∈ am_T, w.before args s = true) ∧ meth.sig.returnType = ret ∧ meth.locks = false ∧ meth.name = nm ∧ am_K G s ∧ G.2.1 ≤ s.heap.size ∧ d ≤ R.frames ∧ 64 * d ≤ R.locals
/-- THE JUDGEMENT: the method, at pc with the locals L, the stack st and the memory M, does what X says, if X says something -/
def am_S {β : Type} (emb : β → Option Value × am_M) (G : am_G) (d : Nat) (own nm : String) (cc : ByteArray) (nL : Nat) (ret : Option FieldType) (pc : Nat) (L : List (Nat × Value)) (st : List Value) (M : am_M) (X : Option β) : Prop :=
  am_wt M → ∀ r : β, X = some r → am_le M (emb r).2 ∧ am_wt (emb r).2 ∧
    ∀ (p : Program) (e : Env) (R : Room) (s : State) (m : MethodId) (args : Array Value) (below : List Frame) (meth : Method) (c : Code) (H : Heap) (locs : List Loc) (cells slots : Nat) (ls : Array Slot),
      am_Z G d own nm cc nL ret p R s m args meth c → lv_has ls nL (am_Lc G.2.1 L) → am_H G M H → va_S (am_A G.2.1) s.heap H locs → s.heap.size + cells = G.2.1 + am_n M → cells + am_n (emb r).2 ≤ R.cells + am_n M → slots + am_sl (emb r).2 ≤ R.slots + am_sl M →
      W p G.1 e R s m args below meth c H locs cells slots (MQ below (am_Q G (emb r).1 (emb r).2) args s R.cells R.slots (am_A G.2.1)) (F0 m pc ls (st.map (am_c G.2.1)))
section AM1
variable {G : am_G} {d : Nat} {own nm : String} {cc : ByteArray} {nL : Nat} {ret : Option FieldType} {pc pc' : Nat} {L L' : List (Nat × Value)} {st st' : List Value} {M : am_M} {β : Type} {emb : β → Option Value × am_M} {X Y : Option β}
theorem am_none : am_S emb G d own nm cc nL ret pc L st M none := fun _ _ h => by cases h
theorem am_eq (h : X = Y) (k : am_S emb G d own nm cc nL ret pc L st M Y) : am_S emb G d own nm cc nL ret pc L st M X := h ▸ k
/-- only the locals and the stack move -/
theorem am_stepL (h : ∀ (p : Program) (e : Env) (R : Room) (s : State) (m : MethodId) (args : Array Value) (below : List Frame) (meth : Method) (c : Code) (H : Heap) (locs : List Loc) (cells slots : Nat) (ls : Array Slot) (Q : State → Prop),
      am_Z G d own nm cc nL ret p R s m args meth c → lv_has ls nL (am_Lc G.2.1 L) → (∀ ls' : Array Slot, lv_has ls' nL (am_Lc G.2.1 L') → W p G.1 e R s m args below meth c H locs cells slots Q (F0 m pc' ls' (st'.map (am_c G.2.1)))) → W p G.1 e R s m args below meth c H locs cells slots Q (F0 m pc ls (st.map (am_c G.2.1))))
    (k : am_S emb G d own nm cc nL ret pc' L' st' M X) : am_S emb G d own nm cc nL ret pc L st M X := by
  intro hwt r0 hX
  obtain ⟨hle, hw', hk⟩ := k hwt r0 hX
  refine ⟨hle, hw', ?_⟩
  intro p e R s m args below meth c H locs cells slots ls hZ hl hH hS hc h1 h2
  exact h p e R s m args below meth c H locs cells slots ls _ hZ hl (fun ls' hl' => hk p e R s m args below meth c H locs cells slots ls' hZ hl' hH hS hc h1 h2)
/-- only the stack moves -/
theorem am_step (h : ∀ (p : Program) (e : Env) (R : Room) (s : State) (m : MethodId) (args : Array Value) (below : List Frame) (meth : Method) (c : Code) (H : Heap) (locs : List Loc) (cells slots : Nat) (ls : Array Slot) (Q : State → Prop),
      am_Z G d own nm cc nL ret p R s m args meth c → lv_has ls nL (am_Lc G.2.1 L) → W p G.1 e R s m args below meth c H locs cells slots Q (F0 m pc' ls (st'.map (am_c G.2.1))) → W p G.1 e R s m args below meth c H locs cells slots Q (F0 m pc ls (st.map (am_c G.2.1))))
    (k : am_S emb G d own nm cc nL ret pc' L st' M X) : am_S emb G d own nm cc nL ret pc L st M X :=
  am_stepL (fun p e R s m args below meth c H locs cells slots ls Q hZ hl kk => h p e R s m args below meth c H locs cells slots ls Q hZ hl (kk ls hl)) k
/-- a test -/
theorem am_stepB {P : Prop} [Decidable P] {pt pf : Nat} (h : ∀ (p : Program) (e : Env) (R : Room) (s : State) (m : MethodId) (args : Array Value) (below : List Frame) (meth : Method) (c : Code) (H : Heap) (locs : List Loc) (cells slots : Nat) (ls : Array Slot) (Q : State → Prop),
      am_Z G d own nm cc nL ret p R s m args meth c → (P → W p G.1 e R s m args below meth c H locs cells slots Q (F0 m pt ls (st'.map (am_c G.2.1)))) → (¬ P → W p G.1 e R s m args below meth c H locs cells slots Q (F0 m pf ls (st'.map (am_c G.2.1)))) → W p G.1 e R s m args below meth c H locs cells slots Q (F0 m pc ls (st.map (am_c G.2.1))))
    (kt : P → am_S emb G d own nm cc nL ret pt L st' M X) (kf : ¬ P → am_S emb G d own nm cc nL ret pf L st' M Y) : am_S emb G d own nm cc nL ret pc L st M (if P then X else Y) := by
  intro hwt r0 hX
  by_cases hP : P
  · rw [if_pos hP] at hX
    obtain ⟨hle, hw', hk⟩ := kt hP hwt r0 hX
    refine ⟨hle, hw', ?_⟩
    intro p e R s m args below meth c H locs cells slots ls hZ hl hH hS hc h1 h2
    exact h p e R s m args below meth c H locs cells slots ls _ hZ (fun _ => hk p e R s m args below meth c H locs cells slots ls hZ hl hH hS hc h1 h2) (fun n => absurd hP n)
  · rw [if_neg hP] at hX
    obtain ⟨hle, hw', hk⟩ := kf hP hwt r0 hX
    refine ⟨hle, hw', ?_⟩
    intro p e R s m args below meth c H locs cells slots ls hZ hl hH hS hc h1 h2
    exact h p e R s m args below meth c H locs cells slots ls _ hZ (fun n => absurd n hP) (fun _ => hk p e R s m args below meth c H locs cells slots ls hZ hl hH hS hc h1 h2)
theorem am_Lat {b : Nat} {ls : Array Slot} (h : lv_has ls nL (am_Lc b L)) {k i : Nat} {v : Value} (hk : L[k]? = some (i, v)) : ls[i]? = some (.val (am_c b v)) :=
  lv_at h k (by show (L.map _)[k]? = _; rw [List.getElem?_map, hk]; rfl)
theorem am_Lset1 (b i : Nat) (v : Value) (L : List (Nat × Value)) : (i, am_c b v) :: (am_Lc b L).filter (fun q => !(q.1 == i) && !(q.1 + 1 == i && q.2.category == 2)) = am_Lc b ((i, v) :: L.filter (fun q => !(q.1 == i) && !(q.1 + 1 == i && q.2.category == 2))) := by
  simp only [am_Lc, List.map_cons, List.filter_map]
  congr 2
  apply List.filter_congr
  intro q _
  simp [am_c_cat]
theorem am_Lset2 (b i : Nat) (v : Value) (L : List (Nat × Value)) : (i, am_c b v) :: (am_Lc b L).filter (fun q => !(q.1 == i) && (!(q.1 == i + 1) && !(q.1 + 1 == i && q.2.category == 2))) = am_Lc b ((i, v) :: L.filter (fun q => !(q.1 == i) && (!(q.1 == i + 1) && !(q.1 + 1 == i && q.2.category == 2)))) := by
  simp only [am_Lc, List.map_cons, List.filter_map]
  congr 2
  apply List.filter_congr
  intro q _
  simp [am_c_cat]
/-- fewer locals -/
theorem am_sub (ks : List Nat) (h : lv_pick L ks = L') (k : am_S emb G d own nm cc nL ret pc L' st M X) : am_S emb G d own nm cc nL ret pc L st M X :=
  am_stepL (fun p e R s m args below meth c H locs cells slots ls Q hZ hl kk => kk ls (lv_sub hl ks (by
    subst h
    show (ks.filterMap fun k => (L.map _)[k]?) = (ks.filterMap fun k => L[k]?).map _
    rw [List.map_filterMap]
    congr 1
    funext k
    rw [List.getElem?_map]))) k
/-! ===== an instruction, a row ===== -/
theorem am_iconst {n : Int} {x : Int32} (hd : decode cc pc = .ok (.iconst n, 1)) (hv : Int32.ofInt n = x) (k : am_S emb G d own nm cc nL ret (pc + 1) L (.int x :: st) M X) : am_S emb G d own nm cc nL ret pc L st M X := am_step (fun p e R s m args below meth c H locs cells slots ls Q hZ hl kk => lv_iconst hZ.1 hZ.2.1 hd hv kk) k
theorem am_bipush {n : Int} {x : Int32} (hd : decode cc pc = .ok (.bipush n, 2)) (hv : (Int8.ofInt n).toInt32 = x) (k : am_S emb G d own nm cc nL ret (pc + 2) L (.int x :: st) M X) : am_S emb G d own nm cc nL ret pc L st M X := am_step (fun p e R s m args below meth c H locs cells slots ls Q hZ hl kk => lv_bipush hZ.1 hZ.2.1 hd hv kk) k
theorem am_sipush {n : Int} {x : Int32} (hd : decode cc pc = .ok (.sipush n, 3)) (hv : (Int16.ofInt n).toInt32 = x) (k : am_S emb G d own nm cc nL ret (pc + 3) L (.int x :: st) M X) : am_S emb G d own nm cc nL ret pc L st M X := am_step (fun p e R s m args below meth c H locs cells slots ls Q hZ hl kk => lv_sipush hZ.1 hZ.2.1 hd hv kk) k
theorem am_lconst {n : Fin 2} {x : Int64} (hd : decode cc pc = .ok (.lconst n, 1)) (hv : Int64.ofNat (n : Nat) = x) (k : am_S emb G d own nm cc nL ret (pc + 1) L (.long x :: st) M X) : am_S emb G d own nm cc nL ret pc L st M X := am_step (fun p e R s m args below meth c H locs cells slots ls Q hZ hl kk => lv_lconst hZ.1 hZ.2.1 hd hv kk) k
theorem am_ldc {i : Nat} {x : Int32} (hd : decode cc pc = .ok (.ldc i, 2)) (hw : .constant own i x ∈ am_T) (k : am_S emb G d own nm cc nL ret (pc + 2) L (.int x :: st) M X) : am_S emb G d own nm cc nL ret pc L st M X := am_step (fun p e R s m args below meth c H locs cells slots ls Q hZ hl kk => lv_ldc hZ.1 hZ.2.1 hZ.2.2.2.1 (hZ.2.2.2.2.1 _ hw) hd kk) k
theorem am_ldc2 {i : Nat} {x : Int64} (hd : decode cc pc = .ok (.ldc2_w i, 3)) (hw : .constantLong own i x ∈ am_T) (k : am_S emb G d own nm cc nL ret (pc + 3) L (.long x :: st) M X) : am_S emb G d own nm cc nL ret pc L st M X := am_step (fun p e R s m args below meth c H locs cells slots ls Q hZ hl kk => lv_ldc2 hZ.1 hZ.2.1 hZ.2.2.2.1 (hZ.2.2.2.2.1 _ hw) hd kk) k
theorem am_iload_n (j : Nat) {k : Fin 4} {i : Nat} {x : Int32} (hd : decode cc pc = .ok (.iload_n k, 1)) (hi : (k : Nat) = i) (hj : L[j]? = some (i, .int x)) (kk : am_S emb G d own nm cc nL ret (pc + 1) L (.int x :: st) M X) : am_S emb G d own nm cc nL ret pc L st M X := am_step (fun p e R s m args below meth c H locs cells slots ls Q hZ hl kk => lv_iload_n hZ.1 hZ.2.1 hd hi (am_Lat hl hj) kk) kk
theorem am_iload (j : Nat) {i : Nat} {x : Int32} (hd : decode cc pc = .ok (.iload i, 2)) (hj : L[j]? = some (i, .int x)) (kk : am_S emb G d own nm cc nL ret (pc + 2) L (.int x :: st) M X) : am_S emb G d own nm cc nL ret pc L st M X := am_step (fun p e R s m args below meth c H locs cells slots ls Q hZ hl kk => lv_iload hZ.1 hZ.2.1 hd (am_Lat hl hj) kk) kk
theorem am_lload_n (j : Nat) {k : Fin 4} {i : Nat} {x : Int64} (hd : decode cc pc = .ok (.lload_n k, 1)) (hi : (k : Nat) = i) (hj : L[j]? = some (i, .long x)) (kk : am_S emb G d own nm cc nL ret (pc + 1) L (.long x :: st) M X) : am_S emb G d own nm cc nL ret pc L st M X := am_step (fun p e R s m args below meth c H locs cells slots ls Q hZ hl kk => lv_lload_n hZ.1 hZ.2.1 hd hi (am_Lat hl hj) kk) kk
theorem am_aload_n (j : Nat) {k : Fin 4} {i : Nat} {x : Nat} (hd : decode cc pc = .ok (.aload_n k, 1)) (hi : (k : Nat) = i) (hj : L[j]? = some (i, .ref x)) (kk : am_S emb G d own nm cc nL ret (pc + 1) L (.ref x :: st) M X) : am_S emb G d own nm cc nL ret pc L st M X := am_step (fun p e R s m args below meth c H locs cells slots ls Q hZ hl kk => lv_aload_n hZ.1 hZ.2.1 hd hi (am_Lat hl hj) kk) kk
theorem am_aload (j : Nat) {i : Nat} {x : Nat} (hd : decode cc pc = .ok (.aload i, 2)) (hj : L[j]? = some (i, .ref x)) (kk : am_S emb G d own nm cc nL ret (pc + 2) L (.ref x :: st) M X) : am_S emb G d own nm cc nL ret pc L st M X := am_step (fun p e R s m args below meth c H locs cells slots ls Q hZ hl kk => lv_aload hZ.1 hZ.2.1 hd (am_Lat hl hj) kk) kk
theorem am_istore_n {k : Fin 4} {i : Nat} {x : Int32} (hd : decode cc pc = .ok (.istore_n k, 1)) (hi : (k : Nat) = i) (hn : i < nL) (hL : (i, Value.int x) :: L.filter (fun q => !(q.1 == i) && !(q.1 + 1 == i && q.2.category == 2)) = L') (kk : am_S emb G d own nm cc nL ret (pc + 1) L' st M X) : am_S emb G d own nm cc nL ret pc L (.int x :: st) M X := am_stepL (fun p e R s m args below meth c H locs cells slots ls Q hZ hl kk => lv_istore_n hZ.1 hZ.2.1 hd hi hl hn (by subst hL; exact am_Lset1 G.2.1 i (.int x) L) kk) kk
theorem am_istore {i : Nat} {x : Int32} (hd : decode cc pc = .ok (.istore i, 2)) (hn : i < nL) (hL : (i, Value.int x) :: L.filter (fun q => !(q.1 == i) && !(q.1 + 1 == i && q.2.category == 2)) = L') (kk : am_S emb G d own nm cc nL ret (pc + 2) L' st M X) : am_S emb G d own nm cc nL ret pc L (.int x :: st) M X := am_stepL (fun p e R s m args below meth c H locs cells slots ls Q hZ hl kk => lv_istore hZ.1 hZ.2.1 hd hl hn (by subst hL; exact am_Lset1 G.2.1 i (.int x) L) kk) kk
theorem am_astore_n {k : Fin 4} {i : Nat} {x : Nat} (hd : decode cc pc = .ok (.astore_n k, 1)) (hi : (k : Nat) = i) (hn : i < nL) (hL : (i, Value.ref x) :: L.filter (fun q => !(q.1 == i) && !(q.1 + 1 == i && q.2.category == 2)) = L') (kk : am_S emb G d own nm cc nL ret (pc + 1) L' st M X) : am_S emb G d own nm cc nL ret pc L (.ref x :: st) M X := am_stepL (fun p e R s m args below meth c H locs cells slots ls Q hZ hl kk => lv_astore_n hZ.1 hZ.2.1 hd hi hl hn (by subst hL; exact am_Lset1 G.2.1 i (.ref x) L) kk) kk
theorem am_astore {i : Nat} {x : Nat} (hd : decode cc pc = .ok (.astore i, 2)) (hn : i < nL) (hL : (i, Value.ref x) :: L.filter (fun q => !(q.1 == i) && !(q.1 + 1 == i && q.2.category == 2)) = L') (kk : am_S emb G d own nm cc nL ret (pc + 2) L' st M X) : am_S emb G d own nm cc nL ret pc L (.ref x :: st) M X := am_stepL (fun p e R s m args below meth c H locs cells slots ls Q hZ hl kk => lv_astore hZ.1 hZ.2.1 hd hl hn (by subst hL; exact am_Lset1 G.2.1 i (.ref x) L) kk) kk
theorem am_lstore_n {k : Fin 4} {i : Nat} {x : Int64} (hd : decode cc pc = .ok (.lstore_n k, 1)) (hi : (k : Nat) = i) (hn : i + 1 < nL) (hL : (i, Value.long x) :: L.filter (fun q => !(q.1 == i) && (!(q.1 == i + 1) && !(q.1 + 1 == i && q.2.category == 2))) = L') (kk : am_S emb G d own nm cc nL ret (pc + 1) L' st M X) : am_S emb G d own nm cc nL ret pc L (.long x :: st) M X := am_stepL (fun p e R s m args below meth c H locs cells slots ls Q hZ hl kk => lv_lstore_n hZ.1 hZ.2.1 hd hi hl hn (by subst hL; exact am_Lset2 G.2.1 i (.long x) L) kk) kk
theorem am_iinc (j : Nat) {i : Nat} {n : Int} {x y : Int32} (hd : decode cc pc = .ok (.iinc i n, 3)) (hj : L[j]? = some (i, .int x)) (hy : x + Int32.ofInt n = y) (hn : i < nL) (hL : (i, Value.int y) :: L.filter (fun q => !(q.1 == i) && !(q.1 + 1 == i && q.2.category == 2)) = L') (kk : am_S emb G d own nm cc nL ret (pc + 3) L' st M X) : am_S emb G d own nm cc nL ret pc L st M X := am_stepL (fun p e R s m args below meth c H locs cells slots ls Q hZ hl kk => lv_iinc (k := j) hZ.1 hZ.2.1 hd hl (by show (L.map _)[j]? = _; rw [List.getElem?_map, hj]; rfl) hy hn (by subst hL; exact am_Lset1 G.2.1 i (.int y) L) kk) kk
theorem am_iadd {x y : Int32} (hd : decode cc pc = .ok (.iadd, 1)) (k : am_S emb G d own nm cc nL ret (pc + 1) L (.int (x + y) :: st) M X) : am_S emb G d own nm cc nL ret pc L (.int y :: .int x :: st) M X := am_step (fun p e R s m args below meth c H locs cells slots ls Q hZ hl kk => lv_iadd hZ.1 hZ.2.1 hd kk) k
theorem am_isub {x y : Int32} (hd : decode cc pc = .ok (.isub, 1)) (k : am_S emb G d own nm cc nL ret (pc + 1) L (.int (x - y) :: st) M X) : am_S emb G d own nm cc nL ret pc L (.int y :: .int x :: st) M X := am_step (fun p e R s m args below meth c H locs cells slots ls Q hZ hl kk => lv_isub hZ.1 hZ.2.1 hd kk) k
theorem am_imul {x y : Int32} (hd : decode cc pc = .ok (.imul, 1)) (k : am_S emb G d own nm cc nL ret (pc + 1) L (.int (x * y) :: st) M X) : am_S emb G d own nm cc nL ret pc L (.int y :: .int x :: st) M X := am_step (fun p e R s m args below meth c H locs cells slots ls Q hZ hl kk => lv_imul hZ.1 hZ.2.1 hd kk) k
theorem am_iand {x y : Int32} (hd : decode cc pc = .ok (.iand, 1)) (k : am_S emb G d own nm cc nL ret (pc + 1) L (.int (x &&& y) :: st) M X) : am_S emb G d own nm cc nL ret pc L (.int y :: .int x :: st) M X := am_step (fun p e R s m args below meth c H locs cells slots ls Q hZ hl kk => lv_iand hZ.1 hZ.2.1 hd kk) k
theorem am_ior {x y : Int32} (hd : decode cc pc = .ok (.ior, 1)) (k : am_S emb G d own nm cc nL ret (pc + 1) L (.int (x ||| y) :: st) M X) : am_S emb G d own nm cc nL ret pc L (.int y :: .int x :: st) M X := am_step (fun p e R s m args below meth c H locs cells slots ls Q hZ hl kk => lv_ior hZ.1 hZ.2.1 hd kk) k
theorem am_ixor {x y : Int32} (hd : decode cc pc = .ok (.ixor, 1)) (k : am_S emb G d own nm cc nL ret (pc + 1) L (.int (x ^^^ y) :: st) M X) : am_S emb G d own nm cc nL ret pc L (.int y :: .int x :: st) M X := am_step (fun p e R s m args below meth c H locs cells slots ls Q hZ hl kk => lv_ixor hZ.1 hZ.2.1 hd kk) k
theorem am_ishl {x y : Int32} (hd : decode cc pc = .ok (.ishl, 1)) (k : am_S emb G d own nm cc nL ret (pc + 1) L (.int (x <<< (y &&& 31)) :: st) M X) : am_S emb G d own nm cc nL ret pc L (.int y :: .int x :: st) M X := am_step (fun p e R s m args below meth c H locs cells slots ls Q hZ hl kk => lv_ishl hZ.1 hZ.2.1 hd kk) k
theorem am_ishr {x y : Int32} (hd : decode cc pc = .ok (.ishr, 1)) (k : am_S emb G d own nm cc nL ret (pc + 1) L (.int (x >>> (y &&& 31)) :: st) M X) : am_S emb G d own nm cc nL ret pc L (.int y :: .int x :: st) M X := am_step (fun p e R s m args below meth c H locs cells slots ls Q hZ hl kk => lv_ishr hZ.1 hZ.2.1 hd kk) k
theorem am_ineg {x : Int32} (hd : decode cc pc = .ok (.ineg, 1)) (k : am_S emb G d own nm cc nL ret (pc + 1) L (.int (-x) :: st) M X) : am_S emb G d own nm cc nL ret pc L (.int x :: st) M X := am_step (fun p e R s m args below meth c H locs cells slots ls Q hZ hl kk => lv_ineg hZ.1 hZ.2.1 hd kk) k
theorem am_idiv {x y : Int32} (hd : decode cc pc = .ok (.idiv, 1)) (k : ¬ y = 0 → am_S emb G d own nm cc nL ret (pc + 1) L (.int (x / y) :: st) M X) : am_S emb G d own nm cc nL ret pc L (.int y :: .int x :: st) M (if y = 0 then none else X) := by
  by_cases h : y = 0
  · rw [if_pos h]; exact am_none
  · rw [if_neg h]; exact am_step (fun p e R s m args below meth c H locs cells slots ls Q hZ hl kk => lv_idiv hZ.1 hZ.2.1 hd h kk) (k h)
theorem am_irem {x y : Int32} (hd : decode cc pc = .ok (.irem, 1)) (k : ¬ y = 0 → am_S emb G d own nm cc nL ret (pc + 1) L (.int (x - x / y * y) :: st) M X) : am_S emb G d own nm cc nL ret pc L (.int y :: .int x :: st) M (if y = 0 then none else X) := by
  by_cases h : y = 0
  · rw [if_pos h]; exact am_none
  · rw [if_neg h]; exact am_step (fun p e R s m args below meth c H locs cells slots ls Q hZ hl kk => lv_irem hZ.1 hZ.2.1 hd h kk) (k h)
theorem am_ladd {x y : Int64} (hd : decode cc pc = .ok (.ladd, 1)) (k : am_S emb G d own nm cc nL ret (pc + 1) L (.long (x + y) :: st) M X) : am_S emb G d own nm cc nL ret pc L (.long y :: .long x :: st) M X := am_step (fun p e R s m args below meth c H locs cells slots ls Q hZ hl kk => lv_ladd hZ.1 hZ.2.1 hd kk) k
theorem am_lsub {x y : Int64} (hd : decode cc pc = .ok (.lsub, 1)) (k : am_S emb G d own nm cc nL ret (pc + 1) L (.long (x - y) :: st) M X) : am_S emb G d own nm cc nL ret pc L (.long y :: .long x :: st) M X := am_step (fun p e R s m args below meth c H locs cells slots ls Q hZ hl kk => lv_lsub hZ.1 hZ.2.1 hd kk) k
theorem am_lmul {x y : Int64} (hd : decode cc pc = .ok (.lmul, 1)) (k : am_S emb G d own nm cc nL ret (pc + 1) L (.long (x * y) :: st) M X) : am_S emb G d own nm cc nL ret pc L (.long y :: .long x :: st) M X := am_step (fun p e R s m args below meth c H locs cells slots ls Q hZ hl kk => lv_lmul hZ.1 hZ.2.1 hd kk) k
theorem am_land {x y : Int64} (hd : decode cc pc = .ok (.land, 1)) (k : am_S emb G d own nm cc nL ret (pc + 1) L (.long (x &&& y) :: st) M X) : am_S emb G d own nm cc nL ret pc L (.long y :: .long x :: st) M X := am_step (fun p e R s m args below meth c H locs cells slots ls Q hZ hl kk => lv_land hZ.1 hZ.2.1 hd kk) k
theorem am_lor {x y : Int64} (hd : decode cc pc = .ok (.lor, 1)) (k : am_S emb G d own nm cc nL ret (pc + 1) L (.long (x ||| y) :: st) M X) : am_S emb G d own nm cc nL ret pc L (.long y :: .long x :: st) M X := am_step (fun p e R s m args below meth c H locs cells slots ls Q hZ hl kk => lv_lor hZ.1 hZ.2.1 hd kk) k
theorem am_lxor {x y : Int64} (hd : decode cc pc = .ok (.lxor, 1)) (k : am_S emb G d own nm cc nL ret (pc + 1) L (.long (x ^^^ y) :: st) M X) : am_S emb G d own nm cc nL ret pc L (.long y :: .long x :: st) M X := am_step (fun p e R s m args below meth c H locs cells slots ls Q hZ hl kk => lv_lxor hZ.1 hZ.2.1 hd kk) k
theorem am_lushr {x : Int64} {y : Int32} (hd : decode cc pc = .ok (.lushr, 1)) (k : am_S emb G d own nm cc nL ret (pc + 1) L (.long ((x.toUInt64 >>> (y.toInt64.toUInt64 &&& Int64.toUInt64 63)).toInt64) :: st) M X) : am_S emb G d own nm cc nL ret pc L (.int y :: .long x :: st) M X := am_step (fun p e R s m args below meth c H locs cells slots ls Q hZ hl kk => lv_lushr hZ.1 hZ.2.1 hd rfl kk) k
theorem am_lshl {x : Int64} {y : Int32} (hd : decode cc pc = .ok (.lshl, 1)) (k : am_S emb G d own nm cc nL ret (pc + 1) L (.long (x <<< (y.toInt64 &&& 63)) :: st) M X) : am_S emb G d own nm cc nL ret pc L (.int y :: .long x :: st) M X := am_step (fun p e R s m args below meth c H locs cells slots ls Q hZ hl kk => lv_lshl hZ.1 hZ.2.1 hd rfl kk) k
theorem am_l2i {x : Int64} (hd : decode cc pc = .ok (.l2i, 1)) (k : am_S emb G d own nm cc nL ret (pc + 1) L (.int x.toInt32 :: st) M X) : am_S emb G d own nm cc nL ret pc L (.long x :: st) M X := am_step (fun p e R s m args below meth c H locs cells slots ls Q hZ hl kk => lv_l2i hZ.1 hZ.2.1 hd rfl kk) k
theorem am_i2c {x : Int32} (hd : decode cc pc = .ok (.i2c, 1)) (k : am_S emb G d own nm cc nL ret (pc + 1) L (.int (x.toUInt32 % 65536).toInt32 :: st) M X) : am_S emb G d own nm cc nL ret pc L (.int x :: st) M X := am_step (fun p e R s m args below meth c H locs cells slots ls Q hZ hl kk => lv_i2c hZ.1 hZ.2.1 hd rfl kk) k
theorem am_lcmp {x y : Int64} (hd : decode cc pc = .ok (.lcmp, 1)) (k : am_S emb G d own nm cc nL ret (pc + 1) L (.int (lg_cmp x y) :: st) M X) : am_S emb G d own nm cc nL ret pc L (.long y :: .long x :: st) M X := am_step (fun p e R s m args below meth c H locs cells slots ls Q hZ hl kk => W.lcmp hZ.1 hZ.2.1 hd kk) k
theorem am_dup {a : Value} (hd : decode cc pc = .ok (.dup, 1)) (ha : a.category = 1) (k : am_S emb G d own nm cc nL ret (pc + 1) L (a :: a :: st) M X) : am_S emb G d own nm cc nL ret pc L (a :: st) M X := am_step (fun p e R s m args below meth c H locs cells slots ls Q hZ hl kk => lv_dup hZ.1 hZ.2.1 hd (by rw [am_c_cat]; exact ha) kk) k
theorem am_dup2 {a b : Value} (hd : decode cc pc = .ok (.dup2, 1)) (ha : a.category = 1) (hb : b.category = 1) (k : am_S emb G d own nm cc nL ret (pc + 1) L (a :: b :: a :: b :: st) M X) : am_S emb G d own nm cc nL ret pc L (a :: b :: st) M X := am_step (fun p e R s m args below meth c H locs cells slots ls Q hZ hl kk => lv_dup2_11 hZ.1 hZ.2.1 hd (by rw [am_c_cat]; exact ha) (by rw [am_c_cat]; exact hb) kk) k
theorem am_pop {a : Value} (hd : decode cc pc = .ok (.pop, 1)) (ha : a.category = 1) (k : am_S emb G d own nm cc nL ret (pc + 1) L st M X) : am_S emb G d own nm cc nL ret pc L (a :: st) M X := am_step (fun p e R s m args below meth c H locs cells slots ls Q hZ hl kk => lv_pop hZ.1 hZ.2.1 hd (by rw [am_c_cat]; exact ha) kk) k
theorem am_goto {off : Int} {tgt : Nat} (hd : decode cc pc = .ok (.goto off, 3)) (ht : (pc : Int) + off = (tgt : Int)) (k : am_S emb G d own nm cc nL ret tgt L st M X) : am_S emb G d own nm cc nL ret pc L st M X := am_step (fun p e R s m args below meth c H locs cells slots ls Q hZ hl kk => lv_goto hZ.1 hZ.2.1 hd ht kk) k
theorem am_if_eq {x : Int32} {off : Int} {tgt : Nat} (hd : decode cc pc = .ok (.ifCond .eq off, 3)) (ht : (pc : Int) + off = (tgt : Int)) (kt : x = 0 → am_S emb G d own nm cc nL ret tgt L st M X) (kf : ¬ x = 0 → am_S emb G d own nm cc nL ret (pc + 3) L st M Y) : am_S emb G d own nm cc nL ret pc L (.int x :: st) M (if x = 0 then X else Y) := am_stepB (fun p e R s m args below meth c H locs cells slots ls Q hZ kt kf => lv_if_eq hZ.1 hZ.2.1 hd ht kt kf) kt kf
theorem am_icmp_eq {x y : Int32} {off : Int} {tgt : Nat} (hd : decode cc pc = .ok (.if_icmp .eq off, 3)) (ht : (pc : Int) + off = (tgt : Int)) (kt : x = y → am_S emb G d own nm cc nL ret tgt L st M X) (kf : ¬ x = y → am_S emb G d own nm cc nL ret (pc + 3) L st M Y) : am_S emb G d own nm cc nL ret pc L (.int y :: .int x :: st) M (if x = y then X else Y) := am_stepB (fun p e R s m args below meth c H locs cells slots ls Q hZ kt kf => lv_icmp_eq hZ.1 hZ.2.1 hd ht kt kf) kt kf
theorem am_if_ne {x : Int32} {off : Int} {tgt : Nat} (hd : decode cc pc = .ok (.ifCond .ne off, 3)) (ht : (pc : Int) + off = (tgt : Int)) (kt : ¬ x = 0 → am_S emb G d own nm cc nL ret tgt L st M X) (kf : x = 0 → am_S emb G d own nm cc nL ret (pc + 3) L st M Y) : am_S emb G d own nm cc nL ret pc L (.int x :: st) M (if x = 0 then Y else X) := am_stepB (fun p e R s m args below meth c H locs cells slots ls Q hZ kt kf => lv_if_ne hZ.1 hZ.2.1 hd ht kf kt) kf kt
theorem am_icmp_ne {x y : Int32} {off : Int} {tgt : Nat} (hd : decode cc pc = .ok (.if_icmp .ne off, 3)) (ht : (pc : Int) + off = (tgt : Int)) (kt : ¬ x = y → am_S emb G d own nm cc nL ret tgt L st M X) (kf : x = y → am_S emb G d own nm cc nL ret (pc + 3) L st M Y) : am_S emb G d own nm cc nL ret pc L (.int y :: .int x :: st) M (if x = y then Y else X) := am_stepB (fun p e R s m args below meth c H locs cells slots ls Q hZ kt kf => lv_icmp_ne hZ.1 hZ.2.1 hd ht kf kt) kf kt
theorem am_if_lt {x : Int32} {off : Int} {tgt : Nat} (hd : decode cc pc = .ok (.ifCond .lt off, 3)) (ht : (pc : Int) + off = (tgt : Int)) (kt : x < 0 → am_S emb G d own nm cc nL ret tgt L st M X) (kf : ¬ x < 0 → am_S emb G d own nm cc nL ret (pc + 3) L st M Y) : am_S emb G d own nm cc nL ret pc L (.int x :: st) M (if x < 0 then X else Y) := am_stepB (fun p e R s m args below meth c H locs cells slots ls Q hZ kt kf => lv_if_lt hZ.1 hZ.2.1 hd ht kt kf) kt kf
theorem am_icmp_lt {x y : Int32} {off : Int} {tgt : Nat} (hd : decode cc pc = .ok (.if_icmp .lt off, 3)) (ht : (pc : Int) + off = (tgt : Int)) (kt : x < y → am_S emb G d own nm cc nL ret tgt L st M X) (kf : ¬ x < y → am_S emb G d own nm cc nL ret (pc + 3) L st M Y) : am_S emb G d own nm cc nL ret pc L (.int y :: .int x :: st) M (if x < y then X else Y) := am_stepB (fun p e R s m args below meth c H locs cells slots ls Q hZ kt kf => lv_icmp_lt hZ.1 hZ.2.1 hd ht kt kf) kt kf
theorem am_if_ge {x : Int32} {off : Int} {tgt : Nat} (hd : decode cc pc = .ok (.ifCond .ge off, 3)) (ht : (pc : Int) + off = (tgt : Int)) (kt : 0 ≤ x → am_S emb G d own nm cc nL ret tgt L st M X) (kf : ¬ 0 ≤ x → am_S emb G d own nm cc nL ret (pc + 3) L st M Y) : am_S emb G d own nm cc nL ret pc L (.int x :: st) M (if 0 ≤ x then X else Y) := am_stepB (fun p e R s m args below meth c H locs cells slots ls Q hZ kt kf => lv_if_ge hZ.1 hZ.2.1 hd ht kt kf) kt kf
theorem am_icmp_ge {x y : Int32} {off : Int} {tgt : Nat} (hd : decode cc pc = .ok (.if_icmp .ge off, 3)) (ht : (pc : Int) + off = (tgt : Int)) (kt : y ≤ x → am_S emb G d own nm cc nL ret tgt L st M X) (kf : ¬ y ≤ x → am_S emb G d own nm cc nL ret (pc + 3) L st M Y) : am_S emb G d own nm cc nL ret pc L (.int y :: .int x :: st) M (if y ≤ x then X else Y) := am_stepB (fun p e R s m args below meth c H locs cells slots ls Q hZ kt kf => lv_icmp_ge hZ.1 hZ.2.1 hd ht kt kf) kt kf
theorem am_if_gt {x : Int32} {off : Int} {tgt : Nat} (hd : decode cc pc = .ok (.ifCond .gt off, 3)) (ht : (pc : Int) + off = (tgt : Int)) (kt : 0 < x → am_S emb G d own nm cc nL ret tgt L st M X) (kf : ¬ 0 < x → am_S emb G d own nm cc nL ret (pc + 3) L st M Y) : am_S emb G d own nm cc nL ret pc L (.int x :: st) M (if 0 < x then X else Y) := am_stepB (fun p e R s m args below meth c H locs cells slots ls Q hZ kt kf => lv_if_gt hZ.1 hZ.2.1 hd ht kt kf) kt kf
theorem am_icmp_gt {x y : Int32} {off : Int} {tgt : Nat} (hd : decode cc pc = .ok (.if_icmp .gt off, 3)) (ht : (pc : Int) + off = (tgt : Int)) (kt : y < x → am_S emb G d own nm cc nL ret tgt L st M X) (kf : ¬ y < x → am_S emb G d own nm cc nL ret (pc + 3) L st M Y) : am_S emb G d own nm cc nL ret pc L (.int y :: .int x :: st) M (if y < x then X else Y) := am_stepB (fun p e R s m args below meth c H locs cells slots ls Q hZ kt kf => lv_icmp_gt hZ.1 hZ.2.1 hd ht kt kf) kt kf
theorem am_if_le {x : Int32} {off : Int} {tgt : Nat} (hd : decode cc pc = .ok (.ifCond .le off, 3)) (ht : (pc : Int) + off = (tgt : Int)) (kt : x ≤ 0 → am_S emb G d own nm cc nL ret tgt L st M X) (kf : ¬ x ≤ 0 → am_S emb G d own nm cc nL ret (pc + 3) L st M Y) : am_S emb G d own nm cc nL ret pc L (.int x :: st) M (if x ≤ 0 then X else Y) := am_stepB (fun p e R s m args below meth c H locs cells slots ls Q hZ kt kf => lv_if_le hZ.1 hZ.2.1 hd ht kt kf) kt kf
theorem am_icmp_le {x y : Int32} {off : Int} {tgt : Nat} (hd : decode cc pc = .ok (.if_icmp .le off, 3)) (ht : (pc : Int) + off = (tgt : Int)) (kt : x ≤ y → am_S emb G d own nm cc nL ret tgt L st M X) (kf : ¬ x ≤ y → am_S emb G d own nm cc nL ret (pc + 3) L st M Y) : am_S emb G d own nm cc nL ret pc L (.int y :: .int x :: st) M (if x ≤ y then X else Y) := am_stepB (fun p e R s m args below meth c H locs cells slots ls Q hZ kt kf => lv_icmp_le hZ.1 hZ.2.1 hd ht kt kf) kt kf
end AM1
