/-! ===== words: what the tables say of fields and calls ===== -/
abbrev zM : Type := MethodName × ByteArray × Nat × Option FieldType
def zT : List Cond := lw_tbl.filter goodWord
def zcl : List vw_C := [(RX0, TX0, 5), (RX1, TX1, 15), (RX2, TX2, 3), (RX3, TX3, 9), (RX4, TX4, 7), (RX5, TX5, 7), (RX6, TX6, 12), (RX7, TX7, 4), (RX8, TX8, 5), (RX9, TX9, 13), (RX10, TX10, 7), (RX11, TX11, 14), (RX12, TX12, 103)]
/-- entry idx of class own's pool is the field number kf of class ci -/
def zFld (own : String) (idx ci kf : Nat) : Prop := ∃ (C : String) (T : u_T) (N : Nat), zcl[ci]? = some (C, T, N) ∧ kf < N ∧ (∀ x ∈ u_ws C T N, x ∈ zT) ∧ (T kf).1 = C ∧ Cond.fieldLink own idx C (T kf).2.1 (T kf).2.2.1 ∈ zT
def zFty (ci kf : Nat) (ty : FieldType) (fin : Bool) : Prop := ∀ (C : String) (T : u_T) (N : Nat), zcl[ci]? = some (C, T, N) → (T kf).2.2.2 = fin ∧ parseFieldDescriptor (T kf).2.2.1 = some ty ∧ (∃ ty0 : Nat → FieldType, ∀ j, j < N → parseFieldDescriptor (T j).2.2.1 = some (ty0 j)) ∧ ∀ a, a < N → ∀ b, b < N → a ≠ b → (T a).2.1 ≠ (T b).2.1
theorem zGood : ∀ x ∈ zT, (x.onTables && x.keeps) = true ∨ ∃ ty, x = .arrayClass ty := fun x hx => good_of_word (List.mem_filter.mp hx).2
/-- what a call asks of the words, whatever its kind -/
def zCB (own : String) (idx : Nat) (k : zM) (n : Nat) : Prop := Cond.methodLink own idx k.1 ∈ zT ∧ Cond.initialized k.1.cls ∈ zT ∧ Cond.code k.1 k.2.1 k.2.2.1 k.2.2.2 ∈ zT ∧ (k.1.cls ≠ "java/lang/invoke/MethodHandle" ∧ k.1.cls ≠ "java/lang/invoke/VarHandle" ∧ (parseMethodDescriptor k.1.desc).map (fun d => d.parameters.length) = some n) ∧ k.2.2.1 ≤ 45
def zCV (own : String) (idx : Nat) (k : zM) (n : Nat) : Prop := zCB own idx k n ∧ Cond.instanceMethod k.1 ∈ zT ∧ Cond.selects k.1.cls k.1 k.1 ∈ zT
def zCS (own : String) (idx : Nat) (k : zM) (n : Nat) : Prop := zCB own idx k n ∧ Cond.static k.1 ∈ zT
def zCI (own : String) (idx : Nat) (k : zM) (n : Nat) : Prop := zCB own idx k n ∧ Cond.instanceMethod k.1 ∈ zT ∧ k.1.name = "<init>" ∧ k.2.2.2 = none
/-! words by their places -/
theorem zT_of {c : Cond} (i : Nat) (h : tables_1[i]? = some c) (hg : goodWord c = true) : c ∈ zT := List.mem_filter.mpr ⟨List.mem_append_right _ (List.mem_of_getElem? h), hg⟩
theorem zT_sel {q : MethodName × Nat} (i : Nat) (h : lw_privs[i]? = some q) (hg : goodWord (Cond.selects q.1.cls q.1 q.1) = true) : Cond.selects q.1.cls q.1 q.1 ∈ zT := List.mem_filter.mpr ⟨List.mem_append_left _ (List.mem_map.mpr ⟨q, List.mem_of_getElem? h, rfl⟩), hg⟩
theorem zT_list {ws : List Cond} (ps : List Nat) (hp : ws = ps.filterMap (fun i => tables_1[i]?)) (hg : ws.all goodWord = true) : ∀ x ∈ ws, x ∈ zT := by
  intro x hx
  have h1 := List.all_eq_true.mp hg x hx
  rw [hp] at hx
  obtain ⟨i, -, hi⟩ := List.mem_filterMap.mp hx
  exact zT_of i hi h1
/-- a cell's kind: an object (class, component, number in it, its fields' kinds) or an array (kind, component, number, by the component's own length or of a given one) -/
abbrev zD : Type := (Nat × Nat × Nat × List (Nat × Nat)) ⊕ (Nat × Nat × Nat × Nat × Nat)
def zcr : zD → Nat × Nat
  | .inl o => (o.2.1, o.2.2.1)
  | .inr a => (a.2.1, a.2.2.1)
def zok (ds : List zD) : Prop := ∀ (i j : Nat) (p q : zD), ds[i]? = some p → ds[j]? = some q → zcr p = zcr q → i = j
theorem zok_of {ds : List zD} (h : va_nd (ds.map fun d => (zcr d).1 * 1000 + (zcr d).2) = true) : zok ds := by
  intro i j p q hi hj he
  refine va_nd_inj _ h i j ((zcr p).1 * 1000 + (zcr p).2) ?_ ?_
  · rw [List.getElem?_map, hi]; rfl
  · rw [List.getElem?_map, hj, he]; rfl
