/-! ===== E's: levels of brackets, what the class works out against what lies on the reference's pile ===== -/
/-- a level: is there a sum so far, is a term taken from it, is there a product so far -/
abbrev r_X : Type := Bool × Bool × Bool
abbrev r_Y : Type := Int32 × Int32
def r_seg (x : r_X) : List Nat := (if x.2.2 = true then [11] else []) ++ (if x.1 = true then (if x.2.1 = true then [10] else [9]) else if x.2.1 = true then [3] else [])
def r_wo : List r_X → List Nat
  | [] => []
  | x :: l => 7 :: (r_seg x ++ r_wo l)
def r_pt (x : r_X) (v : r_Y) : List Int32 := (if x.2.2 = true then [v.2] else []) ++ (if x.1 = true then [v.1] else [])
def r_pile : List r_X → List r_Y → List Int32
  | x :: l, v :: vs => r_pt x v ++ r_pile l vs
  | _, _ => []
def r_s (x : r_X) (v : r_Y) : Int32 := if x.1 = true then v.1 else 0
def r_t (x : r_X) (v : r_Y) : Int32 := (if x.2.1 = true then -1 else 1) * (if x.2.2 = true then v.2 else 1)
def r_fo : List r_X → List r_Y → (Nat → Int32) → (Nat → Int32) → Prop
  | x :: l, v :: vs, f3, f4 => f3 l.length = r_s x v ∧ f4 l.length = r_t x v ∧ r_fo l vs f3 f4
  | [], [], _, _ => True
  | _, _, _, _ => False
theorem r_fo_upd {f3 f4 : Nat → Int32} {n : Nat} {a c : Int32} : ∀ (l : List r_X) (vs : List r_Y), l.length ≤ n → r_fo l vs f3 f4 → r_fo l vs (upd f3 n a) (upd f4 n c) := by
  intro l
  induction l with
  | nil => intro vs _ h; cases vs with
    | nil => exact h
    | cons v vs => exact h
  | cons x l ih =>
    intro vs hn h
    cases vs with
    | nil => exact h
    | cons v vs =>
      have hn : l.length + 1 ≤ n := hn
      obtain ⟨h1, h2, h3⟩ := h
      refine ⟨?_, ?_, ih vs (by omega) h3⟩
      · rw [y_upd, if_neg (by omega)]; exact h1
      · rw [y_upd, if_neg (by omega)]; exact h2
theorem r_fo_len {f3 f4 : Nat → Int32} : ∀ (l : List r_X) (vs : List r_Y), r_fo l vs f3 f4 → vs.length = l.length := by
  intro l
  induction l with
  | nil => intro vs h; cases vs with
    | nil => rfl
    | cons v vs => exact absurd h id
  | cons x l ih => intro vs h; cases vs with
    | nil => exact absurd h id
    | cons v vs => rw [List.length_cons, List.length_cons, ih vs h.2.2]
theorem r_pile_len : ∀ (l : List r_X) (vs : List r_Y), (r_pile l vs).length ≤ 2 * l.length := by
  intro l
  induction l with
  | nil => intro vs; exact Nat.zero_le _
  | cons x l ih =>
    intro vs
    cases vs with
    | nil => exact Nat.zero_le _
    | cons v vs =>
      have := ih vs
      have h2 : (r_pt x v).length ≤ 2 := by
        obtain ⟨a, c, d⟩ := x
        unfold r_pt
        cases a <;> cases d <;> simp
      show (r_pt x v ++ r_pile l vs).length ≤ 2 * (l.length + 1)
      rw [List.length_append]
      omega
theorem r_seg_len (x : r_X) : (r_seg x).length ≤ 2 := by
  obtain ⟨a, c, d⟩ := x
  cases a <;> cases c <;> cases d <;> decide
theorem r_wo_len : ∀ l, (r_wo l).length ≤ 3 * l.length := by
  intro l
  induction l with
  | nil => exact Nat.zero_le _
  | cons x l ih =>
    have := r_seg_len x
    show (r_seg x ++ r_wo l).length + 1 ≤ 3 * (l.length + 1)
    rw [List.length_append]
    omega
/-- what stays when all of a level comes out -/
theorem r_pop_wo (tm : Bool) (l : List r_X) : r_pop tm (r_wo l) = ([], r_wo l) := by
  cases l with
  | nil => rfl
  | cons x l => rfl
def r_all (x : r_X) : List Nat := (if x.2.2 = true then [6] else []) ++ (if x.1 = true then (if x.2.1 = true then [5] else [4]) else if x.2.1 = true then [7] else [])
theorem r_pop_all (x : r_X) (l : List r_X) : r_pop false (r_seg x ++ r_wo l) = (r_all x, r_wo l) := by
  have h := r_pop_wo false l
  obtain ⟨a, c, d⟩ := x
  cases a <;> cases c <;> cases d <;> simp [r_seg, r_all, r_pop, h, r_op]
theorem r_pop_times (x : r_X) (l : List r_X) : r_pop true (r_seg x ++ r_wo l) = ((if x.2.2 = true then [6] else []), r_seg (x.1, x.2.1, false) ++ r_wo l) := by
  have h := r_pop_wo true l
  obtain ⟨a, c, d⟩ := x
  cases a <;> cases c <;> cases d <;> simp [r_seg, r_pop, h, r_op]
theorem r_run_4 {vars : Nat → Int32} {left ip a c : Int32} {st : List Int32} : r_m1 (nI 4) 0 vars left ip (c :: a :: st) = some ((a + c) :: st) := rfl
theorem r_run_5 {vars : Nat → Int32} {left ip a c : Int32} {st : List Int32} : r_m1 (nI 5) 0 vars left ip (c :: a :: st) = some ((a - c) :: st) := rfl
theorem r_run_6 {vars : Nat → Int32} {left ip a c : Int32} {st : List Int32} : r_m1 (nI 6) 0 vars left ip (c :: a :: st) = some ((a * c) :: st) := rfl
theorem r_run_7 {vars : Nat → Int32} {left ip c : Int32} {st : List Int32} : r_m1 (nI 7) 0 vars left ip (c :: st) = some ((-c) :: st) := rfl
theorem r_ring (a p u : Int32) : 0 + (1 * 1) * u = u ∧ 0 + (1 * p) * u = p * u ∧ 0 + (-1 * 1) * u = -u ∧ 0 + (-1 * p) * u = -(p * u) ∧ a + (1 * 1) * u = a + u ∧ a + (1 * p) * u = a + p * u ∧ a + (-1 * 1) * u = a - u ∧ a + (-1 * p) * u = a - p * u := by
  refine ⟨?_, ?_, ?_, ?_, ?_, ?_, ?_, ?_⟩ <;> grind
theorem r_run_all {vars : Nat → Int32} {left ip u : Int32} {st : List Int32} (x : r_X) (v : r_Y) : r_run vars left ip (r_all x) (u :: (r_pt x v ++ st)) = some ((r_s x v + r_t x v * u) :: st) := by
  obtain ⟨a, c, d⟩ := x
  obtain ⟨e1, e2, e3, e4, e5, e6, e7, e8⟩ := r_ring v.1 v.2 u
  cases a <;> cases c <;> cases d
  · show some (u :: st) = some ((0 + (1 * 1) * u) :: st); rw [e1]
  · show some ((v.2 * u) :: st) = some ((0 + (1 * v.2) * u) :: st); rw [e2]
  · show some ((-u) :: st) = some ((0 + (-1 * 1) * u) :: st); rw [e3]
  · show some ((-(v.2 * u)) :: st) = some ((0 + (-1 * v.2) * u) :: st); rw [e4]
  · show some ((v.1 + u) :: st) = some ((v.1 + (1 * 1) * u) :: st); rw [e5]
  · show some ((v.1 + v.2 * u) :: st) = some ((v.1 + (1 * v.2) * u) :: st); rw [e6]
  · show some ((v.1 - u) :: st) = some ((v.1 + (-1 * 1) * u) :: st); rw [e7]
  · show some ((v.1 - v.2 * u) :: st) = some ((v.1 + (-1 * v.2) * u) :: st); rw [e8]
/-- a product goes on -/
theorem r_run_times {vars : Nat → Int32} {left ip u : Int32} {st : List Int32} (x : r_X) (v : r_Y) : ∃ v' : r_Y, r_run vars left ip (if x.2.2 = true then [6] else []) (u :: (r_pt x v ++ st)) = some (r_pt (x.1, x.2.1, true) v' ++ st) ∧ r_s (x.1, x.2.1, true) v' = r_s x v ∧ r_t (x.1, x.2.1, true) v' = r_t x v * u := by
  obtain ⟨a, c, d⟩ := x
  have r1 : ∀ p u : Int32, (1 : Int32) * (p * u) = 1 * p * u ∧ (-1 : Int32) * (p * u) = -1 * p * u ∧ (1 : Int32) * u = 1 * 1 * u ∧ (-1 : Int32) * u = -1 * 1 * u := by
    intro p u
    refine ⟨?_, ?_, ?_, ?_⟩ <;> grind
  obtain ⟨e1, e2, e3, e4⟩ := r1 v.2 u
  cases d
  · refine ⟨(v.1, u), ?_, rfl, ?_⟩
    · cases a <;> rfl
    · cases c
      · exact e3
      · exact e4
  · refine ⟨(v.1, v.2 * u), ?_, rfl, ?_⟩
    · cases a <;> rfl
    · cases c
      · exact e1
      · exact e2
/-! the class's E's, token by token -/
section
variable {b : Nat → Nat} {L E : Nat} {T : zV}
/-- a table whose rules' tokens are those of the text ahead of token E -/
def r_TT (b : Nat → Nat) (L E : Nat) (T : zV) : Prop := ∀ i, i < E → i < y_sz T ∧ y_K T i = nI (r_tK b L i) ∧ (r_tK b L i = 27 ∨ r_tK b L i = 28 → y_N T i = nI (r_nu b L E i))
theorem r_Wk (hT : r_TT b L E T) {i : Nat} (hi : i < E) {vars : Nat → Int32} {left ip : Int32} {n o : Nat} {f3 f4 : Nat → Int32} {s t fr : Int32} : y_W T vars left ip (n + 1) o f3 f4 s t fr i =
    if r_tK b L i = 32 ∧ o < 6 then y_W T vars left ip n (o + 1) (upd f3 o s) (upd f4 o t) 0 1 1 (i + 1)
    else if r_tK b L i = 33 ∧ 0 < o then y_W T vars left ip n (o - 1) f3 f4 (f3 (o - 1)) (f4 (o - 1) * (s + t)) fr (i + 1)
    else if r_tK b L i = 34 ∨ r_tK b L i = 35 then y_W T vars left ip n o f3 f4 (s + (if fr = 0 then t else 0)) (if r_tK b L i = 34 then 1 else -1) fr (i + 1)
    else if r_tK b L i = 28 ∨ r_tK b L i = 27 ∨ r_tK b L i = 25 ∨ r_tK b L i = 26 then y_W T vars left ip n o f3 f4 s (t * y_unit vars left ip (nI (r_tK b L i)) (y_N T i)) 0 (i + 1)
    else if r_tK b L i = 36 then y_W T vars left ip n o f3 f4 s t fr (i + 1)
    else some (s + t, i) := by
  obtain ⟨h1, h2, -⟩ := hT i hi
  have kle := r_tK_le (b := b) (L := L) i
  have e : ∀ a : Nat, a ≤ 42 → ((nI (r_tK b L i) = nI a) ↔ r_tK b L i = a) := fun a ha => nI_eq (by omega) (by omega)
  have e32 : (nI (r_tK b L i) = (32 : Int32)) ↔ r_tK b L i = 32 := e 32 (by decide)
  have e33 : (nI (r_tK b L i) = (33 : Int32)) ↔ r_tK b L i = 33 := e 33 (by decide)
  have e34 : (nI (r_tK b L i) = (34 : Int32)) ↔ r_tK b L i = 34 := e 34 (by decide)
  have e35 : (nI (r_tK b L i) = (35 : Int32)) ↔ r_tK b L i = 35 := e 35 (by decide)
  have e36 : (nI (r_tK b L i) = (36 : Int32)) ↔ r_tK b L i = 36 := e 36 (by decide)
  have e25 : (nI (r_tK b L i) = (25 : Int32)) ↔ r_tK b L i = 25 := e 25 (by decide)
  have e26 : (nI (r_tK b L i) = (26 : Int32)) ↔ r_tK b L i = 26 := e 26 (by decide)
  have e27 : (nI (r_tK b L i) = (27 : Int32)) ↔ r_tK b L i = 27 := e 27 (by decide)
  have e28 : (nI (r_tK b L i) = (28 : Int32)) ↔ r_tK b L i = 28 := e 28 (by decide)
  rw [y_W, if_neg (by omega), h2]
  simp only [e32, e33, e34, e35, e36, e25, e26, e27, e28]
end
