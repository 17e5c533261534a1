/-! ===== CONDs of the class ===== -/
section
variable {F : Nat} {T : zV}
theorem y_fr_at {sc : List (Nat × Nat)} {ar : List Nat} {V V' : zV} (h : y_fr sc ar V V') {r k : Nat} (hm : (r, k) ∉ sc) : zI V' r k = zI V r k := h.1 r k hm
theorem y_fr_row {sc : List (Nat × Nat)} {ar : List Nat} {V V' : zV} (h : y_fr sc ar V V') {r : Nat} (hm : r ∉ ar) : zA V' r = zA V r := h.2.1 r hm
theorem c_left {V : zV} {m : Nat} (hm : m < 12) : fX4_timeLeftOf F V (nI m) = some (zA V 20 m) := by
  unfold fX4_timeLeftOf
  rw [if_neg (nI_pos (by omega)), if_neg (show ¬ (12 : Int32) ≤ nI m from nI_ge (b := 12) hm (by decide)), y_ck hm (by decide), nI_clamp (by omega)]
theorem c_work1 (hs : y_ws T) (hF : 2000 ≤ F) {V : zV} {m i : Nat} {v : Int32} {e : Nat} (hm : m < 12) (hi : i ≤ 1001) (h : y_E T (zA V 1) (zA V 20 m) (zI V 14 7) i = some (v, e)) :
    ∃ V', fX1_work F T V (nI i) (nI m) = some (v, V') ∧ zI V' 2 3 = nI e ∧ y_fr [(2, 3)] [3, 4] V V' := by
  obtain ⟨V', e1, e2, e3⟩ := c_work hs hF hi h
  refine ⟨V', ?_, e2, e3⟩
  rw [fX1_work, c_left hm, y_bd, e1, y_bd]
theorem c_cmp {a k b : Int32} : fX1_compares F a k b = some (if y_cmp a k b = true then 1 else 0) := by
  unfold fX1_compares y_cmp
  by_cases h1 : k = 37
  · rw [if_pos h1, if_pos h1]
    by_cases q : a = b
    · rw [if_pos q, if_pos (by simpa using q)]
    · rw [if_neg q, if_neg (by simpa using q)]
  rw [if_neg h1, if_neg h1]
  by_cases h2 : k = 38
  · rw [if_pos h2, if_pos h2]
    by_cases q : a = b
    · rw [if_pos q, if_neg (by simpa using q)]
    · rw [if_neg q, if_pos (by simpa using q)]
  rw [if_neg h2, if_neg h2]
  by_cases h3 : k = 39
  · rw [if_pos h3, if_pos h3]
    by_cases q : b ≤ a
    · rw [if_pos q, if_neg (by simp only [decide_eq_true_eq]; exact Int32.not_lt.mpr q)]
    · rw [if_neg q, if_pos (by simp only [decide_eq_true_eq]; exact Int32.not_le.mp q)]
  rw [if_neg h3, if_neg h3]
  by_cases q : b < a
  · rw [if_pos q, if_neg (by simp only [decide_eq_true_eq]; exact Int32.not_le.mpr q)]
  · rw [if_neg q, if_pos (by simp only [decide_eq_true_eq]; exact Int32.not_lt.mp q)]
theorem c_holdsl (hs : y_ws T) (hF : 2000 ≤ F) {m : Nat} (hm : m < 12) : ∀ (n N : Nat) (V : zV) (i j : Nat) (b : Bool), n + 1 ≤ N → j + n ≤ 1000 → i ≤ 1001 → y_C T (zA V 1) (zA V 20 m) (zI V 14 7) n i = some b →
    ∃ V', fX1_holds_l12 F N T V (nI m) (nI i) (nI j) = some ((if b = true then 1 else 0), V') ∧ y_fr [(2, 3)] [3, 4] V V' := by
  intro n
  induction n with
  | zero => intro N V i j b _ _ _ h; cases h
  | succ n ih =>
    intro N V i j b hN hj hi h
    obtain ⟨N, rfl⟩ : ∃ N', N = N' + 1 := ⟨N - 1, by omega⟩
    have hsz := hs.2
    rw [y_C] at h
    cases h1 : y_E T (zA V 1) (zA V 20 m) (zI V 14 7) i with
    | none => rw [h1] at h; cases h
    | some q =>
      obtain ⟨a, e⟩ := q
      rw [h1] at h
      dsimp only at h
      have he := y_W_end _ _ _ _ _ _ _ _ _ h1
      dsimp only at he
      obtain ⟨V1, a1, a2, a3⟩ := c_work1 hs hF hm hi h1
      cases h2 : y_E T (zA V 1) (zA V 20 m) (zI V 14 7) (e + 1) with
      | none => rw [h2] at h; cases h
      | some q =>
        obtain ⟨b', e2⟩ := q
        rw [h2] at h
        dsimp only at h
        have he2 := y_W_end _ _ _ _ _ _ _ _ _ h2
        dsimp only at he2
        have h2' : y_E T (zA V1 1) (zA V1 20 m) (zI V1 14 7) (e + 1) = some (b', e2) := by
          rw [y_fr_row a3 (r := 1) (by decide), y_fr_row a3 (r := 20) (by decide), y_fr_at a3 (by decide)]; exact h2
        obtain ⟨V2, b1, b2, b3⟩ := c_work1 hs hF hm (by omega) h2'
        have f2 := y_fr_trans a3 b3
        rw [fX1_holds_l12, if_neg (show ¬ (1000 : Int32) < nI j from nI_nlt (a := 1000) (by omega) (by omega)), if_neg (show ¬ nI i = -1 from fun q => by
          have := nI_pos (n := i) (by omega)
          rw [q] at this
          exact this (by decide)), a1, y_bd]
        dsimp only
        rw [a2, c_kindAt hs (by omega), y_bd, show nI e + (1 : Int32) = nI (e + 1) from nI_1 e, b1, y_bd]
        dsimp only
        rw [c_cmp, y_bd]
        by_cases hc : y_cmp a (y_K T e) b' = true
        · rw [if_pos hc] at h
          rw [if_pos hc, if_neg (by decide), b2, c_kindAt hs (by omega), y_bd]
          by_cases h15 : y_K T e2 = 15
          · rw [if_pos h15] at h
            rw [if_pos h15, fX1_holds_b111, show nI e2 + (1 : Int32) = nI (e2 + 1) from nI_1 e2, nI_1]
            have h' : y_C T (zA V2 1) (zA V2 20 m) (zI V2 14 7) n (e2 + 1) = some b := by
              rw [y_fr_row f2 (r := 1) (by decide), y_fr_row f2 (r := 20) (by decide), y_fr_at f2 (by decide)]; exact h
            obtain ⟨V3, c1, c2⟩ := ih N V2 (e2 + 1) (j + 1) b (by omega) (by omega) (by omega) h'
            exact ⟨V3, c1, y_fr_trans f2 c2⟩
          · rw [if_neg h15] at h
            cases h
            rw [if_neg h15, fX1_holds_b111]
            obtain ⟨N, rfl⟩ : ∃ N', N = N' + 1 := ⟨N - 1, by omega⟩
            refine ⟨V2, ?_, f2⟩
            rw [fX1_holds_l12, nI_1]
            by_cases q : (1000 : Int32) < nI (j + 1)
            · rw [if_pos q]; rfl
            · rw [if_neg q, if_pos rfl]; rfl
        · rw [if_neg hc] at h
          cases h
          rw [if_neg hc, if_pos rfl]
          exact ⟨V2, rfl, f2⟩
/-- the table's rules: each COND has a value, whatever the vars -/
def y_wr (T : zV) : Prop := ∃ R : Nat, R ≤ 80 ∧ zI T 13 3 = nI R ∧ (∀ m, m ≤ 12 → zA T 16 m = nI (y_hd T m) ∧ y_hd T m ≤ R) ∧
  (∀ r, r < R → (∀ vars left ip, ∃ b, y_cond T r vars left ip = some b) ∧ (zA T 18 r = -1 ∨ ∃ i, i ≤ 1000 ∧ zA T 18 r = nI i))
theorem c_holds (hs : y_ws T) (hF : 2000 ≤ F) {R : Nat} (hR : R ≤ 80) (hR3 : zI T 13 3 = nI R) {V : zV} {m r : Nat} {b : Bool} (hm : m < 12) (hr : r < R) (h18 : zA T 18 r = -1 ∨ ∃ i, i ≤ 1000 ∧ zA T 18 r = nI i)
    (h : y_cond T r (zA V 1) (zA V 20 m) (zI V 14 7) = some b) : ∃ V', fX1_holds F T V (nI r) (nI m) = some ((if b = true then 1 else 0), V') ∧ y_fr [(2, 3)] [3, 4] V V' := by
  unfold y_cond at h
  rw [fX1_holds, fX6_condOf, if_neg (nI_pos (by omega)), hR3, if_neg (nI_ge hr (by omega)), y_ck (by omega) (by decide), nI_clamp (by omega), y_bd]
  rcases h18 with q | ⟨i, hi, q⟩
  · rw [q, if_pos rfl] at h
    cases h
    rw [q]
    obtain ⟨F', rfl⟩ : ∃ F', F = F' + 1 := ⟨F - 1, by omega⟩
    refine ⟨V, ?_, y_fr_refl⟩
    rw [fX1_holds_l12, if_neg (by decide), if_pos rfl]; rfl
  · have q1 : ¬ nI i = -1 := fun q => by
      have := nI_pos (n := i) (by omega)
      rw [q] at this
      exact this (by decide)
    rw [q, if_neg q1, nI_clamp (by omega)] at h
    rw [q]
    exact c_holdsl hs hF hm 1000 F V i 0 b (by omega) (by omega) (by omega) h
end
/-! ===== a state and the class's component 5 ===== -/
def y_sc : List (Nat × Nat) := [(0, 9), (0, 10), (0, 11), (0, 12), (0, 13), (0, 14), (14, 7)]
def y_an : List Nat := [1, 6, 7, 8, 9, 11, 12, 19, 20, 21, 22, 23]
def y_al (T : zV) (r : Nat) : Nat := if r = 23 then y_many T 7 else if r = 11 ∨ r = 12 then 8 else if r = 19 ∨ r = 20 ∨ r = 21 ∨ r = 22 then 12 else 16
def y_sim (T : zV) (S : y_S) (V : zV) : Prop := (∀ q ∈ y_sc, zI V q.1 q.2 = y_I S q.1 q.2) ∧ (∀ r ∈ y_an, ∀ i, i < y_al T r → zA V r i = y_R S r i) ∧ zL V 0 8 = y_P S
section
variable {T : zV} {S S' : y_S} {V V' : zV}
theorem y_sim_fr {sc : List (Nat × Nat)} {ar : List Nat} (h : y_sim T S V) (f : y_fr sc ar V V') (h1 : ∀ q ∈ y_sc, q ∉ sc) (h2 : ∀ r ∈ y_an, r ∉ ar) : y_sim T S V' :=
  ⟨fun q hq => (f.1 q.1 q.2 (h1 q hq)).trans (h.1 q hq), fun r hr i hi => (congrFun (f.2.1 r (h2 r hr)) i).trans (h.2.1 r hr i hi), (f.2.2.1 0 8).trans h.2.2⟩
theorem y_sim_1 (h : y_sim T S V) (e : S'.1 = S.1) : y_sim T S' V := by
  unfold y_sim y_I y_R y_P at *
  rw [e]
  exact h
theorem y_sim_I (h : y_sim T S V) {r k : Nat} {x : Int32} : y_sim T (y_sI S r k x) (zsI V r k x) := by
  refine ⟨fun q hq => ?_, h.2.1, h.2.2⟩
  show (if q.1 = r ∧ q.2 = k then x else zI V q.1 q.2) = if q.1 = r ∧ q.2 = k then x else zI S.1 q.1 q.2
  rw [h.1 q hq]; rfl
theorem y_sim_A (h : y_sim T S V) {r i : Nat} {x : Int32} : y_sim T (y_sR S r i x) (zsA V r (upd (zA V r) i x)) := by
  refine ⟨h.1, fun a ha j hj => ?_, h.2.2⟩
  show (if a = r then upd (zA V r) i x else zA V a) j = (if a = r then upd (zA S.1 r) i x else zA S.1 a) j
  by_cases e : a = r
  · subst e
    rw [if_pos rfl, if_pos rfl, y_upd, y_upd]
    by_cases q : j = i
    · rw [if_pos q, if_pos q]
    · rw [if_neg q, if_neg q]; exact h.2.1 a ha j hj
  · rw [if_neg e, if_neg e]; exact h.2.1 a ha j hj
theorem y_sim_P (h : y_sim T S V) {x : Int64} : y_sim T (y_sP S x) (zsL V 0 8 x) := by
  refine ⟨h.1, h.2.1, ?_⟩
  show (if 0 = 0 ∧ 8 = 8 then x else zL V 0 8) = if 0 = 0 ∧ 8 = 8 then x else zL S.1 0 8
  rfl
theorem y_sim_at (h : y_sim T S V) {r k : Nat} (hq : (r, k) ∈ y_sc) : zI V r k = y_I S r k := h.1 (r, k) hq
theorem y_sim_r (h : y_sim T S V) {r i : Nat} (hq : r ∈ y_an) (hi : i < y_al T r) : zA V r i = y_R S r i := h.2.1 r hq i hi
/-- an E's value in the class and in the state -/
theorem y_sim_cond (h : y_sim T S V) {m r : Nat} (hm : m < 12) : y_cond T r (zA V 1) (zA V 20 m) (zI V 14 7) = y_cond T r (y_R S 1) (y_R S 20 m) (y_I S 14 7) := by
  rw [y_sim_at h (by decide), y_sim_r h (r := 20) (by decide) hm]
  exact y_cond_vars fun j hj => y_sim_r h (r := 1) (by decide) hj
theorem y_sim_X1 (h : y_sim T S V) {m i : Nat} (hm : m < 12) : y_X1 T i (zA V 1) (zA V 20 m) (zI V 14 7) = y_val S m (y_X1 T i) := by
  unfold y_val
  rw [y_sim_at h (by decide), y_sim_r h (r := 20) (by decide) hm]
  exact y_X1_vars fun j hj => y_sim_r h (r := 1) (by decide) hj
end
