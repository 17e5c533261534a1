/-! ===== E's and CONDs hang on told variables only ===== -/
section
variable {T : zV} {vars vars' : Nat → Int32} {left ip : Int32} {M : Nat}
def r_stop (k : Int32) : Prop := ¬ k = 32 ∧ ¬ k = 33 ∧ ¬ k = 34 ∧ ¬ k = 35 ∧ ¬ k = 28 ∧ ¬ k = 27 ∧ ¬ k = 25 ∧ ¬ k = 26 ∧ ¬ k = 36
theorem r_W_vars (hM : M ≤ 16) (hv : ∀ x, x < M → vars x = vars' x) {i0 e : Nat} (he : r_stop (y_K T e)) (hN : ∀ a, i0 ≤ a → a < e → y_K T a = 27 → ∃ c, c < M ∧ y_N T a = nI c) : ∀ (n o : Nat) (f3 f4 : Nat → Int32) (s t fr : Int32) (i : Nat), i0 ≤ i → i ≤ e →
    y_W T vars left ip n o f3 f4 s t fr i = y_W T vars' left ip n o f3 f4 s t fr i ∧ ∀ q, y_W T vars left ip n o f3 f4 s t fr i = some q → i ≤ q.2 ∧ q.2 ≤ e := by
  intro n
  induction n with
  | zero => intro o f3 f4 s t fr i h1 h2; exact ⟨rfl, fun q z => by cases z⟩
  | succ n ih =>
    intro o f3 f4 s t fr i h1 h2
    rw [y_W, y_W]
    by_cases q0 : y_sz T ≤ i
    · rw [if_pos q0, if_pos q0]; exact ⟨rfl, fun q z => by cases z⟩
    rw [if_neg q0, if_neg q0]
    have up : i = e ∨ i + 1 ≤ e := by omega
    have nx : ∀ (o : Nat) (f3 f4 : Nat → Int32) (s t fr : Int32), i + 1 ≤ e → y_W T vars left ip n o f3 f4 s t fr (i + 1) = y_W T vars' left ip n o f3 f4 s t fr (i + 1) ∧ ∀ q, y_W T vars left ip n o f3 f4 s t fr (i + 1) = some q → i ≤ q.2 ∧ q.2 ≤ e := by
      intro o f3 f4 s t fr h
      obtain ⟨g1, g2⟩ := ih o f3 f4 s t fr (i + 1) (by omega) h
      exact ⟨g1, fun q z => by have := g2 q z; omega⟩
    by_cases q1 : y_K T i = 32 ∧ o < 6
    · rw [if_pos q1, if_pos q1]
      refine nx _ _ _ _ _ _ ?_
      rcases up with rfl | up
      · exact absurd q1.1 he.1
      · exact up
    rw [if_neg q1, if_neg q1]
    by_cases q2 : y_K T i = 33 ∧ 0 < o
    · rw [if_pos q2, if_pos q2]
      refine nx _ _ _ _ _ _ ?_
      rcases up with rfl | up
      · exact absurd q2.1 he.2.1
      · exact up
    rw [if_neg q2, if_neg q2]
    by_cases q3 : y_K T i = 34 ∨ y_K T i = 35
    · rw [if_pos q3, if_pos q3]
      refine nx _ _ _ _ _ _ ?_
      rcases up with rfl | up
      · exact absurd q3 (fun z => z.elim he.2.2.1 he.2.2.2.1)
      · exact up
    rw [if_neg q3, if_neg q3]
    by_cases q4 : y_K T i = 28 ∨ y_K T i = 27 ∨ y_K T i = 25 ∨ y_K T i = 26
    · rw [if_pos q4, if_pos q4]
      have hlt : i + 1 ≤ e := by
        rcases up with rfl | up
        · exact absurd q4 (fun z => z.elim he.2.2.2.2.1 (fun z => z.elim he.2.2.2.2.2.1 (fun z => z.elim he.2.2.2.2.2.2.1 he.2.2.2.2.2.2.2.1)))
        · exact up
      have eu : y_unit vars left ip (y_K T i) (y_N T i) = y_unit vars' left ip (y_K T i) (y_N T i) := by
        unfold y_unit
        by_cases z : y_K T i = 27
        · obtain ⟨c, c1, c2⟩ := hN i h1 (by omega) z
          rw [c2, nI_clamp (by omega), hv c c1]
        · rw [if_neg z, if_neg z]
      rw [eu]
      exact nx _ _ _ _ _ _ hlt
    rw [if_neg q4, if_neg q4]
    by_cases q5 : y_K T i = 36
    · rw [if_pos q5, if_pos q5]
      refine nx _ _ _ _ _ _ ?_
      rcases up with rfl | up
      · exact absurd q5 he.2.2.2.2.2.2.2.2
      · exact up
    rw [if_neg q5, if_neg q5]
    exact ⟨rfl, fun q z => by cases z; exact ⟨Nat.le_refl _, h2⟩⟩
theorem r_E_vars (hM : M ≤ 16) (hv : ∀ x, x < M → vars x = vars' x) {i0 e i : Nat} (he : r_stop (y_K T e)) (hN : ∀ a, i0 ≤ a → a < e → y_K T a = 27 → ∃ c, c < M ∧ y_N T a = nI c) (h1 : i0 ≤ i) (h2 : i ≤ e) : y_E T vars left ip i = y_E T vars' left ip i ∧ ∀ q, y_E T vars left ip i = some q → i ≤ q.2 ∧ q.2 ≤ e :=
  r_W_vars hM hv he hN 1001 0 _ _ 0 1 1 i h1 h2
theorem r_C_vars (hM : M ≤ 16) (hv : ∀ x, x < M → vars x = vars' x) {i0 c : Nat} (hc : r_stop (y_K T c)) (hc1 : r_stop (y_K T (c + 1))) (h15 : ¬ y_K T c = 15 ∧ ¬ y_K T (c + 1) = 15) (hN : ∀ a, i0 ≤ a → a < c → y_K T a = 27 → ∃ c, c < M ∧ y_N T a = nI c) : ∀ (n i : Nat), i0 ≤ i → i ≤ c → y_C T vars left ip n i = y_C T vars' left ip n i := by
  intro n
  induction n with
  | zero => intro i _ _; rfl
  | succ n ih =>
    intro i h1 h2
    obtain ⟨e1, e2⟩ := r_E_vars (left := left) (ip := ip) hM hv hc hN h1 h2
    rw [y_C, y_C, ← e1]
    cases hq : y_E T vars left ip i with
    | none => rfl
    | some q =>
      obtain ⟨a, e⟩ := q
      have le := e2 _ hq
      dsimp only at le ⊢
      have second : y_E T vars left ip (e + 1) = y_E T vars' left ip (e + 1) ∧ ∀ q, y_E T vars left ip (e + 1) = some q → e + 1 ≤ q.2 ∧ q.2 ≤ c + 1 := by
        by_cases z : e + 1 ≤ c
        · obtain ⟨g1, g2⟩ := r_E_vars (left := left) (ip := ip) hM hv hc hN (show i0 ≤ e + 1 by omega) z
          exact ⟨g1, fun q y => by have := g2 q y; omega⟩
        · have : e = c := by omega
          subst this
          obtain ⟨g1, g2⟩ := r_E_vars (left := left) (ip := ip) (i0 := e + 1) hM hv hc1 (fun a x1 x2 => by omega) (Nat.le_refl _) (Nat.le_refl _)
          exact ⟨g1, g2⟩
      obtain ⟨g1, g2⟩ := second
      rw [← g1]
      cases hq2 : y_E T vars left ip (e + 1) with
      | none => rfl
      | some q2 =>
        obtain ⟨a2, e2'⟩ := q2
        have le2 := g2 _ hq2
        dsimp only at le2 ⊢
        by_cases z : y_cmp a (y_K T e) a2 = true
        · rw [if_pos z, if_pos z]
          by_cases z15 : y_K T e2' = 15
          · rw [if_pos z15, if_pos z15]
            have : e2' < c := by
              by_cases y1 : e2' = c
              · subst y1; exact absurd z15 h15.1
              by_cases y2 : e2' = c + 1
              · subst y2; exact absurd z15 h15.2
              · omega
            exact ih (e2' + 1) (by omega) (by omega)
          · rw [if_neg z15, if_neg z15]
        · rw [if_neg z, if_neg z]
end
