/-! ===== what is told, by first tokens ===== -/
theorem r_ro20 {K : Nat → Nat} {i : Nat} : 20 ≤ r_ro K i ↔ (K (i - 1) = 0 ∨ K (i - 1) = 1 ∨ K (i - 1) = 3 ∨ K (i - 1) = 4 ∨ K (i - 1) = 6 ∨ K (i - 1) = 7) := by
  unfold r_ro
  constructor
  · intro h
    split at h
    · assumption
    · exfalso
      repeat' split at h
      all_goals omega
  · intro h
    rw [if_pos h]; omega
/-- token a tells a name -/
abbrev r_tg (K : Nat → Nat) (a : Nat) : Prop := K a = 27 ∧ (K (a - 1) = 0 ∨ K (a - 1) = 1 ∨ K (a - 1) = 3 ∨ K (a - 1) = 4 ∨ K (a - 1) = 6 ∨ K (a - 1) = 7)
def r_fd : List r_E → List Nat → Option (Nat × Nat)
  | [], _ => none
  | e :: l, s => if e.1 = s then some e.2 else r_fd l s
theorem r_fd_tol {l : List r_E} {s : List Nat} : r_tol l s = true ↔ ¬ r_fd l s = none := by
  induction l with
  | nil => exact ⟨fun h => (by cases h), fun h => absurd rfl h⟩
  | cons e l ih =>
    unfold r_tol at ih ⊢
    rw [List.any_cons, r_fd]
    by_cases q : e.1 = s
    · rw [if_pos q, decide_eq_true q]
      exact ⟨fun _ h => (by cases h), fun _ => rfl⟩
    · rw [if_neg q, decide_eq_false q, Bool.false_or]; exact ih
theorem r_fd_app {l : List r_E} {e : r_E} {s : List Nat} : r_fd (l ++ [e]) s = match r_fd l s with
    | some x => some x
    | none => if e.1 = s then some e.2 else none := by
  induction l with
  | nil => rfl
  | cons a l ih =>
    rw [List.cons_append, r_fd, r_fd]
    by_cases q : a.1 = s
    · rw [if_pos q, if_pos q]
    · rw [if_neg q, if_neg q]; exact ih
section
variable {b : Nat → Nat} {L : Nat}
theorem r_lk_fd {s : List Nat} {t : Nat} : ∀ i, r_lk (r_tl b L i) s t = match r_fd (r_tl b L i) s with
    | some x => if x.1 = t then some x.2 else none
    | none => none := by
  intro i
  induction i with
  | zero => rfl
  | succ i ih =>
    rw [r_tl]
    split
    · rename_i q
      have hn : r_fd (r_tl b L i) (r_tW b L i) = none := by
        have h2 : ¬ r_tol (r_tl b L i) (r_tW b L i) = true := by rw [q.2.2]; decide
        by_cases z : r_fd (r_tl b L i) (r_tW b L i) = none
        · exact z
        · exact absurd (r_fd_tol.mpr z) h2
      rw [r_lk_app, r_fd_app, ih]
      cases hf : r_fd (r_tl b L i) s with
      | none =>
        dsimp only
        by_cases q2 : r_tW b L i = s
        · rw [if_pos q2]
          dsimp only
          by_cases q3 : r_tK b L (i - 1) = t
          · rw [if_pos ⟨q2, q3⟩, if_pos q3]
          · rw [if_neg (fun z => q3 z.2), if_neg q3]
        · rw [if_neg q2, if_neg (fun z => q2 z.1)]
      | some x =>
        dsimp only
        by_cases q3 : x.1 = t
        · rw [if_pos q3]
        · rw [if_neg q3]
          dsimp only
          rw [if_neg (fun z => by rw [z.1, hf] at hn; cases hn)]
    · exact ih
theorem r_fd_tl {s : List Nat} : ∀ i, match r_fd (r_tl b L i) s with
    | some x => ∃ a, a < i ∧ r_tg (r_tK b L) a ∧ r_tW b L a = s ∧ x.1 = r_tK b L (a - 1) ∧ x.2 = r_cn (r_tK b L) (r_tK b L (a - 1)) (a - 1) ∧ ∀ a', a' < a → r_tg (r_tK b L) a' → ¬ r_tW b L a' = s
    | none => ∀ a, a < i → r_tg (r_tK b L) a → ¬ r_tW b L a = s := by
  intro i
  induction i with
  | zero => intro a ha; omega
  | succ i ih =>
    have hs : ∀ (l l' : List r_E), (if r_tK b L i = 27 ∧ 20 ≤ r_ro (r_tK b L) i ∧ r_tol (r_tl b L i) (r_tW b L i) = false then l else l') = if r_tg (r_tK b L) i ∧ r_tol (r_tl b L i) (r_tW b L i) = false then l else l' := by
      intro l l'
      by_cases q : r_tg (r_tK b L) i ∧ r_tol (r_tl b L i) (r_tW b L i) = false
      · rw [if_pos q, if_pos ⟨q.1.1, r_ro20.mpr q.1.2, q.2⟩]
      · rw [if_neg q, if_neg (fun z => q ⟨⟨z.1, r_ro20.mp z.2.1⟩, z.2.2⟩)]
    rw [r_tl, hs]
    by_cases q : r_tg (r_tK b L) i ∧ r_tol (r_tl b L i) (r_tW b L i) = false
    · rw [if_pos q, r_fd_app]
      cases hf : r_fd (r_tl b L i) s with
      | some x =>
        rw [hf] at ih
        obtain ⟨a, h1, h2⟩ := ih
        exact ⟨a, by omega, h2⟩
      | none =>
        rw [hf] at ih
        dsimp only
        by_cases q2 : r_tW b L i = s
        · rw [if_pos q2]
          exact ⟨i, by omega, q.1, q2, rfl, rfl, fun a' h1 h2 => ih a' h1 h2⟩
        · rw [if_neg q2]
          intro a h1 h2
          by_cases q3 : a = i
          · subst q3; exact q2
          · exact ih a (by omega) h2
    · rw [if_neg q]
      cases hf : r_fd (r_tl b L i) s with
      | some x =>
        rw [hf] at ih
        obtain ⟨a, h1, h2⟩ := ih
        exact ⟨a, by omega, h2⟩
      | none =>
        rw [hf] at ih
        intro a h1 h2
        by_cases q3 : a = i
        · subst q3
          intro z
          have : ¬ r_tol (r_tl b L a) (r_tW b L a) = false := fun y => q ⟨h2, y⟩
          rw [Bool.not_eq_false, z] at this
          exact absurd hf (r_fd_tol.mp this)
        · exact ih a (by omega) h2
/-- the first token that tells s -/
theorem r_fd_first {s : List Nat} {i a : Nat} (h1 : a < i) (h2 : r_tg (r_tK b L) a) (h3 : r_tW b L a = s) (h4 : ∀ a', a' < a → r_tg (r_tK b L) a' → ¬ r_tW b L a' = s) : r_fd (r_tl b L i) s = some (r_tK b L (a - 1), r_cn (r_tK b L) (r_tK b L (a - 1)) (a - 1)) := by
  have h := r_fd_tl (b := b) (L := L) (s := s) i
  cases hf : r_fd (r_tl b L i) s with
  | none => rw [hf] at h; exact absurd h3 (h a h1 h2)
  | some x =>
    rw [hf] at h
    obtain ⟨c, c1, c2, c3, c4, c5, c6⟩ := h
    have : c = a := by
      rcases Nat.lt_trichotomy c a with y | y | y
      · exact absurd c3 (h4 c y c2)
      · exact y
      · exact absurd h3 (c6 a y h2)
    subst this
    obtain ⟨x1, x2⟩ := x
    dsimp only at c4 c5
    rw [c4, c5]
theorem r_fd_mono {s : List Nat} {i j : Nat} {x : Nat × Nat} (h : r_fd (r_tl b L i) s = some x) (hij : i ≤ j) : r_fd (r_tl b L j) s = some x := by
  have h' := r_fd_tl (b := b) (L := L) (s := s) i
  rw [h] at h'
  obtain ⟨c, c1, c2, c3, c4, c5, c6⟩ := h'
  rw [r_fd_first (by omega) c2 c3 c6]
  obtain ⟨x1, x2⟩ := x
  dsimp only at c4 c5
  rw [c4, c5]
/-- facts of a table that is well formed -/
def r_gf (K : Nat → Nat) (E : Nat) : Prop := (K E = 41 ∧ E ≤ 1000 ∧ (K 0 ≤ 7 ∨ K 0 = 41)) ∧ (∀ a, a < E → K a ≤ 7 → K (a + 1) = 27 ∧ a + 1 < E ∧ r_cn K (K a) a < r_room (K a)) ∧ (∀ k, k ≤ 7 → r_cn K k E ≤ r_room k) ∧
  ∃ p, p ≤ E ∧ (∀ a, a < p → ¬ K a = 7 ∧ ¬ K a = 18) ∧ ∀ a, p ≤ a → a < E → ¬ K a ≤ 6
theorem r_gram_gf {E : Nat} (h : r_gram (r_tK b L) = .ok E) : r_gf (r_tK b L) E := by
  obtain ⟨hE, hE2, p, h1, h2, h3, h4⟩ := r_gram_Q (K := r_tK b L) (E := E) (P := fun m => (r_tK b L m ≤ 6 ∨ 0 < m) ∧ ¬ r_tK b L m = 7 ∧ ¬ r_tK b L m = 18 ∧ (r_tK b L m ≤ 7 → r_tK b L (m + 1) = 27 ∧ r_cn (r_tK b L) (r_tK b L m) m < r_room (r_tK b L m)))
    (Q := fun m => ¬ r_tK b L m ≤ 6 ∧ (r_tK b L m ≤ 7 → r_tK b L (m + 1) = 27 ∧ r_cn (r_tK b L) (r_tK b L m) m < r_room (r_tK b L m)))
    (fun i e hp m m1 m2 => by
      by_cases q : m = i
      · subst q; exact ⟨Or.inl hp.1, by have := hp.1; omega, by have := hp.1; omega, fun _ => ⟨hp.2.2.1, hp.2.1⟩⟩
      · have := (r_psh_in hp).2 m (by omega) m2
        exact ⟨Or.inr (by omega), by omega, by omega, fun z => by omega⟩)
    (fun i e _ hp m m1 m2 => by
      by_cases q : m = i
      · subst q
        refine ⟨by have := hp.1; omega, fun _ => ⟨hp.2.2.1, ?_⟩⟩
        rw [hp.1]; exact hp.2.1
      · have := (r_hs7_in hp).2 m (by omega) m2
        exact ⟨by omega, fun z => by omega⟩)
    (fun i e he hk hr m m1 m2 => by
      obtain ⟨c, sh, h0⟩ := r_rule_sh hk hr
      obtain ⟨a1, a2, a3, a4, a5, a6, a7, a8, a9, a10, a11, a12⟩ := sh
      have : ¬ r_tK b L m ≤ 7 := by
        by_cases q1 : m = i
        · subst q1; omega
        by_cases q2 : m = i + 1
        · subst q2; omega
        by_cases q5 : m = c
        · subst q5; omega
        by_cases q6 : m = e - 1
        · subst q6; omega
        by_cases q3 : m = i + 2
        · subst q3; omega
        by_cases q4 : m < c
        · have := a10 m (by omega) q4; unfold r_ek at this; omega
        · have := a11 m (by omega) (by omega); unfold r_ek at this; omega
      exact ⟨by omega, fun z => absurd z this⟩)
    (fun i hi => ⟨by omega, fun z => by omega⟩) h
  have three : ∀ a, a < E → r_tK b L a ≤ 7 → r_tK b L (a + 1) = 27 ∧ a + 1 < E ∧ r_cn (r_tK b L) (r_tK b L a) a < r_room (r_tK b L a) := by
    intro a ha hk
    have hz : r_tK b L (a + 1) = 27 ∧ r_cn (r_tK b L) (r_tK b L a) a < r_room (r_tK b L a) := by
      by_cases q : a < p
      · exact (h2 a q).2.2.2 hk
      · exact (h4 a (by omega) ha).2 hk
    refine ⟨hz.1, ?_, hz.2⟩
    by_cases q : a + 1 = E
    · rw [q] at hz; omega
    · omega
  refine ⟨⟨hE, hE2, ?_⟩, three, fun k hk => ?_, p, h1, fun a ha => ⟨(h2 a ha).2.1, (h2 a ha).2.2.1⟩, fun a h5 h6 => (h4 a h5 h6).1⟩
  · by_cases q : 0 < p
    · rcases (h2 0 q).1 with z | z <;> omega
    · have hp0 : p = 0 := by omega
      subst hp0
      by_cases q2 : 0 < E
      · rw [h3 q2]; exact Or.inl (by decide)
      · have : E = 0 := by omega
        rw [this] at hE; exact Or.inr hE
  · have : ∀ e, e ≤ E → r_cn (r_tK b L) k e ≤ r_room k := by
      intro e
      induction e with
      | zero => intro _; exact Nat.zero_le _
      | succ e ih =>
        intro he
        have := ih (by omega)
        rw [r_cn]
        split
        · rename_i q
          have := (three e (by omega) (by omega)).2.2
          rw [q] at this
          omega
        · exact this
    exact this E (Nat.le_refl _)
end
