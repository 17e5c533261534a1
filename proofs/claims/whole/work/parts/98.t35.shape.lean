/-! ===== the shape of a whole table ===== -/
section
variable {K : Nat → Nat}
theorem r_rk_part : ∀ k : Fin 43, (¬ r_rk k.1 < 20 ∧ ¬ 27 < r_rk k.1 ∧ ¬ r_rk k.1 = 26) ↔ k.1 ≤ 6 := by decide +kernel
/-- a part from token i up to e -/
def r_psh (K : Nat → Nat) (i e : Nat) : Prop := K i ≤ 6 ∧ r_cn K (K i) i < r_room (K i) ∧ K (i + 1) = 27 ∧
  ((K i = 0 ∨ K i = 1 ∨ K i = 6) → K (i + 2) = 28 ∧ K (i + 3) = 29 ∧ e = i + 4) ∧ ((K i = 2 ∨ K i = 3) → K (i + 2) = 27 ∧ K (i + 3) = 29 ∧ e = i + 4) ∧
  (K i = 5 → K (i + 2) = 27 ∧ ((K (i + 3) = 8 ∧ K (i + 4) = 27 ∧ K (i + 5) = 29 ∧ e = i + 6) ∨ (K (i + 3) = 29 ∧ e = i + 4))) ∧ (K i = 4 → K (i + 2) = 29 ∧ e = i + 3)
/-- a mode's head -/
def r_hs7 (K : Nat → Nat) (i e : Nat) : Prop := K i = 7 ∧ r_cn K 7 i < 12 ∧ K (i + 1) = 27 ∧ K (i + 2) = 28 ∧ ((K (i + 3) = 9 ∧ K (i + 4) = 28 ∧ K (i + 5) = 29 ∧ e = i + 6) ∨ (K (i + 3) = 29 ∧ e = i + 4))
theorem r_part_sh {i e : Nat} (hi : K i ≤ 6) (h : r_part K i = .ok e) : r_psh K i e := by
  unfold r_part at h
  obtain ⟨a, h1, h⟩ := r_b_ok h
  obtain ⟨c, h2, h⟩ := r_b_ok h
  obtain ⟨n1, rfl, -⟩ := r_newo_ok h1
  obtain ⟨n2, rfl, -⟩ := r_need_ok h2
  refine ⟨hi, n1, n2, fun q => ?_, fun q => ?_, fun q => ?_, fun q => ?_⟩
  · rw [if_pos q] at h
    obtain ⟨d, h3, h⟩ := r_b_ok h
    obtain ⟨n3, rfl, -⟩ := r_need_ok h3
    obtain ⟨n4, rfl, -⟩ := r_need_ok h
    exact ⟨n3, n4, rfl⟩
  · rw [if_neg (by omega), if_pos q] at h
    obtain ⟨d, h3, h⟩ := r_b_ok h
    obtain ⟨n3, rfl, -⟩ := r_need_ok h3
    obtain ⟨n4, rfl, -⟩ := r_need_ok h
    exact ⟨n3, n4, rfl⟩
  · rw [if_neg (by omega), if_neg (by omega), if_pos q] at h
    obtain ⟨d, h3, h⟩ := r_b_ok h
    obtain ⟨n3, rfl, -⟩ := r_need_ok h3
    refine ⟨n3, ?_⟩
    split at h
    · rename_i q8
      obtain ⟨d, h4, h⟩ := r_b_ok h
      obtain ⟨rfl, -⟩ := r_pass_ok h4
      obtain ⟨d, h5, h⟩ := r_b_ok h
      obtain ⟨n5, rfl, -⟩ := r_need_ok h5
      obtain ⟨n6, rfl, -⟩ := r_need_ok h
      exact Or.inl ⟨q8, n5, n6, rfl⟩
    · obtain ⟨n6, rfl, -⟩ := r_need_ok h
      exact Or.inr ⟨n6, rfl⟩
  · rw [if_neg (by omega), if_neg (by omega), if_neg (by omega)] at h
    obtain ⟨n6, rfl, -⟩ := r_need_ok h
    exact ⟨n6, rfl⟩
theorem r_mhead_sh {i e : Nat} (hi : K i = 7) (h : r_mhead K i = .ok e) : r_hs7 K i e := by
  unfold r_mhead at h
  obtain ⟨a, h1, h⟩ := r_b_ok h
  obtain ⟨c, h2, h⟩ := r_b_ok h
  obtain ⟨d, h3, h⟩ := r_b_ok h
  obtain ⟨n1, rfl, -⟩ := r_newo_ok h1
  obtain ⟨n2, rfl, -⟩ := r_need_ok h2
  obtain ⟨n3, rfl, -⟩ := r_need_ok h3
  refine ⟨hi, n1, n2, n3, ?_⟩
  split at h
  · rename_i q9
    obtain ⟨d, h4, h⟩ := r_b_ok h
    obtain ⟨rfl, -⟩ := r_pass_ok h4
    obtain ⟨d, h5, h⟩ := r_b_ok h
    obtain ⟨n5, rfl, -⟩ := r_need_ok h5
    obtain ⟨n6, rfl, -⟩ := r_need_ok h
    exact Or.inl ⟨q9, n5, n6, rfl⟩
  · obtain ⟨n6, rfl, -⟩ := r_need_ok h
    exact Or.inr ⟨n6, rfl⟩
theorem r_psh_in {i e : Nat} (h : r_psh K i e) : i < e ∧ ∀ m, i < m → m < e → K m = 27 ∨ K m = 28 ∨ K m = 29 ∨ K m = 8 := by
  obtain ⟨h1, h2, h3, h4, h5, h6, h7⟩ := h
  have : K i = 0 ∨ K i = 1 ∨ K i = 6 ∨ K i = 2 ∨ K i = 3 ∨ K i = 5 ∨ K i = 4 := by omega
  have four : (K (i + 2) = 28 ∨ K (i + 2) = 27) → K (i + 3) = 29 → e = i + 4 → i < e ∧ ∀ m, i < m → m < e → K m = 27 ∨ K m = 28 ∨ K m = 29 ∨ K m = 8 := by
    rintro a c rfl
    refine ⟨by omega, fun m m1 m2 => ?_⟩
    have : m = i + 1 ∨ m = i + 2 ∨ m = i + 3 := by omega
    rcases this with rfl | rfl | rfl <;> omega
  rcases this with q | q | q | q | q | q | q
  · have := h4 (by omega); exact four (Or.inl this.1) this.2.1 this.2.2
  · have := h4 (by omega); exact four (Or.inl this.1) this.2.1 this.2.2
  · have := h4 (by omega); exact four (Or.inl this.1) this.2.1 this.2.2
  · have := h5 (by omega); exact four (Or.inr this.1) this.2.1 this.2.2
  · have := h5 (by omega); exact four (Or.inr this.1) this.2.1 this.2.2
  · obtain ⟨z1, z2 | z2⟩ := h6 q
    · obtain ⟨z2, z3, z4, rfl⟩ := z2
      refine ⟨by omega, fun m m1 m2 => ?_⟩
      have : m = i + 1 ∨ m = i + 2 ∨ m = i + 3 ∨ m = i + 4 ∨ m = i + 5 := by omega
      rcases this with rfl | rfl | rfl | rfl | rfl <;> omega
    · exact four (Or.inr z1) z2.1 z2.2
  · obtain ⟨z1, rfl⟩ := h7 q
    refine ⟨by omega, fun m m1 m2 => ?_⟩
    have : m = i + 1 ∨ m = i + 2 := by omega
    rcases this with rfl | rfl <;> omega
theorem r_hs7_in {i e : Nat} (h : r_hs7 K i e) : i < e ∧ ∀ m, i < m → m < e → K m = 27 ∨ K m = 28 ∨ K m = 29 ∨ K m = 9 := by
  obtain ⟨h1, h2, h3, h4, h5⟩ := h
  rcases h5 with ⟨z1, z2, z3, rfl⟩ | ⟨z1, rfl⟩
  · refine ⟨by omega, fun m m1 m2 => ?_⟩
    have : m = i + 1 ∨ m = i + 2 ∨ m = i + 3 ∨ m = i + 4 ∨ m = i + 5 := by omega
    rcases this with rfl | rfl | rfl | rfl | rfl <;> omega
  · refine ⟨by omega, fun m m1 m2 => ?_⟩
    have : m = i + 1 ∨ m = i + 2 ∨ m = i + 3 := by omega
    rcases this with rfl | rfl | rfl <;> omega
/-! pieces after pieces -/
theorem r_rules_Q {Q : Nat → Prop} {E : Nat} (hr : ∀ i e, e ≤ E → K i = 11 → r_rule K i = .ok e → ∀ m, i ≤ m → m < e → Q m) : ∀ n i e, e ≤ E → r_rules K n i = .ok e → ∀ m, i ≤ m → m < e → Q m := by
  intro n
  induction n with
  | zero => intro i e _ h m h1 h2; cases h; omega
  | succ n ih =>
    intro i e he h m h1 h2
    rw [r_rules] at h
    split at h
    · rename_i q
      obtain ⟨a, h3, h⟩ := r_b_ok h
      have := r_rules_le _ _ _ h
      by_cases q2 : m < a
      · exact hr i a (by omega) q h3 m h1 q2
      · exact ih a e he h m (by omega) h2
    · cases h; omega
theorem r_mode_Q {Q : Nat → Prop} {E : Nat} (hm : ∀ i e, e ≤ E → r_hs7 K i e → ∀ m, i ≤ m → m < e → Q m) (hr : ∀ i e, e ≤ E → K i = 11 → r_rule K i = .ok e → ∀ m, i ≤ m → m < e → Q m) (hq : ∀ i, K i = 10 → Q i) {i e : Nat} (he : e ≤ E) (hi : K i = 7) (h : r_mode K i = .ok e) :
    (∀ m, i ≤ m → m < e → Q m) ∧ e ≤ 1000 := by
  unfold r_mode at h
  obtain ⟨a, h1, h⟩ := r_b_ok h
  obtain ⟨c, h2, h⟩ := r_b_ok h
  obtain ⟨n3, rfl, n4⟩ := r_need_ok h
  have := r_rules_le _ _ _ h2
  refine ⟨fun m m1 m2 => ?_, by omega⟩
  by_cases q1 : m < a
  · exact hm i a (by omega) (r_mhead_sh hi h1) m m1 q1
  by_cases q2 : m < c
  · exact r_rules_Q hr 1001 a c (by omega) h2 m (by omega) q2
  · have : m = c := by omega
    subst this
    exact hq m n3
theorem r_modes_Q {Q : Nat → Prop} {E : Nat} (hm : ∀ i e, e ≤ E → r_hs7 K i e → ∀ m, i ≤ m → m < e → Q m) (hr : ∀ i e, e ≤ E → K i = 11 → r_rule K i = .ok e → ∀ m, i ≤ m → m < e → Q m) (hq : ∀ i, K i = 10 → Q i) : ∀ n i, i ≤ 1000 → 1001 ≤ n + i → r_modes K n i = .ok E →
    i ≤ E ∧ E ≤ 1000 ∧ K E = 41 ∧ (i < E → K i = 7) ∧ ∀ m, i ≤ m → m < E → Q m := by
  have le : ∀ n i j, r_modes K n i = .ok j → i ≤ j := by
    intro n
    induction n with
    | zero => intro i j h; cases h; exact Nat.le_refl _
    | succ n ih =>
      intro i j h
      rw [r_modes] at h
      split at h
      · obtain ⟨a, h1, h⟩ := r_b_ok h
        have := r_mode_lt h1
        have := ih _ _ h
        omega
      · split at h
        · cases h; exact Nat.le_refl _
        · cases h
  intro n
  induction n with
  | zero => intro i h1 h2; omega
  | succ n ih =>
    intro i h1 h2 h
    rw [r_modes] at h
    split at h
    · rename_i q
      obtain ⟨a, h3, h⟩ := r_b_ok h
      have h4 := r_mode_lt h3
      have h5 := le _ _ _ h
      obtain ⟨l1, l2⟩ := r_mode_Q hm hr hq h5 q h3
      obtain ⟨i1, i2, i3, -, i4⟩ := ih a l2 (by omega) h
      refine ⟨by omega, i2, i3, fun _ => q, fun m m1 m2 => ?_⟩
      by_cases q2 : m < a
      · exact l1 m m1 q2
      · exact i4 m (by omega) m2
    · split at h
      · rename_i q q2
        cases h
        exact ⟨Nat.le_refl _, h1, q2, fun z => absurd z (Nat.lt_irrefl _), fun m m1 m2 => by omega⟩
      · cases h
theorem r_parts_Q {Q : Nat → Prop} (hp : ∀ i e, r_psh K i e → ∀ m, i ≤ m → m < e → Q m) : ∀ n i p, i ≤ 1000 → 1001 ≤ n + i → r_parts K n i = .ok p → i ≤ p ∧ p ≤ 1000 ∧ ∀ m, i ≤ m → m < p → Q m := by
  intro n
  induction n with
  | zero => intro i p h1 h2; omega
  | succ n ih =>
    intro i p h1 h2 h
    rw [r_parts] at h
    split at h
    · rename_i q
      obtain ⟨a, h3, h⟩ := r_b_ok h
      have h4 := r_part_sh q h3
      have h5 := r_psh_in h4
      have h6 : a ≤ 1000 := by
        unfold r_part at h3
        obtain ⟨_, _, h3⟩ := r_b_ok h3
        obtain ⟨_, _, h3⟩ := r_b_ok h3
        have nn : ∀ {x c : Nat} {k l : Nat}, r_b (r_need K k x) (r_need K l) = .ok c → c ≤ 1000 := by
          intro x c k l h
          obtain ⟨d, -, h⟩ := r_b_ok h
          have := r_need_ok h
          omega
        split at h3
        · exact nn h3
        split at h3
        · exact nn h3
        split at h3
        · obtain ⟨_, _, h3⟩ := r_b_ok h3
          split at h3
          · obtain ⟨_, _, h3⟩ := r_b_ok h3
            exact nn h3
          · have := r_need_ok h3; omega
        · have := r_need_ok h3; omega
      obtain ⟨i1, i2, i4⟩ := ih a p h6 (by omega) h
      refine ⟨by omega, i2, fun m m1 m2 => ?_⟩
      by_cases q2 : m < a
      · exact hp i a h4 m m1 q2
      · exact i4 m (by omega) m2
    · cases h
      exact ⟨Nat.le_refl _, h1, fun m m1 m2 => by omega⟩
theorem r_gram_Q {P Q : Nat → Prop} {E : Nat} (hp : ∀ i e, r_psh K i e → ∀ m, i ≤ m → m < e → P m) (hm : ∀ i e, e ≤ E → r_hs7 K i e → ∀ m, i ≤ m → m < e → Q m) (hr : ∀ i e, e ≤ E → K i = 11 → r_rule K i = .ok e → ∀ m, i ≤ m → m < e → Q m) (hq : ∀ i, K i = 10 → Q i) (h : r_gram K = .ok E) :
    K E = 41 ∧ E ≤ 1000 ∧ ∃ p, p ≤ E ∧ (∀ m, m < p → P m) ∧ (p < E → K p = 7) ∧ ∀ m, p ≤ m → m < E → Q m := by
  unfold r_gram at h
  obtain ⟨p, h1, h⟩ := r_b_ok h
  obtain ⟨l1, l2, l3⟩ := r_parts_Q hp 1001 0 p (by omega) (by omega) h1
  obtain ⟨g1, g2, g3, g4, g5⟩ := r_modes_Q hm hr hq 1001 p l2 (by omega) h
  exact ⟨g3, g2, p, g1, fun m hm => l3 m (Nat.zero_le _) hm, g4, g5⟩
theorem r_sh_one {j c s c' s' : Nat} (h : r_sh K j c s) (g : r_sh K j c' s') : c = c' ∧ s = s' := by
  obtain ⟨a1, a2, a3, a4, a5, a6, a7, a8, a9, a10, a11, a12⟩ := h
  obtain ⟨d1, d2, d3, d4, d5, d6, d7, d8, d9, d10, d11, d12⟩ := g
  have hc : c = c' := by
    rcases Nat.lt_trichotomy c c' with q | q | q
    · exfalso
      by_cases q2 : c = j + 2
      · subst q2; omega
      · have := d10 c (by omega) q; unfold r_ek at this; omega
    · exact q
    · exfalso
      by_cases q2 : c' = j + 2
      · subst q2; omega
      · have := a10 c' (by omega) q; unfold r_ek at this; omega
  subst hc
  refine ⟨rfl, ?_⟩
  rcases Nat.lt_trichotomy s s' with q | q | q
  · exfalso
    have := d11 s (by omega) q; unfold r_ek at this; omega
  · exact q
  · exfalso
    have := a11 s' (by omega) q; unfold r_ek at this; omega
end
section
variable {b : Nat → Nat} {L : Nat}
/-- acts stand in rules -/
theorem r_acts_in {E : Nat} (h : r_gram (r_tK b L) = .ok E) {m : Nat} (hm : m < E) (hk : 16 ≤ r_tK b L m ∧ r_tK b L m ≤ 24) : ∃ j c s, r_sh (r_tK b L) j c s ∧ c < m ∧ m < s ∧ s < E := by
  obtain ⟨-, -, p, h1, h2, -, h3⟩ := r_gram_Q (K := r_tK b L) (E := E) (P := fun m => ¬ (16 ≤ r_tK b L m ∧ r_tK b L m ≤ 24)) (Q := fun m => (16 ≤ r_tK b L m ∧ r_tK b L m ≤ 24) → ∃ j c s, r_sh (r_tK b L) j c s ∧ c < m ∧ m < s ∧ s < E)
    (fun i e hp m m1 m2 z => by
      by_cases q : m = i
      · subst q; have := hp.1; omega
      · have := (r_psh_in hp).2 m (by omega) m2; omega)
    (fun i e _ hp m m1 m2 z => by
      by_cases q : m = i
      · subst q; have := hp.1; omega
      · have := (r_hs7_in hp).2 m (by omega) m2; omega)
    (fun i e he hk hr m m1 m2 z => by
      obtain ⟨c, sh, h0⟩ := r_rule_sh hk hr
      have sh' := sh
      obtain ⟨a1, a2, a3, a4, a5, a6, a7, a8, a9, a10, a11, a12⟩ := sh'
      refine ⟨i, c, e - 1, sh, ?_, ?_, by omega⟩
      · by_cases q : c < m
        · exact q
        · exfalso
          by_cases q0 : m = c
          · subst q0; omega
          by_cases q1 : m = i
          · subst q1; omega
          by_cases q2 : m = i + 1
          · subst q2; omega
          by_cases q3 : m = i + 2
          · subst q3; omega
          · have := a10 m (by omega) (by omega); unfold r_ek at this; omega
      · by_cases q : m = e - 1
        · rw [q, a8] at z; omega
        · omega)
    (fun i hi z => by omega) h
  by_cases q : m < p
  · exact absurd hk (h2 m q)
  · exact h3 m (by omega) hm hk
end
