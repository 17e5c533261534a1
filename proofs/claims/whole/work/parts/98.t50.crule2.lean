/-! ===== the class takes the rules ===== -/
section
variable {F : Nat} {b : Nat → Nat} {L N E : Nat} {V1 T : zV}
theorem r_rule_at (hgr : r_gram (r_tK b L) = .ok E) {j : Nat} (hj : j < E) (hk : r_tK b L j = 11) : ∃ c s, r_sh (r_tK b L) j c s ∧ s < E := by
  obtain ⟨-, -, p, h1, h2, h3, h4⟩ := r_gram_Q (K := r_tK b L) (E := E) (P := fun m => ¬ r_tK b L m = 11) (Q := fun m => r_tK b L m = 11 → ∃ c s, r_sh (r_tK b L) m c s ∧ s < E)
    (fun i e hp m m1 m2 => by
      by_cases q : m = i
      · subst q; have := hp.1; omega
      · have := (r_psh_in hp).2 m (by omega) m2; omega)
    (fun i e _ hp m m1 m2 z => by
      by_cases q : m = i
      · subst q; have := hp.1; omega
      · have := (r_hs7_in hp).2 m (by omega) m2; omega)
    (fun i e he hk hr m m1 m2 z => by
      obtain ⟨c, sh, h0⟩ := r_rule_sh hk hr
      by_cases q1 : m = i
      · subst q1; exact ⟨c, e - 1, sh, by omega⟩
      exfalso
      obtain ⟨a1, a2, a3, a4, a5, a6, a7, a8, a9, a10, a11, a12⟩ := sh
      by_cases q2 : m = i + 1
      · subst q2; omega
      by_cases q5 : m = c
      · subst q5; omega
      by_cases q6 : m = e - 1
      · subst q6; omega
      by_cases q3 : m = i + 2
      · subst q3; omega
      by_cases q4 : m < c
      · have := a10 m (by omega) q4; unfold r_ek at this; omega
      · have := a11 m (by omega) (by omega); unfold r_ek at this; omega)
    (fun i hi z => by omega) hgr
  by_cases q : j < p
  · exact absurd hk (h2 j q)
  · exact h4 j (by omega) hj hk
def r_e5 (b : Nat → Nat) (L E j : Nat) : Int32 := if r_tK b L (j + 1) = 27 then nI (r_nu b L E (j + 1)) else if r_tK b L (j + 1) = 12 then -1 else -2
def r_u6 (K : Nat → Nat) (i r : Nat) (T : zV) : Prop :=
  ((zA T 18 r = -1 ∧ ∀ m, m < i → r_cn K 11 m = r + 1 → ¬ K m = 14) ∨ ∃ m, m < i ∧ r_cn K 11 m = r + 1 ∧ K m = 14 ∧ zA T 18 r = nI (m + 1)) ∧
  ((zA T 19 r = 1000 ∧ ∀ m, m < i → r_cn K 11 m = r + 1 → ¬ K m = 30) ∨ ∃ m, m < i ∧ r_cn K 11 m = r + 1 ∧ K m = 30 ∧ zA T 19 r = nI (m + 1)) ∧
  (zA T 20 r = 0 ↔ ∀ m, m < i → r_cn K 11 m = r + 1 → ¬ (K m = 16 ∨ K m = 18 ∨ K m = 23)) ∧ (zA T 21 r = 0 ↔ ∀ m, m < i → r_cn K 11 m = r + 1 → ¬ K m = 21)
def r_c6 (b : Nat → Nat) (L E sz i : Nat) (T : zV) : Prop := (zI T 13 2 = nI sz ∧ zI T 13 3 = nI (r_cn (r_tK b L) 11 i)) ∧ (∀ j, j < i → zA T 14 j = nI (r_tK b L j) ∧ zA T 15 j = nI (r_nu b L E j)) ∧
  (∀ j, j < i → r_tK b L j = 7 → zA T 16 (r_cn (r_tK b L) 7 j) = nI (r_cn (r_tK b L) 11 j)) ∧ (∀ j, j < i → r_tK b L j = 11 → zA T 17 (r_cn (r_tK b L) 11 j) = r_e5 b L E j) ∧ ∀ r, r < r_cn (r_tK b L) 11 i → r_u6 (r_tK b L) i r T
theorem r_u6_same {K : Nat → Nat} {i r : Nat} {T' : zV} (h : r_u6 K i r T) (h1 : ¬ (r_cn K 11 i = r + 1 ∧ (K i = 14 ∨ K i = 30 ∨ K i = 16 ∨ K i = 18 ∨ K i = 23 ∨ K i = 21))) (e18 : zA T' 18 r = zA T 18 r) (e19 : zA T' 19 r = zA T 19 r) (e20 : zA T' 20 r = zA T 20 r) (e21 : zA T' 21 r = zA T 21 r) : r_u6 K (i + 1) r T' := by
  obtain ⟨g1, g2, g3, g4⟩ := h
  have up : ∀ P : Nat → Prop, (r_cn K 11 i = r + 1 → ¬ P i) → ((∀ m, m < i → r_cn K 11 m = r + 1 → ¬ P m) ↔ ∀ m, m < i + 1 → r_cn K 11 m = r + 1 → ¬ P m) := by
    intro P hP
    refine ⟨fun z m m1 m2 => ?_, fun z m m1 m2 => z m (by omega) m2⟩
    by_cases q : m = i
    · subst q; exact hP m2
    · exact z m (by omega) m2
  unfold r_u6
  rw [e18, e19, e20, e21]
  refine ⟨?_, ?_, g3.trans (up (fun m => K m = 16 ∨ K m = 18 ∨ K m = 23) fun z y => h1 ⟨z, by omega⟩), g4.trans (up (fun m => K m = 21) fun z y => h1 ⟨z, by omega⟩)⟩
  · rcases g1 with ⟨z1, z2⟩ | ⟨m, m1, m2, m3, m4⟩
    · exact Or.inl ⟨z1, (up (fun m => K m = 14) fun z y => h1 ⟨z, by omega⟩).mp z2⟩
    · exact Or.inr ⟨m, by omega, m2, m3, m4⟩
  · rcases g2 with ⟨z1, z2⟩ | ⟨m, m1, m2, m3, m4⟩
    · exact Or.inl ⟨z1, (up (fun m => K m = 30) fun z y => h1 ⟨z, by omega⟩).mp z2⟩
    · exact Or.inr ⟨m, by omega, m2, m3, m4⟩
theorem c_openRule {i r : Nat} (h : r_nv b L N E N V1) (hi : i + 1 < N) (hev : r_tK b L (i + 1) = 12 ∨ r_tK b L (i + 1) = 13 ∨ r_tK b L (i + 1) = 27) (hr : r < 80) (h3 : zI T 13 3 = nI r) : ∃ T', fX6_openRule F V1 T (nI (i + 1)) = some T' ∧ zA T' 17 = upd (zA T 17) r (r_e5 b L E i) ∧ zA T' 18 = upd (zA T 18) r (-1) ∧ zA T' 19 = upd (zA T 19) r 1000 ∧ zA T' 20 = upd (zA T 20) r 0 ∧ zA T' 21 = upd (zA T 21) r 0 ∧ y_fr [] [17, 18, 19, 20, 21] T T' := by
  have b50 : ∀ W : zV, zI W 13 3 = nI r → y_fr [] [17, 18, 19, 20, 21] T W → zA W 18 = zA T 18 → zA W 19 = zA T 19 → zA W 20 = zA T 20 → zA W 21 = zA T 21 → zA W 17 = upd (zA T 17) r (r_e5 b L E i) → ∃ T', fX6_openRule_b50 F V1 W = some T' ∧ zA T' 17 = upd (zA T 17) r (r_e5 b L E i) ∧ zA T' 18 = upd (zA T 18) r (-1) ∧ zA T' 19 = upd (zA T 19) r 1000 ∧ zA T' 20 = upd (zA T 20) r 0 ∧ zA T' 21 = upd (zA T 21) r 0 ∧ y_fr [] [17, 18, 19, 20, 21] T T' := by
    intro W e3 f e18 e19 e20 e21 e17
    have g1 : ∀ f, zI (zsA W 18 f) 13 3 = nI r := fun _ => e3
    have g2 : ∀ f g, zI (zsA (zsA W 18 f) 19 g) 13 3 = nI r := fun _ _ => e3
    have g3 : ∀ f g u, zI (zsA (zsA (zsA W 18 f) 19 g) 20 u) 13 3 = nI r := fun _ _ _ => e3
    have d1 : ∀ f, zA (zsA W 18 f) 19 = zA W 19 := fun _ => rfl
    have d2 : ∀ f g, zA (zsA (zsA W 18 f) 19 g) 20 = zA W 20 := fun _ _ => rfl
    have d3 : ∀ f g u, zA (zsA (zsA (zsA W 18 f) 19 g) 20 u) 21 = zA W 21 := fun _ _ _ => rfl
    rw [fX6_openRule_b50]
    simp only [e3, g1, g2, g3, d1, d2, d3, y_ck (show r < 80 from hr) (show 80 < 2 ^ 31 by decide), y_let, nI_clamp (show r < 2 ^ 31 by omega), e18, e19, e20, e21]
    exact ⟨_, rfl, e17, rfl, rfl, rfl, rfl, y_fr_A (y_fr_A (y_fr_A (y_fr_A f (by decide)) (by decide)) (by decide)) (by decide)⟩
  have kle := r_tK_le (b := b) (L := L) (i + 1)
  unfold fX6_openRule
  rw [c_kat2 h hi, y_bd]
  by_cases q27 : r_tK b L (i + 1) = 27
  · rw [if_pos (show nI (r_tK b L (i + 1)) = (27 : Int32) by rw [q27]; rfl), c_num h hi, y_bd, h3, y_ck hr (by decide), y_let, nI_clamp (by omega)]
    refine b50 (zsA T 17 (upd (zA T 17) r (nI (r_nu b L E (i + 1))))) h3 (y_fr_A y_fr_refl (by decide)) rfl rfl rfl rfl ?_
    unfold r_e5; rw [if_pos q27]; rfl
  rw [if_neg (show ¬ nI (r_tK b L (i + 1)) = (27 : Int32) from fun z => q27 ((nI_eq (b := 27) (by omega) (by decide)).mp z))]
  by_cases q12 : r_tK b L (i + 1) = 12
  · rw [if_pos (show nI (r_tK b L (i + 1)) = (12 : Int32) by rw [q12]; rfl), fX6_openRule_b49, h3, y_ck hr (by decide), y_let, nI_clamp (by omega)]
    refine b50 (zsA T 17 (upd (zA T 17) r (-1))) h3 (y_fr_A y_fr_refl (by decide)) rfl rfl rfl rfl ?_
    unfold r_e5; rw [if_neg q27, if_pos q12]; rfl
  · rw [if_neg (show ¬ nI (r_tK b L (i + 1)) = (12 : Int32) from fun z => q12 ((nI_eq (b := 12) (by omega) (by decide)).mp z)), fX6_openRule_b49, h3, y_ck hr (by decide), y_let, nI_clamp (by omega)]
    refine b50 (zsA T 17 (upd (zA T 17) r (-2))) h3 (y_fr_A y_fr_refl (by decide)) rfl rfl rfl rfl ?_
    unfold r_e5; rw [if_neg q27, if_neg q12]; rfl
end
