/-! ===== the class takes the rules: one token ===== -/
section
variable {F : Nat} {b : Nat → Nat} {L N E : Nat} {V1 T : zV}
theorem r_rule_mode (hgr : r_gram (r_tK b L) = .ok E) {j : Nat} (hj : j < E) (hk : r_tK b L j = 11) : 0 < r_cn (r_tK b L) 7 j := by
  obtain ⟨-, -, p, h1, h2, h3, -⟩ := r_gram_Q (K := r_tK b L) (E := E) (P := fun m => ¬ r_tK b L m = 11) (Q := fun _ => True)
    (fun i e hp m m1 m2 => by
      by_cases q : m = i
      · subst q; have := hp.1; omega
      · have := (r_psh_in hp).2 m (by omega) m2; omega)
    (fun _ _ _ _ _ _ _ => trivial) (fun _ _ _ _ _ _ _ _ => trivial) (fun _ _ => trivial) hgr
  have hp : p ≤ j := by
    by_cases z : p ≤ j
    · exact z
    · exact absurd hk (h2 j (by omega))
  have k7 := h3 (by omega)
  have : p < j := by
    by_cases z : p = j
    · subst z; omega
    · omega
  have := r_cn_lt (K := r_tK b L) this k7
  omega
/-- row 22 with one lead more -/
def r_ald (row : Nat → Int32) (f t : Int32) : Nat → Int32 := if f < 0 then row else if (24 : Int32) ≤ f then row else if t < 0 then row else if (24 : Int32) ≤ t then row else upd row f.toNatClampNeg (row f.toNatClampNeg ||| ((1 : Int32) <<< (t &&& 31)))
def r_node (m ev : Int32) : Int32 := if ev = -1 then (2 : Int32) * m else (2 : Int32) * m + 1
def r_l22 (e : Int32) (k : Nat) (x3 x4 : Int32) (row : Nat → Int32) : Nat → Int32 := if 0 ≤ e then row else if k = 18 then r_ald row (r_node x4 e) (r_node x3 (-1)) else if k = 19 then r_ald row (r_node x4 e) (r_node x4 (-2)) else row
theorem c_addLead (x1 x2 : Int32) : ∃ T', fX6_addLead F T x1 x2 = some T' ∧ zA T' 22 = r_ald (zA T 22) x1 x2 ∧ y_fr [] [22] T T' := by
  unfold fX6_addLead r_ald
  by_cases a1 : x1 < 0
  · rw [if_pos a1, if_pos a1]; exact ⟨T, rfl, rfl, y_fr_refl⟩
  by_cases a2 : (24 : Int32) ≤ x1
  · rw [if_neg a1, if_pos a2, if_neg a1, if_pos a2]; exact ⟨T, rfl, rfl, y_fr_refl⟩
  by_cases a3 : x2 < 0
  · rw [if_neg a1, if_neg a2, if_pos a3, if_neg a1, if_neg a2, if_pos a3]; exact ⟨T, rfl, rfl, y_fr_refl⟩
  by_cases a4 : (24 : Int32) ≤ x2
  · rw [if_neg a1, if_neg a2, if_neg a3, if_pos a4, if_neg a1, if_neg a2, if_neg a3, if_pos a4]; exact ⟨T, rfl, rfl, y_fr_refl⟩
  obtain ⟨j, j1, rfl⟩ := nI_of a1
  have j2 : j < 24 := by
    by_cases z : j < 24
    · exact z
    · exact absurd (nI_le (a := 24) (b := j) (by omega) j1) a2
  rw [if_neg a1, if_neg a2, if_neg a3, if_neg a4, if_neg a1, if_neg a2, if_neg a3, if_neg a4, y_ck j2 (by decide), y_ck j2 (by decide), y_let]
  exact ⟨_, rfl, rfl, y_fr_A y_fr_refl (by decide)⟩
theorem c_nodeOf (x0 x1 : Int32) : fX6_nodeOf F x0 x1 = some (r_node x0 x1) := by
  unfold fX6_nodeOf r_node
  split <;> rfl
theorem c_b123 {r k : Nat} (hr : r < 80) (hk : k ≤ 42) (x3 x4 : Int32) : ∃ T', fX6_takeIntoRule_b123 F T (nI r) x3 x4 (nI k) = some T' ∧ zA T' 22 = r_l22 (zA T 17 r) k x3 x4 (zA T 22) ∧ y_fr [] [22] T T' := by
  have ne : ∀ c : Nat, c ≤ 42 → ¬ k = c → ¬ nI k = nI c := fun c hc hne z => hne ((nI_eq (by omega) (by omega)).mp z)
  rw [fX6_takeIntoRule_b123]
  simp only [y_ck (show r < 80 from hr) (show 80 < 2 ^ 31 by decide), nI_clamp (show r < 2 ^ 31 by omega)]
  unfold r_l22
  by_cases q : 0 ≤ zA T 17 r
  · rw [if_pos q, if_pos q, fX6_takeIntoRule_b162]
    simp only [y_ck (show r < 80 from hr) (show 80 < 2 ^ 31 by decide), nI_clamp (show r < 2 ^ 31 by omega)]
    rw [if_pos q]
    exact ⟨T, rfl, rfl, y_fr_refl⟩
  rw [if_neg q, if_neg q]
  by_cases q18 : k = 18
  · subst q18
    obtain ⟨T', e3, e4, e5⟩ := c_addLead (F := F) (T := T) (r_node x4 (zA T 17 r)) (r_node x3 (-1))
    rw [if_pos (show nI 18 = (18 : Int32) from rfl), if_pos rfl, c_nodeOf, y_bd, c_nodeOf, y_bd, e3, y_bd]
    exact ⟨T', rfl, e4, e5⟩
  rw [if_neg (show ¬ nI k = (18 : Int32) from ne 18 (by decide) q18), if_neg q18, fX6_takeIntoRule_b162]
  simp only [y_ck (show r < 80 from hr) (show 80 < 2 ^ 31 by decide), nI_clamp (show r < 2 ^ 31 by omega)]
  rw [if_neg q]
  by_cases q19 : k = 19
  · subst q19
    obtain ⟨T', e3, e4, e5⟩ := c_addLead (F := F) (T := T) (r_node x4 (zA T 17 r)) (r_node x4 (-2))
    rw [if_pos (show nI 19 = (19 : Int32) from rfl), if_pos rfl, c_nodeOf, y_bd, c_nodeOf, y_bd, e3, y_bd]
    exact ⟨T', rfl, e4, e5⟩
  rw [if_neg (show ¬ nI k = (19 : Int32) from ne 19 (by decide) q19), if_neg q19]
  exact ⟨T, rfl, rfl, y_fr_refl⟩
theorem c_into {r i k m : Nat} (hr : r < 80) (hi : i < 1000) (hk : k ≤ 42) (hm : m < 2 ^ 31) (x3 : Int32) (h14 : zA T 14 i = nI k) : ∃ T', fX6_takeIntoRule F T (nI r) (nI i) x3 (nI m) = some T' ∧
    zA T' 18 = (if k = 14 then upd (zA T 18) r (nI (i + 1)) else zA T 18) ∧ zA T' 19 = (if k = 30 then upd (zA T 19) r (nI (i + 1)) else zA T 19) ∧
    zA T' 20 = (if k = 16 ∨ k = 18 ∨ k = 23 then upd (zA T 20) r 1 else zA T 20) ∧ zA T' 21 = (if k = 21 then upd (zA T 21) r 1 else zA T 21) ∧ zA T' 22 = r_l22 (zA T 17 r) k x3 (nI m) (zA T 22) ∧ y_fr [] [18, 19, 20, 21, 22] T T' := by
  have ne : ∀ c : Nat, c ≤ 42 → ¬ k = c → ¬ nI k = nI c := fun c hc hne z => hne ((nI_eq (by omega) (by omega)).mp z)
  have fin : ∀ (W : zV), y_fr [] [18, 19, 20, 21, 22] T W → zA W 22 = zA T 22 → ∃ T', fX6_takeIntoRule_b123 F W (nI r) x3 (nI m) (nI k) = some T' ∧ zA T' 18 = zA W 18 ∧ zA T' 19 = zA W 19 ∧ zA T' 20 = zA W 20 ∧ zA T' 21 = zA W 21 ∧ zA T' 22 = r_l22 (zA T 17 r) k x3 (nI m) (zA T 22) ∧ y_fr [] [18, 19, 20, 21, 22] T T' := by
    intro W f e22
    obtain ⟨T', a1, a22, a2⟩ := c_b123 (F := F) (T := W) hr hk x3 (nI m)
    rw [e22, f.2.1 17 (by decide)] at a22
    exact ⟨T', a1, a2.2.1 18 (by decide), a2.2.1 19 (by decide), a2.2.1 20 (by decide), a2.2.1 21 (by decide), a22, y_fr_trans f (y_fr_mono a2 (by decide) (by decide))⟩
  unfold fX6_takeIntoRule
  rw [if_neg (nI_pos (by omega)), if_neg (show ¬ (80 : Int32) ≤ nI r from nI_ge (b := 80) hr (by decide)), if_neg (nI_pos (by omega)), if_neg (nI_pos (by omega)), if_pos (show nI i < (1000 : Int32) from nI_lt (b := 1000) hi (by decide))]
  simp only [y_ck (show i < 1000 from hi) (show 1000 < 2 ^ 31 by decide), y_ck (show r < 80 from hr) (show 80 < 2 ^ 31 by decide), y_let, nI_clamp (show i < 2 ^ 31 by omega), nI_clamp (show r < 2 ^ 31 by omega), h14, nI_1]
  by_cases q14 : k = 14
  · subst q14
    rw [if_pos (show nI 14 = (14 : Int32) from rfl)]
    exact fin (zsA T 18 (upd (zA T 18) r (nI (i + 1)))) (y_fr_A y_fr_refl (by decide)) rfl
  rw [if_neg (show ¬ nI k = (14 : Int32) from ne 14 (by decide) q14)]
  by_cases q30 : k = 30
  · subst q30
    rw [if_pos (show nI 30 = (30 : Int32) from rfl)]
    exact fin (zsA T 19 (upd (zA T 19) r (nI (i + 1)))) (y_fr_A y_fr_refl (by decide)) rfl
  rw [if_neg (show ¬ nI k = (30 : Int32) from ne 30 (by decide) q30)]
  by_cases q21 : k = 21
  · subst q21
    rw [if_pos (show nI 21 = (21 : Int32) from rfl)]
    exact fin (zsA T 21 (upd (zA T 21) r (vp_nar .boolean 1))) (y_fr_A y_fr_refl (by decide)) rfl
  rw [if_neg (show ¬ nI k = (21 : Int32) from ne 21 (by decide) q21), if_neg q14, if_neg q30, if_neg q21]
  have b116 : ∃ T', fX6_takeIntoRule_b116 F T (nI r) x3 (nI m) (nI k) = some T' ∧ zA T' 18 = zA T 18 ∧ zA T' 19 = zA T 19 ∧ zA T' 20 = upd (zA T 20) r 1 ∧ zA T' 21 = zA T 21 ∧ zA T' 22 = r_l22 (zA T 17 r) k x3 (nI m) (zA T 22) ∧ y_fr [] [18, 19, 20, 21, 22] T T' := by
    rw [fX6_takeIntoRule_b116, y_ck hr (by decide), y_let, nI_clamp (by omega)]
    exact fin (zsA T 20 (upd (zA T 20) r (vp_nar .boolean 1))) (y_fr_A y_fr_refl (by decide)) rfl
  by_cases q16 : k = 16
  · subst q16
    rw [if_pos (show nI 16 = (16 : Int32) from rfl), if_pos (by decide)]
    exact b116
  rw [if_neg (show ¬ nI k = (16 : Int32) from ne 16 (by decide) q16)]
  by_cases q18 : k = 18
  · subst q18
    rw [if_pos (show nI 18 = (18 : Int32) from rfl), if_pos (by decide)]
    exact b116
  rw [if_neg (show ¬ nI k = (18 : Int32) from ne 18 (by decide) q18)]
  by_cases q23 : k = 23
  · subst q23
    rw [if_pos (show nI 23 = (23 : Int32) from rfl), if_pos (by decide)]
    exact b116
  rw [if_neg (show ¬ nI k = (23 : Int32) from ne 23 (by decide) q23), if_neg (by omega)]
  exact fin T y_fr_refl rfl
/-- no ring is missed -/
theorem c_findRing (hF : 100 ≤ F) {c : Nat} (hc : c ≤ 12) : ∃ T', fX6_findRing F T (nI c) = some T' ∧ y_fr [(13, 11)] [22] T T' := by
  have l77 : ∀ (n M : Nat) (W : zV), n ≤ 12 → n + 1 ≤ M → ∃ T', fX6_findRing_l77 F M W (nI n - 1) = some T' ∧ y_fr [(13, 11)] [22] W T' := by
    intro n
    induction n with
    | zero =>
      intro M W hn hM
      obtain ⟨M, rfl⟩ : ∃ M', M = M' + 1 := ⟨M - 1, by omega⟩
      rw [fX6_findRing_l77, if_pos (by decide)]
      exact ⟨W, rfl, y_fr_refl⟩
    | succ n ih =>
      intro M W hn hM
      obtain ⟨M, rfl⟩ : ∃ M', M = M' + 1 := ⟨M - 1, by omega⟩
      have e : nI (n + 1) - 1 = nI n := by rw [show (1 : Int32) = nI 1 from rfl, pk_sub (by omega), Nat.add_sub_cancel]
      have e2 : nI n + -1 = nI n - 1 := by grind
      rw [e, fX6_findRing_l77, if_neg (nI_pos (by omega)), show (2 : Int32) = nI 2 from rfl, pk_mul, y_ck (by omega) (by decide)]
      split
      · rw [y_let, fX6_findRing_b104, e2]
        obtain ⟨T', a1, a2⟩ := ih M (zsI W 13 11 (nI n)) (by omega) (by omega)
        exact ⟨T', a1, y_fr_trans (y_fr_I y_fr_refl (by decide)) a2⟩
      · rw [fX6_findRing_b104, e2]
        exact ih M W (by omega) (by omega)
  have l13 : ∀ (n x M : Nat) (W : zV) (y : Nat) (k2 : zV → Int32 → Int32 → Option zV), x + n = 24 → n + 1 ≤ M → y < 24 → ∃ W', fX6_findRing_l13 F k2 M W (nI c) (nI y) (nI x) = k2 W' (nI c) (nI (y + 1)) ∧ y_fr [(13, 11)] [22] W W' := by
    intro n
    induction n with
    | zero =>
      intro x M W y k2 hx hM hy
      obtain ⟨M, rfl⟩ : ∃ M', M = M' + 1 := ⟨M - 1, by omega⟩
      rw [fX6_findRing_l13, if_pos (show (24 : Int32) ≤ nI x from nI_le (a := 24) (by omega) (by omega)), nI_1]
      exact ⟨W, rfl, y_fr_refl⟩
    | succ n ih =>
      intro x M W y k2 hx hM hy
      obtain ⟨M, rfl⟩ : ∃ M', M = M' + 1 := ⟨M - 1, by omega⟩
      rw [fX6_findRing_l13, if_neg (show ¬ (24 : Int32) ≤ nI x from nI_ge (b := 24) (by omega) (by decide)), y_ck (by omega) (by decide)]
      split
      · rw [y_ck (by omega) (by decide), y_ck (by omega) (by decide), y_ck (by omega) (by decide), y_let, fX6_findRing_b51, nI_1]
        obtain ⟨W', a1, a2⟩ := ih (x + 1) M _ y k2 (by omega) (by omega) hy
        exact ⟨W', a1, y_fr_trans (y_fr_A y_fr_refl (by decide)) a2⟩
      · rw [fX6_findRing_b51, nI_1]
        exact ih (x + 1) M W y k2 (by omega) (by omega) hy
  have l2 : ∀ (n y M : Nat) (W : zV), y + n = 24 → n + 1 ≤ M → ∃ T', fX6_findRing_l2 F M W (nI c) (nI y) = some T' ∧ y_fr [(13, 11)] [22] W T' := by
    intro n
    induction n with
    | zero =>
      intro y M W hy hM
      obtain ⟨M, rfl⟩ : ∃ M', M = M' + 1 := ⟨M - 1, by omega⟩
      have e : (if (12 : Int32) < nI c then (12 : Int32) else nI c) = nI c := if_neg (show ¬ (12 : Int32) < nI c from nI_nlt (a := 12) hc (by omega))
      rw [fX6_findRing_l2, if_pos (show (24 : Int32) ≤ nI y from nI_le (a := 24) (by omega) (by omega)), y_let, y_let, e]
      obtain ⟨T', a1, a2⟩ := l77 c F (zsI W 13 11 (-1)) hc (by omega)
      exact ⟨T', a1, y_fr_trans (y_fr_I y_fr_refl (by decide)) a2⟩
    | succ n ih =>
      intro y M W hy hM
      obtain ⟨M, rfl⟩ : ∃ M', M = M' + 1 := ⟨M - 1, by omega⟩
      rw [fX6_findRing_l2, if_neg (show ¬ (24 : Int32) ≤ nI y from nI_ge (b := 24) (by omega) (by decide))]
      obtain ⟨W', a1, a2⟩ := l13 24 0 F W y (fX6_findRing_l2 F M) rfl (by omega) (by omega)
      obtain ⟨T', d1, d2⟩ := ih (y + 1) M W' (by omega) (by omega)
      exact ⟨T', a1.trans d1, y_fr_trans a2 d2⟩
  unfold fX6_findRing
  exact l2 24 0 F T rfl (by omega)
end
