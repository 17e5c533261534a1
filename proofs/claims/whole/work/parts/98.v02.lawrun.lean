/-! ===== the law, over the systems' parts ===== -/
section
variable {F L : Nat} {xs : Nat → Int32}
theorem law_l18 (hF : 9000 ≤ F) (hL : L ≤ 3072) : ∀ (n k : Nat) (V0 V1 V2 V3 V4 V5 V6 V7 : zV), 513 ≤ n + k → k ≤ 512 → o_inv (250000 * k) V0 V1 V4 V5 V6 V7 →
    ∃ W0 W1 W2 W3 W4 W5 W6 W7, fL_law_l18 F L xs n V0 V1 V2 V3 V4 V5 V6 V7 (nI (6 * k)) = some (1, W0, W1, W2, W3, W4, W5, W6, W7) := by
  intro n
  induction n with
  | zero => intro k V0 V1 V2 V3 V4 V5 V6 V7 h1 h2; omega
  | succ n ih =>
    intro k V0 V1 V2 V3 V4 V5 V6 V7 h1 h2 h
    by_cases q : 6 * k + 6 ≤ L
    rotate_left
    · have lt : nI L - (6 : Int32) < nI (6 * k) := by
        by_cases z : 6 ≤ L
        · rw [show (6 : Int32) = nI 6 from rfl, pk_sub z]
          exact nI_lt (by omega) (by omega)
        · have : ∀ L : Fin 6, nI L.1 - (6 : Int32) < 0 := by decide
          exact Int32.lt_of_lt_of_le (this ⟨L, by omega⟩) (Int32.not_lt.mp (nI_pos (by omega)))
      rw [fL_law_l18, if_pos lt]
      exact ⟨_, _, _, _, _, _, _, _, rfl⟩
    have nlt : ¬ nI L - (6 : Int32) < nI (6 * k) := by
      rw [show (6 : Int32) = nI 6 from rfl, pk_sub (by omega)]
      exact nI_nlt (by omega) (by omega)
    have L31 : L < 2 ^ 31 := by omega
    have e1 : nI (6 * k) + (1 : Int32) = nI (6 * k + 1) := nI_1 _
    have e2 : nI (6 * k) + (2 : Int32) = nI (6 * k + 2) := nI_add _ _
    have e3 : nI (6 * k) + (3 : Int32) = nI (6 * k + 3) := nI_add _ _
    have e4 : nI (6 * k) + (4 : Int32) = nI (6 * k + 4) := nI_add _ _
    have e5 : nI (6 * k) + (5 : Int32) = nI (6 * k + 5) := nI_add _ _
    have e6 : nI (6 * k) + (6 : Int32) = nI (6 * (k + 1)) := by
      rw [show 6 * (k + 1) = 6 * k + 6 by omega]; exact nI_add _ _
    have up : ∀ {V0 V1 V4 V5 V6 V7 : zV} {c : Nat}, o_inv c V0 V1 V4 V5 V6 V7 → c ≤ 250000 * (k + 1) → ∀ V2 V3, ∃ W0 W1 W2 W3 W4 W5 W6 W7, fL_law_b545 F L xs (fL_law_l18 F L xs n) V0 V1 V2 V3 V4 V5 V6 V7 (nI (6 * k)) = some (1, W0, W1, W2, W3, W4, W5, W6, W7) := by
      intro V0 V1 V4 V5 V6 V7 c g gc V2 V3
      rw [fL_law_b545, e6]
      exact ih (k + 1) V0 V1 V2 V3 V4 V5 V6 V7 (by omega) (by omega) (o_inv_up g gc)
    rw [fL_law_l18, if_neg nlt]
    simp only [e1, e2, e3, e4, e5, y_ck (show 6 * k < L by omega) L31, y_ck (show 6 * k + 1 < L by omega) L31, y_ck (show 6 * k + 2 < L by omega) L31, y_ck (show 6 * k + 3 < L by omega) L31, y_ck (show 6 * k + 4 < L by omega) L31, y_ck (show 6 * k + 5 < L by omega) L31, nI_clamp (show 6 * k < 2 ^ 31 by omega), nI_clamp (show 6 * k + 1 < 2 ^ 31 by omega), nI_clamp (show 6 * k + 2 < 2 ^ 31 by omega), nI_clamp (show 6 * k + 3 < 2 ^ 31 by omega), nI_clamp (show 6 * k + 4 < 2 ^ 31 by omega), nI_clamp (show 6 * k + 5 < 2 ^ 31 by omega)]
    generalize hop : xs (6 * k) &&& (31 : Int32) = op
    by_cases q0 : op = 0
    · rw [if_pos q0]
      obtain ⟨a, A0, A7, a1, a2, a3⟩ := s_feed hF (xs (6 * k + 1)) (xs (6 * k + 2)) (xs (6 * k + 3)) (xs (6 * k + 4)) (xs (6 * k + 5)) h
      rw [a1, y_bd, a2, y_bd, if_pos rfl]
      exact up a3 (by omega) V2 V3
    rw [if_neg q0]
    by_cases q1 : op = 1
    · rw [if_pos q1]
      obtain ⟨a, A0, A7, a1, a2, a3⟩ := s_back (F := F) (xs (6 * k + 1)) h
      rw [a1, y_bd, a2, y_bd, if_pos rfl]
      exact up a3 (by omega) V2 V3
    rw [if_neg q1]
    by_cases q2 : op = 2
    · rw [if_pos q2]
      obtain ⟨a, A0, A1, A2, A3, A4, A7, a1, a2, a3⟩ := s_read (F := F) (V2 := V2) (V3 := V3) hF h
      rw [a1, y_bd, a2, y_bd, if_pos rfl]
      exact up a3 (by omega) A2 A3
    rw [if_neg q2]
    by_cases q3 : op = 3
    · rw [if_pos q3]
      obtain ⟨a, a1, a2⟩ := s_place (F := F) h
      rw [a1, y_bd, a2, y_bd, if_pos rfl]
      exact up h (by omega) V2 V3
    rw [if_neg q3]
    by_cases q4 : op = 4
    · rw [if_pos q4]
      obtain ⟨a, A0, A5, A7, a1, a2, a3⟩ := s_begin (F := F) hF (by omega) h
      rw [a1, y_bd, a2, y_bd, if_pos rfl]
      exact up a3 (by omega) V2 V3
    rw [if_neg q4]
    by_cases q5 : op = 5
    · rw [if_pos q5]
      obtain ⟨a, A0, A5, A7, a1, a2, a3⟩ := s_press (F := F) hF (by omega) (xs (6 * k + 1)) h
      rw [a1, y_bd, a2, y_bd, if_pos rfl]
      exact up a3 (by omega) V2 V3
    rw [if_neg q5]
    by_cases q6 : op = 6
    · rw [if_pos q6]
      obtain ⟨a, A5, A7, a1, a2, a3⟩ := s_ticks (F := F) hF (by omega) (xs (6 * k + 1)) h
      rw [a1, y_bd, a2, y_bd, if_pos rfl]
      exact up a3 (by omega) V2 V3
    rw [if_neg q6]
    have cmp : ∀ a : Int64, lg_cmp a a = 0 := fun a => by
      unfold lg_cmp
      simp
    by_cases q7 : op = 7
    · rw [if_pos q7]
      obtain ⟨a, a1, a2⟩ := s_score (F := F) h
      rw [a1, y_bd, a2, y_bd, if_pos (cmp a)]
      exact up h (by omega) V2 V3
    rw [if_neg q7]
    by_cases q8 : op = 8
    · rw [if_pos q8]
      obtain ⟨a, a1, a2⟩ := s_told (F := F) (xs (6 * k + 1)) (xs (6 * k + 2)) h
      rw [a1, y_bd, a2, y_bd, if_pos rfl]
      exact up h (by omega) V2 V3
    rw [if_neg q8]
    by_cases q9 : op = 9
    · rw [if_pos q9]
      obtain ⟨a, a1, a2⟩ := s_coil (F := F) hF (xs (6 * k + 1)) (xs (6 * k + 2)) h
      rw [a1, y_bd, a2, y_bd, if_pos rfl]
      exact up h (by omega) V2 V3
    rw [if_neg q9]
    by_cases q10 : op = 10
    · rw [if_pos q10]
      obtain ⟨a, A5, A7, a1, a2, a3⟩ := s_lamp (F := F) hF (xs (6 * k + 1)) h
      rw [a1, y_bd, a2, y_bd, if_pos rfl]
      exact up a3 (by omega) V2 V3
    rw [if_neg q10]
    by_cases q11 : op = 11
    · rw [if_pos q11]
      obtain ⟨a, a1, a2⟩ := s_value (F := F) (xs (6 * k + 1)) h
      rw [a1, y_bd, a2, y_bd, if_pos rfl]
      exact up h (by omega) V2 V3
    rw [if_neg q11]
    by_cases q12 : op = 12
    · rw [if_pos q12]
      obtain ⟨a, a1, a2⟩ := s_mode (F := F) (xs (6 * k + 1)) (xs (6 * k + 2)) h
      rw [a1, y_bd, a2, y_bd, if_pos rfl]
      exact up h (by omega) V2 V3
    rw [if_neg q12]
    by_cases q13 : op = 13
    · rw [if_pos q13]
      have bal : ∀ x2 : Int32, (x2 = if xs (6 * k + 2) = 0 then 0 else 1) → ∃ W0 W1 W2 W3 W4 W5 W6 W7, fL_law_b465 F L xs (fL_law_l18 F L xs n) V0 V1 V2 V3 V4 V5 V6 V7 (nI (6 * k)) (xs (6 * k + 1)) x2 = some (1, W0, W1, W2, W3, W4, W5, W6, W7) := by
        intro x2 hx2
        obtain ⟨a, a1, a2⟩ := s_balls (F := F) hF (xs (6 * k + 1)) x2 h
        rw [fL_law_b465]
        simp only [e1, e2, y_ck (show 6 * k + 1 < L by omega) L31, y_ck (show 6 * k + 2 < L by omega) L31, nI_clamp (show 6 * k + 1 < 2 ^ 31 by omega), nI_clamp (show 6 * k + 2 < 2 ^ 31 by omega)]
        rw [a1, y_bd]
        by_cases z : xs (6 * k + 2) = 0
        · rw [if_pos z] at hx2 ⊢
          subst hx2
          rw [fL_law_b487, a2, y_bd, if_pos rfl]
          exact up h (by omega) V2 V3
        · rw [if_neg z] at hx2 ⊢
          subst hx2
          rw [fL_law_b487, a2, y_bd, if_pos rfl]
          exact up h (by omega) V2 V3
      by_cases z : xs (6 * k + 2) = 0
      · rw [if_pos z]; exact bal 0 (by rw [if_pos z])
      · rw [if_neg z]; exact bal 1 (by rw [if_neg z])
    rw [if_neg q13]
    by_cases q14 : op = 14
    · rw [if_pos q14]
      obtain ⟨a, A6, a1, a2, a3⟩ := s_again (F := F) hF h
      rw [a1, y_bd, a2, y_bd, if_pos (cmp a)]
      exact up a3 (by omega) V2 V3
    rw [if_neg q14]
    by_cases q15 : op = 15
    · rw [if_pos q15]
      obtain ⟨a, A7, a1, a2, a3⟩ := s_ring (F := F) hF h
      rw [a1, y_bd, a2, y_bd, if_pos rfl]
      exact up a3 (by omega) V2 V3
    rw [if_neg q15]
    by_cases q16 : op = 16
    · rw [if_pos q16]
      obtain ⟨a, a1, a2⟩ := s_count (F := F) (xs (6 * k + 1)) h
      rw [a1, y_bd, a2, y_bd, if_pos rfl]
      exact up h (by omega) V2 V3
    rw [if_neg q16]
    exact up h (by omega) V2 V3
end
