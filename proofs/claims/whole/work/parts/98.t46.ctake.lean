/-! ===== the class takes the parts ===== -/
theorem r_bit : ∀ d e : Fin 8, ((1 : Int32) <<< (nI d.1 &&& 31)).toBitVec.getLsbD e.1 = decide (e.1 = d.1) := by decide +kernel
theorem r_bits {x : Int32} {d e : Nat} (hd : d < 8) (he : e < 8) : (x ||| ((1 : Int32) <<< (nI d &&& 31))).toBitVec.getLsbD e = (x.toBitVec.getLsbD e || decide (e = d)) := by
  rw [Int32.toBitVec_or, BitVec.getLsbD_or, r_bit ⟨d, hd⟩ ⟨e, he⟩]
theorem r_lN32 {n : Nat} (h : n < 2 ^ 31) : (lN n).toInt32 = nI n := by
  rw [← nI_l h]; simp
section
variable {F : Nat} {b : Nat → Nat} {L N E : Nat} {V1 T : zV}
/-- rows of the parts: the kind of a row, its value at token j -/
def r_k4 (r : Nat) : Nat := if r = 2 then 0 else if r = 3 then 1 else if r = 5 then 3 else if r = 6 ∨ r = 7 ∨ r = 8 then 5 else if r = 9 then 6 else 7
def r_v4 (b : Nat → Nat) (L E r j : Nat) : Int32 := if r = 6 then nI (r_nu b L E (j + 1)) else if r = 8 then (if r_tK b L (j + 3) = 8 then nI (r_nu b L E (j + 4)) else -1) else if r = 11 then (if r_tK b L (j + 3) = 9 then nI (r_nu b L E (j + 4)) else 0) else nI (r_nu b L E (j + 2))
def r_a4 (b : Nat → Nat) (L E i : Nat) (T : zV) : Prop := ∀ c d, c < 8 → d < 8 → (y_apart T c d = true ↔ ∃ j, j < i ∧ r_tK b L j = 2 ∧ ((r_nu b L E (j + 1) = c ∧ r_nu b L E (j + 2) = d) ∨ (r_nu b L E (j + 1) = d ∧ r_nu b L E (j + 2) = c)))
def r_c4 (b : Nat → Nat) (L E i : Nat) (T : zV) : Prop := (∀ k, k ≤ 7 → zA T 1 k = nI (r_cn (r_tK b L) k i)) ∧ (∀ r, r ∈ [2, 3, 5, 6, 7, 8, 9, 10, 11] → ∀ j, j < i → r_tK b L j = r_k4 r → zA T r (r_cn (r_tK b L) (r_k4 r) j) = r_v4 b L E r j) ∧ r_a4 b L E i T
theorem r_nu_lt {j : Nat} (hj : j ≤ 2000) (hE : E ≤ 1000) : r_nu b L E j < 2 ^ 31 := by
  unfold r_nu
  have g : ∀ i s t, (r_lk (r_tl b L i) s t).getD 0 ≤ i := by
    intro i s t
    cases h : r_lk (r_tl b L i) s t with
    | none => exact Nat.zero_le _
    | some c =>
      have := r_lk_lt i h
      have := r_cn_le (K := r_tK b L) (w := t) i
      show c ≤ i
      omega
  split
  · split
    · have := r_cn_le (K := r_tK b L) (w := r_tK b L (j - 1)) (j - 1); omega
    · split
      · have := g E (r_tW b L j) 7; omega
      · have := g j (r_tW b L j) (r_ro (r_tK b L) j); omega
  · split
    · rename_i q
      have := r_tV_lt q; omega
    · decide
theorem c_num (h : r_nv b L N E N V1) {j : Nat} (hj : j < N) : fX10_numberAt F V1 (nI j) = some (nI (r_nu b L E j)) := by
  unfold fX10_numberAt
  rw [c_valj h hj, y_bd, h.2.2.2 j hj]
  by_cases q : r_tK b L j = 27
  · rw [if_pos ⟨hj, q⟩, r_lN32 (r_nu_lt (by have := h.1; omega) h.1.2)]
  · rw [if_neg (fun z => q z.2)]
    unfold r_tv r_nu
    rw [if_neg q, if_neg q]
    by_cases q2 : r_tK b L j = 28
    · rw [if_pos q2, if_pos q2, r_lN32 (by have := r_tV_lt q2; omega)]
    · rw [if_neg q2, if_neg q2]; rfl
/-- one part more -/
theorem r_c4_step {i k : Nat} {T' : zV} (h : r_c4 b L E i T) (hk : r_tK b L i = k) (h1 : ∀ w, w ≤ 7 → zA T' 1 w = if w = k then nI (r_cn (r_tK b L) k i + 1) else zA T 1 w)
    (hr : ∀ r, r ∈ [2, 3, 5, 6, 7, 8, 9, 10, 11] → (r_k4 r = k → zA T' r = upd (zA T r) (r_cn (r_tK b L) k i) (r_v4 b L E r i)) ∧ (¬ r_k4 r = k → zA T' r = zA T r)) (h4 : ¬ k = 2 → zA T' 4 = zA T 4) (h4' : k = 2 → r_a4 b L E (i + 1) T') : r_c4 b L E (i + 1) T' := by
  obtain ⟨g1, g2, g3⟩ := h
  refine ⟨fun w hw => ?_, fun r hr' j hj hkj => ?_, ?_⟩
  · rw [h1 w hw]
    by_cases q : w = k
    · subst q; rw [if_pos rfl, r_cn_succ hk]
    · rw [if_neg q, g1 w hw, r_cn_same (by omega)]
  · by_cases q : r_k4 r = k
    · rw [(hr r hr').1 q, y_upd]
      by_cases q2 : j = i
      · subst q2; rw [q, if_pos rfl]
      · have := r_cn_lt (i := j) (j := i) (by omega) hkj
        rw [q] at this
        rw [q, if_neg (by omega), ← q]
        exact g2 r hr' j (by omega) hkj
    · rw [(hr r hr').2 q]
      have : j ≠ i := fun z => q (by rw [← hkj, z, hk])
      exact g2 r hr' j (by omega) hkj
  · by_cases q : k = 2
    · exact h4' q
    · intro c d hc hd
      unfold y_apart
      rw [h4 q]
      refine (g3 c d hc hd).trans ⟨fun ⟨j, j1, j2⟩ => ⟨j, by omega, j2⟩, fun ⟨j, j1, j2⟩ => ⟨j, ?_, j2⟩⟩
      have : j ≠ i := fun z => q (by rw [← hk, ← z]; exact j2.1)
      omega
theorem c_apart {c d : Nat} (hc : c < 8) (hd : d < 8) : ∃ T', fX9_setApart F T (nI c) (nI d) = some T' ∧ (∀ r, ¬ r = 4 → zA T' r = zA T r) ∧ ∀ x y, x < 8 → y < 8 → (y_apart T' x y = true ↔ y_apart T x y = true ∨ (x = c ∧ y = d) ∨ (x = d ∧ y = c)) := by
  have e1 : ∀ f, zA (zsA T 4 f) 4 = f := fun _ => rfl
  unfold fX9_setApart
  rw [if_neg (nI_pos (by omega)), if_neg (show ¬ (8 : Int32) ≤ nI c from nI_ge (b := 8) hc (by decide)), if_neg (nI_pos (by omega)), if_neg (show ¬ (8 : Int32) ≤ nI d from nI_ge (b := 8) hd (by decide))]
  simp only [y_ck (show c < 8 from hc) (show 8 < 2 ^ 31 by decide), y_ck (show d < 8 from hd) (show 8 < 2 ^ 31 by decide), nI_clamp (show c < 2 ^ 31 by omega), nI_clamp (show d < 2 ^ 31 by omega), y_let, e1]
  refine ⟨_, rfl, fun r hr => ?_, fun x y hx hy => ?_⟩
  · show (if r = 4 then _ else if r = 4 then _ else zA T r) = _
    rw [if_neg hr, if_neg hr]
  · unfold y_apart
    show (upd (upd (zA T 4) c _) d _ x).toBitVec.getLsbD y = true ↔ _
    rw [y_upd, y_upd, y_upd]
    by_cases q1 : x = d
    · subst q1
      rw [if_pos rfl, r_bits hc hy]
      by_cases q2 : x = c
      · subst q2
        rw [if_pos rfl, r_bits hx hy, Bool.or_eq_true, Bool.or_eq_true, decide_eq_true_eq]
        constructor
        · rintro ((z | z) | z)
          · exact Or.inl z
          · exact Or.inr (Or.inl ⟨rfl, z⟩)
          · exact Or.inr (Or.inl ⟨rfl, z⟩)
        · rintro (z | ⟨-, z⟩ | ⟨-, z⟩)
          · exact Or.inl (Or.inl z)
          · exact Or.inr z
          · exact Or.inr z
      · rw [if_neg q2, Bool.or_eq_true, decide_eq_true_eq]
        constructor
        · rintro (z | z)
          · exact Or.inl z
          · exact Or.inr (Or.inr ⟨rfl, z⟩)
        · rintro (z | ⟨z, -⟩ | ⟨-, z⟩)
          · exact Or.inl z
          · exact absurd z q2
          · exact Or.inr z
    · rw [if_neg q1]
      by_cases q2 : x = c
      · subst q2
        rw [if_pos rfl, r_bits hd hy, Bool.or_eq_true, decide_eq_true_eq]
        constructor
        · rintro (z | z)
          · exact Or.inl z
          · exact Or.inr (Or.inl ⟨rfl, z⟩)
        · rintro (z | ⟨-, z⟩ | ⟨z, -⟩)
          · exact Or.inl z
          · exact Or.inr z
          · exact absurd z q1
      · rw [if_neg q2]
        constructor
        · exact Or.inl
        · rintro (z | ⟨z, -⟩ | ⟨z, -⟩)
          · exact z
          · exact absurd z q2
          · exact absurd z q1
end
