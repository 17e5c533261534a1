/-! ===== some layout is known, where there are places ===== -/
section
variable {T : zV} {S : y_S}
def y_sl (T : zV) (S : y_S) : Prop := ∃ p, p ≤ 3 ∧ y_I S 14 7 = nI p ∧ (∀ c ∈ S.2.1, y_gd (y_many T 4) p c) ∧ (0 < y_many T 4 → S.2.1 ≠ []) ∧ (y_many T 4 = 0 → S.2.1 = [])
theorem y_sl_eq {S' : y_S} (h : y_sl T S) (e1 : y_I S' 14 7 = y_I S 14 7) (e2 : S'.2.1 = S.2.1) : y_sl T S' := by
  unfold y_sl
  rw [e1, e2]; exact h
theorem y_gd_cl (hw : y_ww T) (p : Nat) : y_cl T (y_gd (y_many T 4) p) := by
  intro c hc w hwm d hd
  have hw5 : w < y_many T 5 := List.mem_range.mp (List.mem_filter.mp hwm).1
  obtain ⟨a1, a2, a3, a4, -⟩ := y_way_at hw hw5
  have h := (y_mv_gd hw.2.1 hc a2 hd).1
  rw [Nat.min_eq_right a4, Nat.min_eq_right a3, Nat.add_sub_cancel] at h
  exact h
theorem y_sl_take (hw : y_ww T) (h : y_sl T S) : y_sl T (y_take T S) := by
  obtain ⟨p, hp, e, g, ne, n0⟩ := h
  unfold y_take
  rw [e]
  by_cases q : p = 3
  · subst q
    rw [if_pos (show (3 : Int32) ≤ nI 3 from nI_le (a := 3) (Nat.le_refl _) (by decide))]
    exact ⟨3, hp, e, g, ne, n0⟩
  rw [if_neg (show ¬ (3 : Int32) ≤ nI p from nI_ge (b := 3) (by omega) (by decide)), nI_1]
  refine ⟨p + 1, by omega, rfl, fun c hc => ?_, fun hP z => ?_, fun hP => ?_⟩
  · refine y_spr_min (y_gd_cl hw (p + 1)) 121 0 _ (fun x hx => ?_) c hc
    rcases y_mvA_mem.mp hx with hx | ⟨d, hd, hx⟩
    · cases hx
    · by_cases hP : y_many T 4 = 0
      · exfalso
        rw [n0 hP] at hd; cases hd
      · have h := (y_mv_gd hw.2.1 (g d hd) (by omega) hx).1
        exact h
  · have hL := ne hP
    cases hS : S.2.1 with
    | nil => exact hL hS
    | cons c l =>
      have hc : c ∈ S.2.1 := by rw [hS]; exact List.mem_cons_self ..
      obtain ⟨d, hd⟩ := y_mv0 (b := 1) (show p < 3 by omega) (g c hc)
      have : d ∈ y_lTake T S.2.1 := y_spr_sub 121 0 _ d (y_mvA_mem.mpr (Or.inr ⟨c, hc, hd⟩))
      have z : y_lTake T S.2.1 = [] := z
      rw [z] at this
      cases this
  · show y_lTake T S.2.1 = []
    rw [n0 hP]; rfl
end
