/-! ===== a press and ticks keep that some layout is known ===== -/
section
variable {T : zV} {S : y_S}
theorem y_lBy_in {L : List Nat} {s x : Nat} : x ∈ y_lBy T L s ↔ ∃ w, w ∈ y_by T s ∧ ∃ c, c ∈ L ∧ y_mv c (y_way T w).1 (y_way T w).2 = some x := by
  unfold y_lBy
  rw [y_fold2_mem (y_by T s) (fun A w => y_mvA L A (y_way T w).1 (y_way T w).2) (fun w x => ∃ c, c ∈ L ∧ y_mv c (y_way T w).1 (y_way T w).2 = some x) (fun A i x => y_mvA_mem)]
  constructor
  · rintro (h | h)
    · cases h
    · exact h
  · exact Or.inr
theorem y_all_ne {P p : Nat} (hP : 0 < P) (hp : p ≤ 3) : y_all P p ≠ [] := by
  have h : ∃ c, y_gd P p c := by
    have hc : p = 0 ∨ p = 1 ∨ p = 2 ∨ p = 3 := by omega
    rcases hc with rfl | rfl | rfl | rfl
    · exact ⟨0, by decide, by omega, by decide, by decide, by decide⟩
    · exact ⟨81, by decide, by omega, by decide, by decide, by decide⟩
    · exact ⟨90, by decide, by omega, by decide, by decide, by decide⟩
    · exact ⟨91, by decide, by omega, by decide, by decide, by decide⟩
  obtain ⟨c, hc⟩ := h
  intro z
  have := y_all_iff.mpr hc
  rw [z] at this
  cases this
theorem y_sl_move (hw : y_ww T) (s : Nat) (h : y_sl T S) : y_sl T (y_move T S s) := by
  have h0 := h
  obtain ⟨p, hp, e, g, ne, n0⟩ := h
  unfold y_move
  by_cases hby : y_by T s = []
  · rw [if_pos hby]; exact h0
  rw [if_neg hby]
  have hP : 0 < y_many T 4 := by
    rcases Nat.eq_zero_or_pos (y_many T 4) with q | q
    · exfalso
      apply hby
      have h5 : y_many T 5 = 0 := by
        rcases Nat.eq_zero_or_pos (y_many T 5) with r | r
        · exact r
        · obtain ⟨f, t, hf, -⟩ := hw.2.2.2.2 0 r
          omega
      unfold y_by
      rw [h5]; rfl
    · exact q
  cases hL : y_lBy T S.2.1 s with
  | nil =>
    show y_sl T (S.1, y_all (y_many T 4) (y_I S 14 7).toNatClampNeg, S.2.2.1 + 1, S.2.2.2)
    rw [e, nI_clamp (by omega)]
    have hA : ∀ c ∈ y_all (y_many T 4) p, y_gd (y_many T 4) p c := fun c hc => y_all_iff.mp hc
    have hN := y_all_ne hP hp
    generalize y_all (y_many T 4) p = A at hA hN
    exact ⟨p, hp, e, hA, fun _ => hN, fun z => absurd z (by omega)⟩
  | cons d l =>
    show y_sl T (S.1, y_spr T 121 0 (d :: l), S.2.2)
    have hA : ∀ c ∈ y_spr T 121 0 (d :: l), y_gd (y_many T 4) p c := by
      refine fun c hc => y_spr_min (y_gd_cl hw p) 121 0 _ (fun x hx => ?_) c hc
      rw [← hL] at hx
      obtain ⟨w, hw1, c', hc', hm⟩ := y_lBy_in.mp hx
      have hw5 : w < y_many T 5 := List.mem_range.mp (List.mem_filter.mp hw1).1
      obtain ⟨a1, a2, a3, a4, -⟩ := y_way_at hw hw5
      have h := (y_mv_gd hw.2.1 (g c' hc') a2 hm).1
      rw [Nat.min_eq_right a4, Nat.min_eq_right a3, Nat.add_sub_cancel] at h
      exact h
    have hN : d ∈ y_spr T 121 0 (d :: l) := y_spr_sub 121 0 _ d (List.mem_cons_self ..)
    generalize y_spr T 121 0 (d :: l) = A at hA hN
    refine ⟨p, hp, e, hA, fun _ z => ?_, fun z => absurd z (by omega)⟩
    have z : A = [] := z
    rw [z] at hN
    cases hN
theorem y_sl_hit (hw : y_ww T) (s : Nat) (h : y_sl T S) : y_sl T (y_hit T S s).2 := by
  have h7 : y_sl T (y_sR S 7 s (y_R S 7 s + 1)) := y_sl_eq h rfl rfl
  unfold y_hit
  split
  · refine y_sl_end hw (y_sl_hl hw _ _ (y_sl_beg (y_sl_move hw s ?_)))
    exact y_sl_eq h7 rfl rfl
  · exact h7
theorem y_sl_ticks (hw : y_ww T) : ∀ (n : Nat) (S : y_S), y_sl T S → y_sl T (y_ticks T n S).2 := by
  intro n
  induction n with
  | zero => intro S h; exact h
  | succ n ih =>
    intro S h
    rw [y_ticks]
    exact ih _ (y_sl_tick hw h)
theorem y_ticks_add : ∀ (a c : Nat) (S : y_S), (y_ticks T (a + c) S).2 = (y_ticks T c (y_ticks T a S).2).2 := by
  intro a
  induction a with
  | zero => intro c S; rw [Nat.zero_add]; rfl
  | succ a ih =>
    intro c S
    rw [show a + 1 + c = (a + c) + 1 by omega, y_ticks, y_ticks, ih]
theorem y_sl_ne (h : y_sl T S) : 0 < y_many T 4 → S.2.1 ≠ [] := by
  obtain ⟨p, hp, e, g, ne, n0⟩ := h
  exact ne
end
