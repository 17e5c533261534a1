/-! ===== rules keep that some layout is known ===== -/
section
variable {T : zV} {S : y_S}
theorem y_sl_drop (hw : y_ww T) (h : y_sl T S) : y_sl T (y_drop T S) := by
  obtain ⟨p, hp, e, g, ne, n0⟩ := h
  unfold y_drop
  rw [e]
  by_cases q : p = 0
  · subst q
    rw [if_pos (show nI 0 ≤ (0 : Int32) by decide)]
    exact ⟨0, hp, e, g, ne, n0⟩
  rw [if_neg (show ¬ nI p ≤ (0 : Int32) from nI_nle (by omega) (by omega))]
  refine ⟨p - 1, by omega, pk_sub (b := 1) (by omega), fun c hc => ?_, fun hP z => ?_, fun hP => ?_⟩
  · obtain ⟨j, hj, d, hd, hx⟩ := y_lDrop_mem.mp hc
    have h := (y_mv_gd hw.2.1 (g d hd) (Nat.zero_le _) hx).1
    rw [Nat.min_eq_right (show 1 ≤ j + 1 by omega)] at h
    exact h
  · have hL := ne hP
    cases hS : S.2.1 with
    | nil => exact hL hS
    | cons c l =>
      have hc : c ∈ S.2.1 := by rw [hS]; exact List.mem_cons_self ..
      obtain ⟨h1, h2, h3, h4, h5⟩ := g c hc
      have h81 : 1 ≤ c / 81 := by
        unfold y_cnt at h5
        omega
      have hs : (y_mv c (c / 81) 0).isSome = true := y_mv_some.mpr (Or.inl rfl)
      obtain ⟨d, hd⟩ := Option.isSome_iff_exists.mp hs
      have : d ∈ y_lDrop T S.2.1 := y_lDrop_mem.mpr ⟨c / 81 - 1, by omega, c, hc, by rw [Nat.sub_add_cancel h81]; exact hd⟩
      have z : y_lDrop T S.2.1 = [] := z
      rw [z] at this
      cases this
  · show y_lDrop T S.2.1 = []
    unfold y_lDrop
    rw [hP]; rfl
theorem y_sl_rR (hw : y_ww T) (l : Nat) (top : Bool) (m : Nat) (ev : Int32) (S : y_S) (h : y_sl T S) : y_sl T (y_rR T l top m ev S) := by
  refine y_ind (T := T) (Q := fun S S' => y_sl T S → y_sl T S') (fun S h => h) (fun _ _ _ f g h => g (f h)) (fun S k x hk h => y_sl_eq h ?_ rfl) (fun S x h => y_sl_eq h ?_ ?_) (fun S i x h => y_sl_eq h rfl rfl) (fun S m h => y_sl_eq h ?_ ?_) (fun S m h => y_sl_eq h ?_ ?_) (fun S c h => y_sl_eq h ?_ ?_) (fun S h => y_sl_drop hw h) (fun S h => y_sl_take hw h) l top m ev S h
  · show (if 14 = 0 ∧ 7 = k then x else zI S.1 14 7) = zI S.1 14 7
    rw [if_neg (fun z => absurd z.1 (by decide))]
  · unfold y_gain; split <;> rfl
  · unfold y_gain; split <;> rfl
  · unfold y_on; split <;> rfl
  · unfold y_on; split <;> rfl
  · unfold y_off; split <;> rfl
  · unfold y_off; split <;> rfl
  · unfold y_await; split
    · rfl
    · split <;> rfl
  · unfold y_await; split
    · rfl
    · split <;> rfl
end
