/-! ===== the ball's end and ticks keep that some layout is known ===== -/
section
variable {T : zV} {S : y_S}
theorem y_sl_off {m : Nat} (h : y_sl T S) : y_sl T (y_off S m).2 := by
  refine y_sl_eq h ?_ ?_
  · unfold y_off; split <;> rfl
  · unfold y_off; split <;> rfl
theorem y_sl_offs (h : y_sl T S) : y_sl T (y_offs T S) := by
  unfold y_offs
  generalize List.range' 1 (y_many T 7 - 1) = l
  induction l generalizing S with
  | nil => exact h
  | cons m l ih => exact ih (y_sl_off h)
theorem y_sl_end (hw : y_ww T) (h : y_sl T S) : y_sl T (y_end T S) := by
  have o : ∀ x y, y_sl T (y_sI (y_sI (y_offs T S) 0 12 x) 0 9 y) := fun x y => y_sl_eq (y_sl_offs h) rfl rfl
  unfold y_end
  split
  · exact h
  split
  · split
    · exact o _ _
    · exact y_sl_take hw (o _ _)
  · exact h
theorem y_sl_hl (hw : y_ww T) {s : Nat} (l : List Nat) : ∀ S, y_sl T S → y_sl T (y_hl T s l S) := by
  induction l with
  | nil => intro S h; exact h
  | cons m l ih =>
    intro S h
    rw [y_hl]
    split
    · split
      · exact ih _ (y_sl_rR hw _ _ _ _ _ h)
      · exact ih _ h
    · exact h
theorem y_sl_tl (hw : y_ww T) (l : List Nat) : ∀ S, y_sl T S → y_sl T (y_tl T l S) := by
  induction l with
  | nil => intro S h; exact h
  | cons m l ih =>
    intro S h
    have h1 : y_sl T (y_sR S 20 m (y_R S 20 m - 1)) := y_sl_eq h rfl rfl
    rw [y_tl]
    split
    · split
      · exact ih _ h1
      · split
        · exact ih _ (y_sl_rR hw _ _ _ _ _ (y_sl_off h1))
        · exact ih _ (y_sl_off h1)
    · exact ih _ h
theorem y_sl_fl (l : List Nat) : ∀ (f k : List Nat) (S : y_S), y_sl T S → y_sl T (y_fl T l f k S).2 := by
  induction l with
  | nil => intro f k S h; exact y_sl_eq h rfl rfl
  | cons c l ih =>
    intro f k S h
    rw [y_fl]
    split
    · exact ih _ _ _ (y_sl_eq h rfl rfl)
    · exact ih _ _ _ h
theorem y_sl_beg (h : y_sl T S) : y_sl T (y_beg T S) := y_sl_eq h rfl rfl
theorem y_sl_tick (hw : y_ww T) (h : y_sl T S) : y_sl T (y_tick T S).2 := by
  rw [y_tick_eq]
  have h1 : y_sl T (y_sI S 0 10 (y_I S 0 10 + 1)) := y_sl_eq h rfl rfl
  refine y_sl_fl _ _ _ _ ?_
  split
  · exact y_sl_end hw (y_sl_tl hw _ _ (y_sl_beg h1))
  · exact h1
theorem y_sl_open (hw : y_ww T) : y_sl T (y_open T) := by
  have h0 : y_sl T (y_new T 0 0 (fun _ => 0)) := by
    refine ⟨0, by omega, rfl, fun c hc => ?_, fun hP => ?_, fun hP => ?_⟩
    · have hc : c ∈ (if y_many T 4 = 0 then [] else [0]) := hc
      split at hc
      · cases hc
      · rw [List.mem_singleton.mp hc]; exact y_gd0
    · show (if y_many T 4 = 0 then [] else [0]) ≠ []
      rw [if_neg (by omega)]
      intro z; cases z
    · show (if y_many T 4 = 0 then [] else [0]) = []
      rw [if_pos hP]
  have h1 := y_sl_beg (y_sl_take hw h0)
  refine y_sl_end hw ?_
  split
  · exact h1
  · have h2 : y_sl T (y_on T (y_beg T (y_take T (y_new T 0 0 (fun _ => 0)))) 0).2 := by
      refine y_sl_eq h1 ?_ ?_
      · unfold y_on; split <;> rfl
      · unfold y_on; split <;> rfl
    split
    · exact y_sl_rR hw _ _ _ _ _ h2
    · exact h2
end
