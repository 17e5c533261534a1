/-! ===== the tick number ===== -/
section
variable {T : zV} {S : y_S}
theorem y_kp_tl (l : List Nat) : ∀ S : y_S, y_kp S (y_tl T l S) := by
  have k20 : ∀ (S : y_S) (m : Nat) (x : Int32), y_kp S (y_sR S 20 m x) := fun S m x => by
    refine ⟨⟨rfl, rfl⟩, fun r hr => ?_⟩
    have : ¬ r = 20 := (show ∀ r ∈ [6, 7, 8, 9, 11, 12, 23], ¬ r = 20 by decide) r hr
    show (if r = 20 then _ else zA S.1 r) = zA S.1 r
    rw [if_neg this]
  induction l with
  | nil => intro S; exact ⟨⟨rfl, rfl⟩, fun _ _ => rfl⟩
  | cons m l ih =>
    intro S
    rw [y_tl]
    split
    · split
      · exact y_kp_trans (k20 _ _ _) (ih _)
      · split
        · exact y_kp_trans (k20 _ _ _) (y_kp_trans y_kp_off (y_kp_trans (y_kp_rR 8 false m (-2) _) (ih _)))
        · exact y_kp_trans (k20 _ _ _) (y_kp_trans y_kp_off (ih _))
    · exact ih S
theorem y_t_hit {s : Nat} : y_I (y_hit T S s).2 0 10 = y_I S 0 10 := by
  unfold y_hit
  split
  · show y_I (y_end T (y_hl T s (y_ord T) (y_beg T (y_move T (y_took (y_sR S 7 s (y_R S 7 s + 1)) s) s)))) 0 10 = _
    rw [y_end_kp.1, (y_kp_hl (y_ord T) _).1.2]
    show zI (y_move T (y_took (y_sR S 7 s (y_R S 7 s + 1)) s) s).1 0 10 = _
    rw [y_move_kp.1]; rfl
  · rfl
theorem y_t_tick : y_I (y_tick T S).2 0 10 = y_I S 0 10 + 1 := by
  rw [y_tick_eq, (y_fl_kp _ _ _ _).1]
  split
  · rw [y_end_kp.1, (y_kp_tl (y_ord T) _).1.2]; rfl
  · rfl
theorem y_t_ticks : ∀ (r t : Nat) (S : y_S), y_I S 0 10 = nI t → y_I (y_ticks T r S).2 0 10 = nI (t + r) := by
  intro r
  induction r with
  | zero => intro t S h; exact h
  | succ r ih =>
    intro t S h
    rw [y_ticks, show t + (r + 1) = (t + 1) + r by omega]
    exact ih (t + 1) _ (by rw [y_t_tick, h, nI_1])
theorem y_t_open : y_I (y_open T) 0 10 = nI 0 := by
  have ht : y_I (y_beg T (y_take T (y_new T 0 0 (fun _ => 0)))) 0 10 = nI 0 := by
    show y_I (y_take T (y_new T 0 0 (fun _ => 0))) 0 10 = nI 0
    unfold y_take
    split <;> rfl
  unfold y_open
  rw [y_end_kp.1]
  split
  · exact ht
  · split
    · rw [(y_kp_rR 8 false 0 (-1) _).1.2, y_kp_on.1.2]; exact ht
    · rw [y_kp_on.1.2]; exact ht
/-! the log: rows of switches and of ticks -/
def y_lt (B : Nat → Int32) : Nat → Nat
  | 0 => 0
  | i + 1 => (B i).toNatClampNeg
/-- the game after so many presses of the log -/
def y_rp (T : zV) (A B : Nat → Int32) : Nat → y_S
  | 0 => y_open T
  | i + 1 => (y_hit T (y_ticks T (y_lt B (i + 1) - y_lt B i) (y_rp T A B i)).2 (A i).toNatClampNeg).2
def y_lg (T : zV) (A B : Nat → Int32) (n : Nat) (S : y_S) : Prop :=
  ∃ t, t ≤ 5000 ∧ y_I S 0 10 = nI t ∧ y_lt B n ≤ t ∧ S = (y_ticks T (t - y_lt B n) (y_rp T A B n)).2 ∧ ∀ i, i < n → (∃ s, s < y_many T 0 ∧ A i = nI s) ∧ (∃ u, u ≤ 5000 ∧ B i = nI u) ∧ y_lt B i ≤ y_lt B (i + 1)
theorem y_lg_open {A B : Nat → Int32} : y_lg T A B 0 (y_open T) := ⟨0, by omega, y_t_open, Nat.le_refl _, rfl, fun i hi => absurd hi (Nat.not_lt_zero i)⟩
theorem y_lt_ext {B B' : Nat → Int32} {n : Nat} (h : ∀ i, i < n → B' i = B i) : ∀ i, i ≤ n → y_lt B' i = y_lt B i := by
  intro i hi
  cases i with
  | zero => rfl
  | succ i =>
    show (B' i).toNatClampNeg = (B i).toNatClampNeg
    rw [h i hi]
theorem y_rp_ext {A A' B B' : Nat → Int32} {n : Nat} (hA : ∀ i, i < n → A' i = A i) (hB : ∀ i, i < n → B' i = B i) : ∀ i, i ≤ n → y_rp T A' B' i = y_rp T A B i := by
  intro i
  induction i with
  | zero => intro _; rfl
  | succ i ih =>
    intro hi
    rw [y_rp, y_rp, ih (by omega), y_lt_ext hB i (by omega), y_lt_ext hB (i + 1) hi, hA i hi]
theorem y_lg_ticks {A B : Nat → Int32} {n j : Nat} (hj : j ≤ 100) (h : y_lg T A B n S) (h5 : ∃ t, t ≤ 5000 ∧ y_I (y_ticks T j S).2 0 10 = nI t) : y_lg T A B n (y_ticks T j S).2 := by
  obtain ⟨t, t1, t2, t3, t4, t5⟩ := h
  have e := y_t_ticks (T := T) j t S t2
  obtain ⟨u, u1, u2⟩ := h5
  have etj : t + j = u := (nI_eq (by omega) (by omega)).mp (e.symm.trans u2)
  refine ⟨t + j, by omega, e, by omega, ?_, t5⟩
  rw [show t + j - y_lt B n = (t - y_lt B n) + j by omega, y_ticks_add, ← t4]
theorem y_lg_hit {A B : Nat → Int32} {n s : Nat} (hs : s < y_many T 0) (hs2 : s < 2 ^ 31) (h : y_lg T A B n S) : y_lg T (upd A n (nI s)) (upd B n (y_I S 0 10)) (n + 1) (y_hit T S s).2 := by
  obtain ⟨t, t1, t2, t3, t4, t5⟩ := h
  have hA : ∀ i, i < n → upd A n (nI s) i = A i := fun i hi => by rw [y_upd, if_neg (by omega)]
  have hB : ∀ i, i < n → upd B n (y_I S 0 10) i = B i := fun i hi => by rw [y_upd, if_neg (by omega)]
  have eB : upd B n (y_I S 0 10) n = nI t := by rw [y_upd, if_pos rfl, t2]
  have eA : upd A n (nI s) n = nI s := by rw [y_upd, if_pos rfl]
  have el : y_lt (upd B n (y_I S 0 10)) (n + 1) = t := by
    show (upd B n (y_I S 0 10) n).toNatClampNeg = t
    rw [eB, nI_clamp (by omega)]
  have en := y_lt_ext hB n (Nat.le_refl _)
  refine ⟨t, t1, y_t_hit.trans t2, by omega, ?_, fun i hi => ?_⟩
  · rw [el, Nat.sub_self, y_rp, el, en, y_rp_ext hA hB n (Nat.le_refl _), ← t4, eA, nI_clamp hs2]; rfl
  · by_cases q : i = n
    · subst q
      exact ⟨⟨s, hs, eA⟩, ⟨t, t1, eB⟩, by omega⟩
    · have hi' : i < n := by omega
      obtain ⟨a1, a2, a3⟩ := t5 i hi'
      rw [hA i hi', hB i hi', y_lt_ext hB i (by omega), y_lt_ext hB (i + 1) (by omega)]
      exact ⟨a1, a2, a3⟩
end
