/-! ===== a call of ticks, on both sides ===== -/
def y_ticks (T : zV) : Nat → y_S → Nat × y_S
  | 0, S => (0, S)
  | n + 1, S => ((y_tick T S).1 + (y_ticks T n (y_tick T S).2).1, (y_ticks T n (y_tick T S).2).2)
section
variable {F : Nat} {T : zV} {w : Bool} {lv : Nat}
theorem c_ticksl (hF : 2000 ≤ F) (hT : y_T T) {V0 : zV} {x : Nat} (hx : x ≤ 100) : ∀ (r i N sum b : Nat) (S : y_S) (V : zV), i + r = x → r + 1 ≤ N → b + 2430 * r + 8000 < 2 ^ 31 → y_rb w b T S V →
    ∃ V', fX11_ticks_l39 F N V0 T V (nI x) (nI sum) (nI i) = some (nI (sum + (y_ticks T r S).1), V') ∧ y_rb w (b + 2430 * r) T (y_ticks T r S).2 V' := by
  intro r
  induction r with
  | zero =>
    intro i N sum b S V e hN hb h
    obtain ⟨N, rfl⟩ : ∃ N', N = N' + 1 := ⟨N - 1, by omega⟩
    rw [fX11_ticks_l39, if_pos (nI_le (by omega) (by omega))]
    exact ⟨V, rfl, h⟩
  | succ r ih =>
    intro i N sum b S V e hN hb h
    obtain ⟨N, rfl⟩ : ∃ N', N = N' + 1 := ⟨N - 1, by omega⟩
    obtain ⟨V1, a1, a2⟩ := c_tick (F := F) hF hT (by omega) h
    obtain ⟨V2, b1, b2⟩ := ih (i + 1) N (sum + (y_tick T S).1) (b + 2430) (y_tick T S).2 V1 (by omega) (by omega) (by omega) a2
    rw [fX11_ticks_l39, if_neg (nI_ge (by omega) (by omega)), a1, y_bd]
    dsimp only
    rw [nI_add, nI_1, b1, y_ticks]
    refine ⟨V2, ?_, ?_⟩
    · rw [Nat.add_assoc]
    · rw [show b + 2430 * (r + 1) = b + 2430 + 2430 * r by omega]; exact b2
theorem m_ticksl (hF : 3000 ≤ F) (hTT : y_T T) (hax : y_ax T) (hmo : ∀ m, m < y_many T 7 → y_hd T m ≤ y_hd T (m + 1)) (htm : y_tm T) {n x : Nat} (hx : x ≤ 100) : ∀ (r i N sum b t : Nat) (S : y_S) (V : zV), i + r = x → r + 1 ≤ N → b + 2500 * r + 8000 < 2 ^ 31 → t + r ≤ 5000 → y_I S 0 10 = nI t → y_gm lv T S n V → y_iv n b T S →
    ∃ V', fX12_ticks_l36 F N V (nI x) (nI sum) (nI i) = some (nI (sum + (y_ticks T r S).1), V') ∧ y_gm lv T (y_ticks T r S).2 n V' ∧ y_iv n (b + 2500 * r) T (y_ticks T r S).2 ∧ y_I (y_ticks T r S).2 0 10 = nI (t + r) ∧ y_fw ((0, 68) :: y_pz) (53 :: 54 :: 64 :: 65 :: y_py) V V' := by
  intro r
  induction r with
  | zero =>
    intro i N sum b t S V e hN hb ht et h hiv
    obtain ⟨N, rfl⟩ : ∃ N', N = N' + 1 := ⟨N - 1, by omega⟩
    rw [fX12_ticks_l36, if_pos (nI_le (by omega) (by omega))]
    exact ⟨V, rfl, h, hiv, et, y_fw_refl⟩
  | succ r ih =>
    intro i N sum b t S V e hN hb ht et h hiv
    obtain ⟨N, rfl⟩ : ∃ N', N = N' + 1 := ⟨N - 1, by omega⟩
    obtain ⟨V1, V2, a1, a2, a3, a4, a5, a6, a7⟩ := m_tick (F := F) hF hTT hax hmo htm (by omega) (by omega) et h hiv
    obtain ⟨V3, b1, b2, b3, b4, b5⟩ := ih (i + 1) N (sum + (y_tick T S).1) (b + 2500) (t + 1) (y_tick T S).2 V2 (by omega) (by omega) (by omega) (by omega) a5 a3 a4
    rw [fX12_ticks_l36, if_neg (nI_ge (by omega) (by omega)), a1, y_bd, a2, y_bd]
    dsimp only
    rw [nI_add, nI_1, b1, y_ticks]
    refine ⟨V3, ?_, b2, ?_, ?_, y_fw_trans a7 b5⟩
    · rw [Nat.add_assoc]
    · rw [show b + 2500 * (r + 1) = b + 2500 + 2500 * r by omega]; exact b3
    · rw [show t + (r + 1) = t + 1 + r by omega]; exact b4
theorem y_rb_up {b b' : Nat} {S : y_S} {V : zV} (h : y_rb w b T S V) (hb : b ≤ b') : y_rb w b' T S V := y_rb_mono h hb
theorem y_iv_up {n b b' : Nat} {S : y_S} (h : y_iv n b T S) (hb : b ≤ b') : y_iv n b' T S := ⟨h.1, h.2.1, y_ofb_mono h.2.2.1 hb, h.2.2.2⟩
/-- a call of ticks answers alike, and both sides show one state after it -/
theorem b_ticks (hF : 3000 ≤ F) (hTT : y_T T) (hax : y_ax T) (hmo : ∀ m, m < y_many T 7 → y_hd T m ≤ y_hd T (m + 1)) (htm : y_tm T) {n b : Nat} {V0 V5 V7 : zV} {S : y_S} (x : Int32) (hb : b + 300000 < 2 ^ 31) (h9 : ¬ zI V0 0 9 = 0) (h64 : ¬ zI V7 0 64 = 0) (hc : y_rb w b T S V5) (hm : y_gm lv T S n V7) (hiv : y_iv n b T S) :
    ∃ a V5' V7' j, fX11_ticks F V0 T V5 x = some (a, V5') ∧ fX12_ticks F V7 x = some (a, V7') ∧ y_rb w (b + 250000) T (y_ticks T j S).2 V5' ∧ y_gm lv T (y_ticks T j S).2 n V7' ∧ y_iv n (b + 250000) T (y_ticks T j S).2 ∧ y_fw ((0, 68) :: y_pz) (53 :: 54 :: 64 :: 65 :: y_py) V7 V7' ∧ j ≤ 100 := by
  unfold fX11_ticks fX12_ticks
  rw [if_neg h9, if_neg h64]
  have no : ∃ a V5' V7' j, some ((-1 : Int32), V5) = some (a, V5') ∧ some ((-1 : Int32), V7) = some (a, V7') ∧ y_rb w (b + 250000) T (y_ticks T j S).2 V5' ∧ y_gm lv T (y_ticks T j S).2 n V7' ∧ y_iv n (b + 250000) T (y_ticks T j S).2 ∧ y_fw ((0, 68) :: y_pz) (53 :: 54 :: 64 :: 65 :: y_py) V7 V7' ∧ j ≤ 100 :=
    ⟨-1, V5, V7, 0, rfl, rfl, y_rb_up hc (by omega), hm, y_iv_up hiv (by omega), y_fw_refl, by omega⟩
  by_cases q1 : x < 1
  · rw [if_pos q1, if_pos q1]; exact no
  rw [if_neg q1, if_neg q1]
  by_cases q2 : (100 : Int32) < x
  · rw [if_pos q2, if_pos q2]; exact no
  rw [if_neg q2, if_neg q2]
  have h0 : ¬ x < 0 := fun z => q1 (Int32.lt_trans z (by decide))
  obtain ⟨j, hj, rfl⟩ := nI_of h0
  have hj100 : j ≤ 100 := by
    have := Int32.not_lt.mp q2
    exact (nI_leI (b := 100) hj (by decide)).mp this
  obtain ⟨-, -, -, -, ⟨t, ht, et, -⟩, -⟩ := id hiv
  have e68 : zI V7 0 68 = y_I S 0 10 := y_mg_at hm.2.1 (r := 0) (k := 10) (k7 := 68) (by decide)
  have e10 : zI V5 0 10 = y_I S 0 10 := y_rb_at hc (r := 0) (k := 10) (by decide)
  rw [e68, e10, et, nI_add]
  by_cases q3 : nI (t + j) ≤ (5000 : Int32)
  · have q3' : t + j ≤ 5000 := (nI_leI (b := 5000) (by omega) (by decide)).mp q3
    rw [if_pos q3, if_pos q3]
    obtain ⟨V5', a1, a2⟩ := c_ticksl (F := F) (V0 := V0) (by omega) hTT hj100 j 0 F 0 b S V5 (by omega) (by omega) (by omega) hc
    obtain ⟨V7', b1, b2, b3, b4, b5⟩ := m_ticksl (F := F) hF hTT hax hmo htm hj100 j 0 F 0 b t S V7 (by omega) (by omega) (by omega) q3' et hm hiv
    exact ⟨_, V5', V7', j, a1, b1, y_rb_up a2 (by omega), b2, y_iv_up b3 (by omega), b5, hj100⟩
  · rw [if_neg q3, if_neg q3]; exact no
end
