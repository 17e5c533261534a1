/-! ===== a read on both sides, from the tape ===== -/
section
variable {F : Nat} {t lv : Nat} {T V0 V1 V2 V3 V4 V7 : zV}
theorem r_good_mt (h : r_good lv T V7) : y_mt T lv V7 := h.2.2.2.2.2.2.2.2 V7 r_ag_refl
theorem b_read2 (hF : 4200 ≤ F) (hlv : lv ≤ 1) (h18 : zI V7 0 18 = nI lv) (hw1 : r_cw V1) (hw7 : r_mw V7) (h : y_tp t V0 V7) :
    ∃ a V0' V1' V2' V3' V4' V7', fX11_read F V0 V1 V2 V3 V4 = some (a, V0', V1', V2', V3', V4') ∧ fX12_read F V7 = some (a, V7') ∧ zI V0' 0 5 = zI V7' 0 17 ∧ r_cw V1' ∧ r_mw V7' ∧ r_fz (1 - lv) V7 V7' ∧ y_tp 0 V0' V7' ∧ y_fr [(0, 1), (0, 5), (0, 7), (0, 9)] [] V0 V0' ∧
      ((¬ a = 0 ∧ V4' = V4 ∧ zI V0' 0 7 = zI V0 0 7 ∧ zI V0' 0 9 = zI V0 0 9 ∧ ∀ k, (k = 18 ∨ k = 20 ∨ k = 64) → zI V7' 0 k = zI V7 0 k) ∨
       (a = 0 ∧ zI V0' 0 7 = 1 ∧ zI V0' 0 9 = 0 ∧ zI V7' 0 18 = nI (1 - lv) ∧ zI V7' 0 20 = 1 ∧ zI V7' 0 64 = 0 ∧ r_good (1 - lv) V4' V7' ∧ y_rg V4')) := by
  obtain ⟨b, hb, ht⟩ := r_tape h
  obtain ⟨a, V0', V1', V2', V3', V4', V7', a1, a2, a3, a4, a5, a6, a7, a8, a9⟩ := b_read (F := F) (V2 := V2) (V3 := V3) (V4 := V4) hF hlv h18 hw1 hw7 hb h.2.1 ht
  exact ⟨a, V0', V1', V2', V3', V4', V7', a1, a2, a3, a4, a5, a6, ⟨Nat.zero_le _, a7, a8, fun i hi => absurd hi (Nat.not_lt_zero i)⟩, a9⟩
/-- a read that fails keeps a table that lies ready -/
theorem r_good_keep {T V V' : zV} (hlv : lv ≤ 1) (h : r_good lv T V) (f : r_fz (1 - lv) V V') (h18 : zI V' 0 18 = zI V 0 18) : r_good lv T V' := r_good_ag h (r_ag_fz hlv f h18)
end
