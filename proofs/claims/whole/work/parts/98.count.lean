/-! ===== counts, where a table lies ready ===== -/
section
variable {F : Nat} {T : zV} {lv n b t : Nat} {S : y_S} {V0 V5 V7 : zV}
theorem b_count (hT : y_mt T lv V7) (h20 : ¬ zI V7 0 20 = 0) (ht : y_tp t V0 V7) (x : Int32) (h : y_op true lv n b T S V0 V5 V7) : ∃ a, fX11_count F V0 T V5 x = some a ∧ fX12_count F V7 x = some a := by
  have tb : ∀ k : Nat, k < 8 → ∀ y : Int32, y = nI k → fX12_count_b95 F V7 y = some (zA T 1 k) := by
    intro k hk y hy
    rw [fX12_count_b95, hy, m_sort hT hk, y_bd]
  have t8 : fX12_count_b95 F V7 8 = some (zI T 13 3) := by
    have hlv := hT.1.1
    unfold fX12_count_b95 fX12_sort
    rw [hT.1.2, show (9 : Int32) = nI 9 from rfl, show (8 : Int32) = nI 8 from rfl, pk_mul, nI_add, y_ck (by omega) (by decide), nI_clamp (by omega), hT.2.1.2]
    rfl
  rcases y_cut 16 (by decide) x with q | ⟨q, q2⟩ | ⟨j, hj, rfl⟩
  · have n15 : ¬ x = 15 := fun z => by rw [z] at q; exact absurd q (by decide)
    have ne : ∀ k : Nat, k < 16 → ¬ x = nI k := fun k hk z => by rw [z] at q; exact nI_pos (by omega) q
    have e7 : fX12_count F V7 x = some (-1) := by unfold fX12_count; rw [if_neg n15, if_pos q]
    have e1 : fX11_count F V0 T V5 x = some (-1) := by
      have hb : fX11_count_b158 F V0 T V5 x = some (-1) := by
        unfold fX11_count_b158
        rw [if_pos (Int32.lt_trans q (by decide))]
      unfold fX11_count
      rw [if_neg (show ¬ x = (0 : Int32) from ne 0 (by decide)), if_neg (show ¬ x = (1 : Int32) from ne 1 (by decide)), if_neg (show ¬ x = (2 : Int32) from ne 2 (by decide)), if_neg (show ¬ x = (3 : Int32) from ne 3 (by decide)), if_neg (show ¬ x = (4 : Int32) from ne 4 (by decide)), if_neg (show ¬ x = (5 : Int32) from ne 5 (by decide)), if_neg (show ¬ x = (6 : Int32) from ne 6 (by decide)), if_neg (show ¬ x = (7 : Int32) from ne 7 (by decide)), if_neg (show ¬ x = (8 : Int32) from ne 8 (by decide)), if_neg (show ¬ x = (9 : Int32) from ne 9 (by decide)), if_neg (show ¬ x = (10 : Int32) from ne 10 (by decide)), if_neg (show ¬ x = (11 : Int32) from ne 11 (by decide)), if_neg (show ¬ x = (12 : Int32) from ne 12 (by decide)), if_neg (show ¬ x = (13 : Int32) from ne 13 (by decide)), if_neg (show ¬ x = (14 : Int32) from ne 14 (by decide)), if_neg (show ¬ x = (15 : Int32) from ne 15 (by decide)), hb]
    exact ⟨_, e1, e7⟩
  · have ne : ∀ k : Nat, k < 16 → ¬ x = nI k := fun k hk z => by rw [z] at q2; exact nI_ge (b := 16) hk (by decide) q2
    have hbig : ¬ x ≤ (15 : Int32) := fun z => by
      obtain ⟨j, hj, rfl⟩ := nI_of q
      have a := (nI_leI (b := 15) hj (by decide)).mp z
      have b := (nI_leI (a := 16) (by decide) hj).mp q2
      omega
    have hbig2 : ¬ x < (7 : Int32) := fun z => hbig (Int32.le_of_lt (Int32.lt_trans z (by decide)))
    have hbig3 : (14 : Int32) < x := Int32.lt_of_lt_of_le (by decide) q2
    have e7 : fX12_count F V7 x = some (-1) := by unfold fX12_count; rw [if_neg (show ¬ x = (15 : Int32) from ne 15 (by decide)), if_neg q, if_neg hbig]
    have e1 : fX11_count F V0 T V5 x = some (-1) := by
      have hb : fX11_count_b158 F V0 T V5 x = some (-1) := by
        unfold fX11_count_b158
        rw [if_neg hbig2, if_pos hbig3]
      unfold fX11_count
      rw [if_neg (show ¬ x = (0 : Int32) from ne 0 (by decide)), if_neg (show ¬ x = (1 : Int32) from ne 1 (by decide)), if_neg (show ¬ x = (2 : Int32) from ne 2 (by decide)), if_neg (show ¬ x = (3 : Int32) from ne 3 (by decide)), if_neg (show ¬ x = (4 : Int32) from ne 4 (by decide)), if_neg (show ¬ x = (5 : Int32) from ne 5 (by decide)), if_neg (show ¬ x = (6 : Int32) from ne 6 (by decide)), if_neg (show ¬ x = (7 : Int32) from ne 7 (by decide)), if_neg (show ¬ x = (8 : Int32) from ne 8 (by decide)), if_neg (show ¬ x = (9 : Int32) from ne 9 (by decide)), if_neg (show ¬ x = (10 : Int32) from ne 10 (by decide)), if_neg (show ¬ x = (11 : Int32) from ne 11 (by decide)), if_neg (show ¬ x = (12 : Int32) from ne 12 (by decide)), if_neg (show ¬ x = (13 : Int32) from ne 13 (by decide)), if_neg (show ¬ x = (14 : Int32) from ne 14 (by decide)), if_neg (show ¬ x = (15 : Int32) from ne 15 (by decide)), hb]
    exact ⟨_, e1, e7⟩
  -- a count in a game
  have game : ∀ (k : Nat) (c m : Int32), fX11_count F V0 T V5 (nI k) = fX11_count_b158 F V0 T V5 (nI k) → ¬ nI k < 7 → ¬ 14 < nI k → (¬ zI V0 0 9 = 0 → fX11_countInGame F V0 V5 (nI k) = some c) → fX12_count F V7 (nI k) = (if zI V7 0 64 = 0 then some 0 else some m) → (¬ zI V0 0 9 = 0 → c = m) → ∃ a, fX11_count F V0 T V5 (nI k) = some a ∧ fX12_count F V7 (nI k) = some a := by
    intro k c m g1 g2 g3 g4 g5 g6
    rw [g1, g5, fX11_count_b158, if_neg g2, if_neg g3]
    rcases h with ⟨h1, h2⟩ | ⟨h1, h2, -⟩
    · rw [if_pos h2, fX11_countInGame, if_pos h1]; exact ⟨0, rfl, rfl⟩
    · rw [if_neg h2, g4 h1, y_bd, g6 h1]; exact ⟨m, rfl, rfl⟩
  have op : ¬ zI V0 0 9 = 0 → y_rb true b T S V5 ∧ y_gm lv T S n V7 ∧ zI V0 0 12 = nI n := by
    intro z
    rcases h with ⟨h1, h2⟩ | ⟨h1, h2, h3, h4, h5, h6, h7⟩
    · exact absurd h1 z
    · exact ⟨h3, h4, h6⟩
  have ing : ¬ zI V0 0 9 = 0 → ∀ k : Nat, fX11_countInGame F V0 V5 (nI k) = if nI k = 7 then some (zI V5 0 9) else if nI k = 8 then some (zI V5 14 7) else if nI k = 9 then some (zI V5 0 10) else if nI k = 10 then some (zI V5 14 5) else if nI k = 11 then some (zI V5 14 8) else if nI k = 12 then (if zI V5 0 11 = 0 then some 0 else some 1) else if nI k = 13 then (if zI V5 0 12 = 0 then some 0 else some 1) else some (zI V0 0 12) := by
    intro z k
    rw [fX11_countInGame, if_neg z]
  have tab : ∀ (k i : Nat) (v : Int32), fX11_count F V0 T V5 (nI k) = some v → fX12_count F V7 (nI k) = (if zI V7 0 20 = 0 then some 0 else fX12_count_b95 F V7 (nI i)) → fX12_count_b95 F V7 (nI i) = some v → ∃ a, fX11_count F V0 T V5 (nI k) = some a ∧ fX12_count F V7 (nI k) = some a := by
    intro k i v g1 g2 g3
    rw [g1, g2, if_neg h20, g3]; exact ⟨v, rfl, rfl⟩
  have hjc : j = 0 ∨ j = 1 ∨ j = 2 ∨ j = 3 ∨ j = 4 ∨ j = 5 ∨ j = 6 ∨ j = 7 ∨ j = 8 ∨ j = 9 ∨ j = 10 ∨ j = 11 ∨ j = 12 ∨ j = 13 ∨ j = 14 ∨ j = 15 := by omega
  rcases hjc with rfl | rfl | rfl | rfl | rfl | rfl | rfl | rfl | rfl | rfl | rfl | rfl | rfl | rfl | rfl | rfl
  · exact tab 0 0 _ rfl rfl (tb 0 (by decide) _ rfl)
  · exact tab 1 1 _ rfl rfl (tb 1 (by decide) _ rfl)
  · exact tab 2 3 _ rfl rfl (tb 3 (by decide) _ rfl)
  · exact tab 3 4 _ rfl rfl (tb 4 (by decide) _ rfl)
  · exact tab 4 6 _ rfl rfl (tb 6 (by decide) _ rfl)
  · exact tab 5 7 _ rfl rfl (tb 7 (by decide) _ rfl)
  · exact tab 6 8 _ rfl rfl t8
  · exact game 7 (zI V5 0 9) (zI V7 0 66) rfl (by decide) (by decide) (fun z => (ing z 7).trans rfl) rfl (fun z => (y_rb_at (op z).1 (r := 0) (k := 9) (by decide)).trans (y_mg_at (op z).2.1.2.1 (r := 0) (k := 9) (k7 := 66) (by decide)).symm)
  · exact game 8 (zI V5 14 7) (zI V7 0 67) rfl (by decide) (by decide) (fun z => (ing z 8).trans rfl) rfl (fun z => (y_rb_at (op z).1 (r := 14) (k := 7) (by decide)).trans (y_mg_at (op z).2.1.2.1 (r := 14) (k := 7) (k7 := 67) (by decide)).symm)
  · exact game 9 (zI V5 0 10) (zI V7 0 68) rfl (by decide) (by decide) (fun z => (ing z 9).trans rfl) rfl (fun z => (y_rb_at (op z).1 (r := 0) (k := 10) (by decide)).trans (y_mg_at (op z).2.1.2.1 (r := 0) (k := 10) (k7 := 68) (by decide)).symm)
  · refine game 10 (zI V5 14 5) (zI V7 0 59) rfl (by decide) (by decide) (fun z => (ing z 10).trans rfl) rfl (fun z => ?_)
    obtain ⟨g1, g2, g3, g4, p, hp, g5, g6⟩ := (op z).1
    obtain ⟨⟨j, hj, hy⟩, hn, -⟩ := g6
    obtain ⟨-, -, -, -, -, -, -, -, p7, hp7, g8, g9⟩ := (op z).2.1.2.1
    obtain ⟨⟨C, c1, c2, c3, c4⟩, -⟩ := g9
    have e1 : C.length = S.2.1.length := Nat.le_antisymm (y_sub_len _ _ c1 fun x hx => (c2 x).mp hx) (y_sub_len _ _ hn fun x hx => (c2 x).mpr hx)
    rw [c3, e1]
    have hy := hy
    obtain ⟨hpp, hnn, h4, h5, hk, hm⟩ := hy
    exact h5
  · refine game 11 (zI V5 14 8) (zI V7 0 69) rfl (by decide) (by decide) (fun z => (ing z 11).trans rfl) rfl (fun z => ?_)
    obtain ⟨g1, g2, g3, g4, p, hp, g5, g6⟩ := (op z).1
    exact g6.2.2.2.2.trans (op z).2.1.2.1.2.2.2.2.2.1.symm
  · refine game 12 (if zI V5 0 11 = 0 then 0 else 1) (if zI V7 0 70 = 0 then 0 else 1) rfl (by decide) (by decide) (fun z => (ing z 12).trans ?_) ?_ (fun z => ?_)
    · show (if zI V5 0 11 = 0 then some (0 : Int32) else some 1) = _
      split <;> rfl
    · show (if zI V7 0 64 = 0 then some (0 : Int32) else if zI V7 0 70 = 0 then some 0 else some 1) = _
      by_cases q : zI V7 0 70 = 0
      · rw [if_pos q, if_pos q]
      · rw [if_neg q, if_neg q]
    · rw [y_rb_at (op z).1 (r := 0) (k := 11) (by decide), y_mg_at (op z).2.1.2.1 (r := 0) (k := 11) (k7 := 70) (by decide)]
  · refine game 13 (if zI V5 0 12 = 0 then 0 else 1) (if zI V7 0 71 = 0 then 0 else 1) rfl (by decide) (by decide) (fun z => (ing z 13).trans ?_) ?_ (fun z => ?_)
    · show (if zI V5 0 12 = 0 then some (0 : Int32) else some 1) = _
      split <;> rfl
    · show (if zI V7 0 64 = 0 then some (0 : Int32) else if zI V7 0 71 = 0 then some 0 else some 1) = _
      by_cases q : zI V7 0 71 = 0
      · rw [if_pos q, if_pos q]
      · rw [if_neg q, if_neg q]
    · rw [y_rb_at (op z).1 (r := 0) (k := 12) (by decide), y_mg_at (op z).2.1.2.1 (r := 0) (k := 12) (k7 := 71) (by decide)]
  · exact game 14 (zI V0 0 12) (zI V7 0 72) rfl (by decide) (by decide) (fun z => (ing z 14).trans rfl) rfl (fun z => (op z).2.2.trans (op z).2.1.2.2.2.2.symm)
  · exact ⟨nI t, by rw [show fX11_count F V0 T V5 (nI 15) = some (zI V0 0 1) from rfl, ht.2.1], by rw [show fX12_count F V7 (nI 15) = some (zI V7 0 2) from rfl, ht.2.2.1]⟩
end
