/-! ===== a game goes on where its rows are left alone ===== -/
section
variable {F : Nat} {T : zV} {w : Bool} {lv n b t : Nat} {S : y_S} {V V' V0 V0' V4 V5 V7 V7' : zV}
def y_kI : List Nat := [66, 68, 70, 71, 67, 69, 85, 59, 61, 72]
def y_kA : List Nat := [43, 44, 45, 48, 53, 49, 50, 51, 52, 46, 54, 55, 40, 42, 47, 56]
/-- the reference's game is left alone -/
def y_kg (V V' : zV) : Prop := (∀ k ∈ y_kI, zI V' 0 k = zI V 0 k) ∧ (∀ r ∈ y_kA, zA V' r = zA V r) ∧ zL V' 0 65 = zL V 0 65
theorem y_kg_refl : y_kg V V := ⟨fun _ _ => rfl, fun _ _ => rfl, rfl⟩
theorem y_mg_kg (h : y_mg T S V) (f : y_kg V V') : y_mg T S V' := by
  obtain ⟨g1, g2, g3, g4, g5, g6, g7, gb, p, hp, g8, g9⟩ := h
  obtain ⟨fI, fA, fL⟩ := f
  refine ⟨fun q hq => (fI q.2.2 ((show ∀ q ∈ y_mnum, q.2.2 ∈ y_kI by decide) q hq)).trans (g1 q hq), fun q hq i hi => (congrFun (fA q.2.1 ((show ∀ q ∈ y_mrow, q.2.1 ∈ y_kA by decide) q hq)) i).trans (g2 q hq i hi), fun s hs => (congrFun (fA 46 (by decide)) s).trans (g3 s hs), fun c hc => (congrFun (fA 54 (by decide)) c).trans (g4 c hc), fL.trans g5, (fI 69 (by decide)).trans g6, ⟨(fI 85 (by decide)).trans g7.1, fun i c hc => (congrFun (fA 55 (by decide)) i).trans (g7.2 i c hc)⟩, gb, p, hp, g8, ?_⟩
  obtain ⟨⟨C, c1, c2, c3, c4⟩, d1, d2, d3⟩ := g9
  exact ⟨⟨C, c1, c2, (fI 59 (by decide)).trans c3, fun i c hc => (congrFun (fA 40 (by decide)) i).trans (c4 i c hc)⟩, (fI 61 (by decide)).trans d1, fun l hl => (congrFun (fA 42 (by decide)) l).trans (d2 l hl), d3⟩
theorem y_gm_kg (h : y_gm lv T S n V) (f : y_kg V V') (hT : y_mt T lv V') : y_gm lv T S n V' :=
  ⟨hT, y_mg_kg h.2.1 f, fun s hs => (congrFun (f.2.1 47 (by decide)) s).trans (h.2.2.1 s hs), fun i hi => (congrFun (f.2.1 56 (by decide)) i).trans (h.2.2.2.1 i hi), (f.1 72 (by decide)).trans h.2.2.2.2⟩
theorem y_op_kg (h : y_op w lv n b T S V0 V5 V7) (e9 : zI V0' 0 9 = zI V0 0 9) (e12 : zI V0' 0 12 = zI V0 0 12) (f : y_kg V7 V7') (e64 : zI V7' 0 64 = zI V7 0 64) (hT : ¬ zI V0 0 9 = 0 → y_mt T lv V7') : y_op w lv n b T S V0' V5 V7' := by
  rcases h with ⟨h1, h2⟩ | ⟨h1, h2, h3, h4, h5, h6, h7⟩
  · exact Or.inl ⟨e9.trans h1, e64.trans h2⟩
  · exact Or.inr ⟨by rw [e9]; exact h1, by rw [e64]; exact h2, h3, y_gm_kg h4 f (hT h1), h5, e12.trans h6, h7⟩
theorem y_kg_fr {sc : List (Nat × Nat)} {ar : List Nat} (f : y_fr sc ar V V') (h1 : ∀ k ∈ y_kI, (0, k) ∉ sc) (h2 : ∀ r ∈ y_kA, r ∉ ar) : y_kg V V' := ⟨fun k hk => f.1 0 k (h1 k hk), fun r hr => f.2.1 r (h2 r hr), f.2.2.1 0 65⟩
theorem y_kg_fz {sd : Nat} (f : r_fz sd V V') : y_kg V V' := ⟨fun k hk => f.1 0 k fun z => (show ∀ k ∈ y_kI, k ∉ r_zs by decide) k hk z.2, fun r hr => f.2.1 r ((show ∀ r ∈ y_kA, r ∉ r_hr by decide) r hr) ((show ∀ r ∈ y_kA, r ∉ r_zw by decide) r hr), f.2.2.2.1 0 65⟩
theorem y_id_kg (h : y_id w b V5 V7) (f : y_kg V7 V7') : y_id w b V5 V7' := ⟨h.1, h.2.1, (f.1 61 (by decide)).trans h.2.2.1, fun l hl => (congrFun (f.2.1 42 (by decide)) l).trans (h.2.2.2 l hl)⟩
theorem y_id_up {b' : Nat} (h : y_id w b V5 V7) (hb : b ≤ b') : y_id w b' V5 V7 := by
  obtain ⟨h1, ⟨k, L, hk, hl⟩, h2⟩ := h
  exact ⟨h1, ⟨k, L, by omega, hl⟩, h2⟩
theorem y_op_up {b' : Nat} (h : y_op w lv n b T S V0 V5 V7) (hb : b ≤ b') : y_op w lv n b' T S V0 V5 V7 := by
  rcases h with h | ⟨h1, h2, h3, h4, h5, h6, h7⟩
  · exact Or.inl h
  · exact Or.inr ⟨h1, h2, y_rb_up h3 hb, h4, y_iv_up h5 hb, h6, h7⟩
/-! calls where no table was ever read -/
def y_no (V0 V4 V7 : zV) : Prop := (zI V0 0 7 = 0 ∧ zI V7 0 20 = 0 ∧ zI V0 0 9 = 0 ∧ zI V7 0 64 = 0) ∧ (∀ k, k < 8 → zA V4 1 k = 0) ∧ zI V4 13 3 = 0
theorem y_no_has (h : ∀ k, k < 8 → zA T 1 k = 0) {k : Nat} (hk : k < 8) (x : Int32) : fX9_has F T (nI k) x = some 0 := by
  have hc : fX9_has F T (nI k) x = some (if x < 0 then 0 else if zA T 1 k ≤ x then 0 else 1) := c_hasx (by omega)
  rw [hc, h k hk]
  split
  · rfl
  · rename_i q
    rw [if_pos (Int32.not_lt.mp q)]
theorem n_begin (h : y_no V0 V4 V7) : fX11_begin F V0 V4 V5 = some (0, V0, V5) ∧ fX12_begin F V7 = some (0, V7) := by
  obtain ⟨⟨h1, h2, h3, h4⟩, -⟩ := h
  unfold fX11_begin fX12_begin
  rw [if_pos h1, if_pos h2]
  exact ⟨rfl, rfl⟩
theorem n_press (h1 : zI V0 0 9 = 0) (h2 : zI V7 0 64 = 0) (x : Int32) : fX11_press F V0 V4 V5 x = some (-1, V0, V5) ∧ fX12_press F V7 x = some (-1, V7) := by
  unfold fX11_press fX12_press
  rw [if_pos h1, if_pos h2]
  exact ⟨rfl, by split <;> rfl⟩
theorem n_ticks (h1 : zI V0 0 9 = 0) (h2 : zI V7 0 64 = 0) (x : Int32) : fX11_ticks F V0 V4 V5 x = some (-1, V5) ∧ fX12_ticks F V7 x = some (-1, V7) := by
  unfold fX11_ticks fX12_ticks
  rw [if_pos h1, if_pos h2]
  exact ⟨rfl, rfl⟩
theorem n_score (h1 : zI V0 0 9 = 0) (h2 : zI V7 0 64 = 0) : fX11_score F V0 V5 = some (-1) ∧ fX12_score F V7 = some (-1) := by
  unfold fX11_score fX12_score
  rw [if_pos h1, if_pos h2]
  exact ⟨rfl, rfl⟩
theorem n_coil (h1 : zI V0 0 9 = 0) (h2 : zI V7 0 64 = 0) (x y : Int32) : fX11_coil F V0 V4 V5 x y = some (-1) ∧ fX12_coil F V7 x y = some (-1) := by
  unfold fX11_coil fX12_coil
  rw [if_pos h1, if_pos h2]
  exact ⟨rfl, rfl⟩
theorem n_lamp (h1 : zI V0 0 9 = 0) (h2 : zI V7 0 64 = 0) (x : Int32) : fX11_lamp F V0 V4 V5 x = some (-1, V5) ∧ fX12_lamp F V7 x = some (-1, V7) := by
  unfold fX11_lamp fX12_lamp
  rw [if_pos h1, if_pos h2]
  exact ⟨rfl, rfl⟩
theorem n_value (h1 : zI V0 0 9 = 0) (h2 : zI V7 0 64 = 0) (x : Int32) : fX11_value F V0 V4 V5 x = some 0 ∧ fX12_value F V7 x = some 0 := by
  unfold fX11_value fX12_value
  rw [if_pos h1, if_pos h2]
  exact ⟨rfl, rfl⟩
theorem n_balls (h1 : zI V0 0 9 = 0) (h2 : zI V7 0 64 = 0) (x y : Int32) : fX11_balls F V0 V4 V5 x y = some (-1) ∧ fX12_balls F V7 x y = some (-1) := by
  unfold fX11_balls fX12_balls
  rw [if_pos h1, if_pos h2]
  exact ⟨rfl, rfl⟩
theorem n_told (h : y_no V0 V4 V7) (x y : Int32) : fX11_told F V0 V4 V5 x y = some (-1) ∧ fX12_told F V7 x y = some (-1) := by
  obtain ⟨⟨h1, h2, h3, h4⟩, h5, -⟩ := h
  have hc : fX9_has F V4 0 x = some 0 := y_no_has (k := 0) h5 (by decide) x
  unfold fX11_told fX12_told
  rw [hc, y_bd, if_pos rfl, if_pos h2]
  exact ⟨rfl, rfl⟩
theorem n_mode (h : y_no V0 V4 V7) (x y : Int32) : fX11_mode F V0 V4 V5 x y = some (-1) ∧ fX12_mode F V7 x y = some (-1) := by
  obtain ⟨⟨h1, h2, h3, h4⟩, h5, -⟩ := h
  have hc : fX9_has F V4 7 x = some 0 := y_no_has (k := 7) h5 (by decide) x
  unfold fX11_mode fX12_mode
  rw [hc, y_bd, if_pos rfl, if_pos h2]
  exact ⟨rfl, rfl⟩
theorem n_ring (h : y_no V0 V4 V7) : fX11_ring F V0 V4 = some (-1) ∧ fX12_ring F V7 = some (-1, V7) := by
  obtain ⟨⟨h1, h2, h3, h4⟩, -⟩ := h
  unfold fX11_ring fX12_ring
  rw [if_pos h1, if_pos h2]
  exact ⟨rfl, rfl⟩
theorem n_count_out (x : Int32) (hx : x < 0 ∨ (¬ x < 0 ∧ nI 16 ≤ x)) : fX11_count F V0 T V5 x = some (-1) ∧ fX12_count F V7 x = some (-1) := by
  rcases hx with q | ⟨q, q2⟩
  · have n15 : ¬ x = 15 := fun z => by rw [z] at q; exact absurd q (by decide)
    have ne : ∀ k : Nat, k < 16 → ¬ x = nI k := fun k hk z => by rw [z] at q; exact nI_pos (by omega) q
    have e7 : fX12_count F V7 x = some (-1) := by unfold fX12_count; rw [if_neg n15, if_pos q]
    have e1 : fX11_count F V0 T V5 x = some (-1) := by
      have hb : fX11_count_b158 F V0 T V5 x = some (-1) := by
        unfold fX11_count_b158
        rw [if_pos (Int32.lt_trans q (by decide))]
      unfold fX11_count
      rw [if_neg (show ¬ x = (0 : Int32) from ne 0 (by decide)), if_neg (show ¬ x = (1 : Int32) from ne 1 (by decide)), if_neg (show ¬ x = (2 : Int32) from ne 2 (by decide)), if_neg (show ¬ x = (3 : Int32) from ne 3 (by decide)), if_neg (show ¬ x = (4 : Int32) from ne 4 (by decide)), if_neg (show ¬ x = (5 : Int32) from ne 5 (by decide)), if_neg (show ¬ x = (6 : Int32) from ne 6 (by decide)), if_neg (show ¬ x = (7 : Int32) from ne 7 (by decide)), if_neg (show ¬ x = (8 : Int32) from ne 8 (by decide)), if_neg (show ¬ x = (9 : Int32) from ne 9 (by decide)), if_neg (show ¬ x = (10 : Int32) from ne 10 (by decide)), if_neg (show ¬ x = (11 : Int32) from ne 11 (by decide)), if_neg (show ¬ x = (12 : Int32) from ne 12 (by decide)), if_neg (show ¬ x = (13 : Int32) from ne 13 (by decide)), if_neg (show ¬ x = (14 : Int32) from ne 14 (by decide)), if_neg (show ¬ x = (15 : Int32) from ne 15 (by decide)), hb]
    exact ⟨e1, e7⟩
  · have ne : ∀ k : Nat, k < 16 → ¬ x = nI k := fun k hk z => by rw [z] at q2; exact nI_ge (b := 16) hk (by decide) q2
    have hbig : ¬ x ≤ (15 : Int32) := fun z => by
      obtain ⟨j, hj, rfl⟩ := nI_of q
      have a := (nI_leI (b := 15) hj (by decide)).mp z
      have b := (nI_leI (a := 16) (by decide) hj).mp q2
      omega
    have hbig2 : ¬ x < (7 : Int32) := fun z => hbig (Int32.le_of_lt (Int32.lt_trans z (by decide)))
    have hbig3 : (14 : Int32) < x := Int32.lt_of_lt_of_le (by decide) q2
    have e7 : fX12_count F V7 x = some (-1) := by unfold fX12_count; rw [if_neg (show ¬ x = (15 : Int32) from ne 15 (by decide)), if_neg q, if_neg hbig]
    have e1 : fX11_count F V0 T V5 x = some (-1) := by
      have hb : fX11_count_b158 F V0 T V5 x = some (-1) := by
        unfold fX11_count_b158
        rw [if_neg hbig2, if_pos hbig3]
      unfold fX11_count
      rw [if_neg (show ¬ x = (0 : Int32) from ne 0 (by decide)), if_neg (show ¬ x = (1 : Int32) from ne 1 (by decide)), if_neg (show ¬ x = (2 : Int32) from ne 2 (by decide)), if_neg (show ¬ x = (3 : Int32) from ne 3 (by decide)), if_neg (show ¬ x = (4 : Int32) from ne 4 (by decide)), if_neg (show ¬ x = (5 : Int32) from ne 5 (by decide)), if_neg (show ¬ x = (6 : Int32) from ne 6 (by decide)), if_neg (show ¬ x = (7 : Int32) from ne 7 (by decide)), if_neg (show ¬ x = (8 : Int32) from ne 8 (by decide)), if_neg (show ¬ x = (9 : Int32) from ne 9 (by decide)), if_neg (show ¬ x = (10 : Int32) from ne 10 (by decide)), if_neg (show ¬ x = (11 : Int32) from ne 11 (by decide)), if_neg (show ¬ x = (12 : Int32) from ne 12 (by decide)), if_neg (show ¬ x = (13 : Int32) from ne 13 (by decide)), if_neg (show ¬ x = (14 : Int32) from ne 14 (by decide)), if_neg (show ¬ x = (15 : Int32) from ne 15 (by decide)), hb]
    exact ⟨e1, e7⟩
theorem n_count (h : y_no V0 V4 V7) (ht : y_tp t V0 V7) (x : Int32) : ∃ a, fX11_count F V0 V4 V5 x = some a ∧ fX12_count F V7 x = some a := by
  obtain ⟨⟨h1, h2, h3, h4⟩, h5, h6⟩ := h
  rcases y_cut 16 (by decide) x with q | ⟨q, q2⟩ | ⟨j, hj, rfl⟩
  · exact ⟨-1, n_count_out x (Or.inl q)⟩
  · exact ⟨-1, n_count_out x (Or.inr ⟨q, q2⟩)⟩
  have tab : ∀ (k i : Nat) (v : Int32), fX11_count F V0 V4 V5 (nI k) = some v → v = 0 → fX12_count F V7 (nI k) = (if zI V7 0 20 = 0 then some 0 else fX12_count_b95 F V7 (nI i)) → ∃ a, fX11_count F V0 V4 V5 (nI k) = some a ∧ fX12_count F V7 (nI k) = some a := by
    intro k i v g1 g2 g3
    rw [g1, g3, if_pos h2, g2]
    exact ⟨0, rfl, rfl⟩
  have game : ∀ (k : Nat) (m : Option Int32), fX11_count F V0 V4 V5 (nI k) = fX11_count_b158 F V0 V4 V5 (nI k) → ¬ nI k < 7 → ¬ 14 < nI k → fX12_count F V7 (nI k) = (if zI V7 0 64 = 0 then some 0 else m) → ∃ a, fX11_count F V0 V4 V5 (nI k) = some a ∧ fX12_count F V7 (nI k) = some a := by
    intro k m g1 g2 g3 g4
    rw [g1, g4, if_pos h4, fX11_count_b158, if_neg g2, if_neg g3, fX11_countInGame, if_pos h3]
    exact ⟨0, rfl, rfl⟩
  have hjc : j = 0 ∨ j = 1 ∨ j = 2 ∨ j = 3 ∨ j = 4 ∨ j = 5 ∨ j = 6 ∨ j = 7 ∨ j = 8 ∨ j = 9 ∨ j = 10 ∨ j = 11 ∨ j = 12 ∨ j = 13 ∨ j = 14 ∨ j = 15 := by omega
  rcases hjc with rfl | rfl | rfl | rfl | rfl | rfl | rfl | rfl | rfl | rfl | rfl | rfl | rfl | rfl | rfl | rfl
  · exact tab 0 0 (zA V4 1 0) rfl (h5 0 (by decide)) rfl
  · exact tab 1 1 (zA V4 1 1) rfl (h5 1 (by decide)) rfl
  · exact tab 2 3 (zA V4 1 3) rfl (h5 3 (by decide)) rfl
  · exact tab 3 4 (zA V4 1 4) rfl (h5 4 (by decide)) rfl
  · exact tab 4 6 (zA V4 1 6) rfl (h5 6 (by decide)) rfl
  · exact tab 5 7 (zA V4 1 7) rfl (h5 7 (by decide)) rfl
  · exact tab 6 8 (zI V4 13 3) rfl h6 rfl
  · exact game 7 _ rfl (by decide) (by decide) rfl
  · exact game 8 _ rfl (by decide) (by decide) rfl
  · exact game 9 _ rfl (by decide) (by decide) rfl
  · exact game 10 _ rfl (by decide) (by decide) rfl
  · exact game 11 _ rfl (by decide) (by decide) rfl
  · exact game 12 _ rfl (by decide) (by decide) rfl
  · exact game 13 _ rfl (by decide) (by decide) rfl
  · exact game 14 _ rfl (by decide) (by decide) rfl
  · exact ⟨nI t, by rw [show fX11_count F V0 V4 V5 (nI 15) = some (zI V0 0 1) from rfl, ht.2.1], by rw [show fX12_count F V7 (nI 15) = some (zI V7 0 2) from rfl, ht.2.2.1]⟩
end
