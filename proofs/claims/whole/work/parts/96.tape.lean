/-! ===== the tape on both sides; ticks, and what a new game finds ===== -/
theorem y_m8 (r : Nat) : nI (8 * (r + 1)) + (-8) = nI (8 * r) := by
  rw [show 8 * (r + 1) = 8 * r + 8 by omega, ← nI_add, Int32.add_assoc, show nI 8 + (-8) = (0 : Int32) from rfl, Int32.add_zero]
section
variable {F : Nat} {T : zV} {w : Bool} {lv n b t : Nat} {S : y_S} {V0 V5 V7 : zV}
/-- t bytes were fed -/
def y_tp (t : Nat) (V0 V7 : zV) : Prop := t ≤ 4000 ∧ zI V0 0 1 = nI t ∧ zI V7 0 2 = nI t ∧ ∀ i, i < t → zA V0 1 i = zA V7 1 i ∧ ∃ z : Int8, zA V7 1 i = vp_nar .byte z.toInt32
theorem y_tp_eq {V0' V7' : zV} (h : y_tp t V0 V7) (e1 : zI V0' 0 1 = zI V0 0 1) (e2 : zI V7' 0 2 = zI V7 0 2) (e3 : zA V0' 1 = zA V0 1) (e4 : zA V7' 1 = zA V7 1) : y_tp t V0' V7' := by
  unfold y_tp
  rw [e1, e2, e3, e4]; exact h
theorem b_putl (x : Int32) : ∀ (r N M t : Nat) (V0 V7 : zV), r ≤ 3 → r + 2 ≤ N → r + 2 ≤ M → t + r + 1 ≤ 4000 → y_tp t V0 V7 →
    ∃ V0' V7', fX11_putBytes_l3 F N V0 x (nI (8 * r)) = some V0' ∧ fX12_put_l3 F M V7 x (nI (8 * r)) = some V7' ∧ y_tp (t + r + 1) V0' V7' ∧ y_fr [(0, 1)] [1] V0 V0' ∧ y_fr [(0, 2)] [1] V7 V7' := by
  have step : ∀ (r t : Nat) (V0 V7 : zV), r ≤ 3 → t + 1 ≤ 4000 → y_tp t V0 V7 → ∃ V0' V7', (∀ N, fX11_putBytes_l3 F (N + 1) V0 x (nI (8 * r)) = fX11_putBytes_l3 F N V0' x (nI (8 * r) + (-8))) ∧ (∀ M, fX12_put_l3 F (M + 1) V7 x (nI (8 * r)) = fX12_put_l3 F M V7' x (nI (8 * r) + (-8))) ∧ y_tp (t + 1) V0' V7' ∧ y_fr [(0, 1)] [1] V0 V0' ∧ y_fr [(0, 2)] [1] V7 V7' := by
    intro r t V0 V7 hr ht h
    obtain ⟨h1, h2, h3, h4⟩ := h
    refine ⟨zsI (zsA V0 1 (upd (zA V0 1) t (vp_nar .byte ((x >>> (nI (8 * r) &&& 31))).toInt8.toInt32))) 0 1 (nI (t + 1)), zsI (zsA V7 1 (upd (zA V7 1) t (vp_nar .byte ((x >>> (nI (8 * r) &&& 31))).toInt8.toInt32))) 0 2 (nI (t + 1)), fun N => ?_, fun M => ?_, ⟨by omega, rfl, rfl, fun i hi => ?_⟩, y_fr_I (y_fr_A y_fr_refl (by decide)) (by decide), y_fr_I (y_fr_A y_fr_refl (by decide)) (by decide)⟩
    · have g : ∀ f, zI (zsA V0 1 f) 0 1 = nI t := fun _ => h2
      rw [fX11_putBytes_l3, if_neg (nI_pos (by omega)), h2, if_neg (show ¬ (4000 : Int32) ≤ nI t from nI_ge (b := 4000) (by omega) (by decide)), y_ck (by omega) (by decide), nI_clamp (by omega)]
      simp only [y_let, g, nI_1, fX11_putBytes_b42]
    · have g : ∀ f, zI (zsA V7 1 f) 0 2 = nI t := fun _ => h3
      rw [fX12_put_l3, if_neg (nI_pos (by omega)), h3, y_ck (by omega) (by decide), nI_clamp (by omega)]
      simp only [y_let, g, nI_1]
    · show upd (zA V0 1) t _ i = upd (zA V7 1) t _ i ∧ ∃ z : Int8, upd (zA V7 1) t _ i = vp_nar .byte z.toInt32
      rw [y_upd, y_upd]
      by_cases q : i = t
      · rw [if_pos q, if_pos q]
        exact ⟨rfl, _, rfl⟩
      · rw [if_neg q, if_neg q]; exact h4 i (by omega)
  intro r
  induction r with
  | zero =>
    intro N M t V0 V7 hr hN hM ht h
    obtain ⟨N, rfl⟩ : ∃ N', N = N' + 1 + 1 := ⟨N - 2, by omega⟩
    obtain ⟨M, rfl⟩ : ∃ N', M = N' + 1 + 1 := ⟨M - 2, by omega⟩
    obtain ⟨V0', V7', a1, a2, a3, a4, a5⟩ := step 0 t V0 V7 (by omega) (by omega) h
    refine ⟨V0', V7', ?_, ?_, a3, a4, a5⟩
    · rw [a1, fX11_putBytes_l3, if_pos (show nI (8 * 0) + (-8) < 0 by decide)]
    · rw [a2, fX12_put_l3, if_pos (show nI (8 * 0) + (-8) < 0 by decide)]
  | succ r ih =>
    intro N M t V0 V7 hr hN hM ht h
    obtain ⟨N, rfl⟩ : ∃ N', N = N' + 1 := ⟨N - 1, by omega⟩
    obtain ⟨M, rfl⟩ : ∃ N', M = N' + 1 := ⟨M - 1, by omega⟩
    obtain ⟨V0', V7', a1, a2, a3, a4, a5⟩ := step (r + 1) t V0 V7 (by omega) (by omega) h
    obtain ⟨V0'', V7'', b1, b2, b3, b4, b5⟩ := ih N M (t + 1) V0' V7' (by omega) (by omega) (by omega) (by omega) a3
    refine ⟨V0'', V7'', ?_, ?_, ?_, y_fr_trans a4 b4, y_fr_trans a5 b5⟩
    · rw [a1, y_m8]; exact b1
    · rw [a2, y_m8]; exact b2
    · rw [show t + (r + 1) + 1 = t + 1 + r + 1 by omega]; exact b3
theorem b_put (hF : 3000 ≤ F) (x : Int32) (ht : t + 4 ≤ 4000) (h : y_tp t V0 V7) : ∃ V0' V7', fX11_putBytes F V0 x = some V0' ∧ fX12_put F V7 x = some V7' ∧ y_tp (t + 4) V0' V7' ∧ y_fr [(0, 1)] [1] V0 V0' ∧ y_fr [(0, 2)] [1] V7 V7' :=
  b_putl x 3 F F t V0 V7 (by omega) (by omega) (by omega) (by omega) h
theorem b_feed (hF : 3000 ≤ F) (x1 x2 x3 x4 x5 : Int32) (h : y_tp t V0 V7) : ∃ a V0' V7' t', fX11_feed F V0 x1 x2 x3 x4 x5 = some (a, V0') ∧ fX12_feed F V7 x1 x2 x3 x4 x5 = some (a, V7') ∧ y_tp t' V0' V7' ∧ y_fr [(0, 1)] [1] V0 V0' ∧ y_fr [(0, 2)] [1] V7 V7' := by
  have h' := h
  obtain ⟨h1, h2, h3, -⟩ := h'
  unfold fX11_feed fX12_feed
  rw [h2, h3, show (20 : Int32) = nI 20 from rfl, nI_add]
  by_cases q : nI (t + 20) ≤ (4000 : Int32)
  · have ht : t + 20 ≤ 4000 := (nI_leI (b := 4000) (by omega) (by decide)).mp q
    rw [if_pos q, if_pos q]
    obtain ⟨A1, B1, a1, b1, c1, d1, e1⟩ := b_put (F := F) hF x1 (by omega) h
    obtain ⟨A2, B2, a2, b2, c2, d2, e2⟩ := b_put (F := F) hF x2 (by omega) c1
    obtain ⟨A3, B3, a3, b3, c3, d3, e3⟩ := b_put (F := F) hF x3 (by omega) c2
    obtain ⟨A4, B4, a4, b4, c4, d4, e4⟩ := b_put (F := F) hF x4 (by omega) c3
    obtain ⟨A5, B5, a5, b5, c5, d5, e5⟩ := b_put (F := F) hF x5 (by omega) c4
    simp only [a1, b1, a2, b2, a3, b3, a4, b4, a5, b5, y_bd]
    refine ⟨nI (t + 4 + 4 + 4 + 4 + 4), A5, B5, _, ?_, ?_, c5, y_fr_trans d1 (y_fr_trans d2 (y_fr_trans d3 (y_fr_trans d4 d5))), y_fr_trans e1 (y_fr_trans e2 (y_fr_trans e3 (y_fr_trans e4 e5)))⟩
    · rw [c5.2.1]
    · rw [c5.2.2.1]
  · rw [if_neg q, if_neg q]
    exact ⟨-1, V0, V7, t, rfl, rfl, h, y_fr_refl, y_fr_refl⟩
theorem b_back (x : Int32) (h : y_tp t V0 V7) : ∃ a V0' V7' t', fX11_back F V0 x = some (a, V0') ∧ fX12_back F V7 x = some (a, V7') ∧ y_tp t' V0' V7' ∧ y_fr [(0, 1)] [] V0 V0' ∧ y_fr [(0, 2)] [] V7 V7' := by
  have h' := h
  obtain ⟨h1, h2, h3, h4⟩ := h'
  unfold fX11_back fX12_back
  rw [h2, h3]
  by_cases q0 : x < 0
  · rw [if_pos q0, if_pos q0]; exact ⟨-1, V0, V7, t, rfl, rfl, h, y_fr_refl, y_fr_refl⟩
  rw [if_neg q0, if_neg q0]
  by_cases q : x ≤ nI t
  · obtain ⟨j, hj, rfl⟩ := nI_of q0
    have hjt : j ≤ t := (nI_leI hj (by omega)).mp q
    rw [if_pos q, if_pos q, pk_sub hjt]
    exact ⟨nI (t - j), zsI V0 0 1 (nI (t - j)), zsI V7 0 2 (nI (t - j)), t - j, rfl, rfl, ⟨by omega, rfl, rfl, fun i hi => h4 i (by omega)⟩, y_fr_I y_fr_refl (by decide), y_fr_I y_fr_refl (by decide)⟩
  · rw [if_neg q, if_neg q]; exact ⟨-1, V0, V7, t, rfl, rfl, h, y_fr_refl, y_fr_refl⟩
/-- what a new game finds where a game is -/
theorem y_id_op (hTT : y_T T) (h3 : y_rb w b T S V5) (h4 : y_gm lv T S n V7) : y_id w b V5 V7 := by
  obtain ⟨g1, g2, g3, ⟨⟨a, ha, ea⟩, -⟩, p, hp, g5, g6⟩ := h3
  obtain ⟨k, hk, hl⟩ := y_lay_lz hTT.2.2.1 hp g6
  obtain ⟨-, -, -, -, -, -, -, -, p7, hp7, g8, g9⟩ := h4.2.1
  exact ⟨⟨a, ha, (y_sim_at g1 (r := 0) (k := 13) (by decide)).trans ea⟩, ⟨k, _, hk, hl⟩, g9.2.1, g9.2.2.1⟩
theorem o_ticks (hF : 3000 ≤ F) (hTT : y_T T) (hax : y_ax T) (hmo : ∀ m, m < y_many T 7 → y_hd T m ≤ y_hd T (m + 1)) (htm : y_tm T) (hb : b + 300000 < 2 ^ 31) (x : Int32) (h : y_op w lv n b T S V0 V5 V7) :
    ∃ a V5' V7' j, fX11_ticks F V0 T V5 x = some (a, V5') ∧ fX12_ticks F V7 x = some (a, V7') ∧ y_op w lv n (b + 250000) T (y_ticks T j S).2 V0 V5' V7' ∧ (zI V0 0 9 = 0 → V5' = V5 ∧ V7' = V7) ∧ y_fw ((0, 68) :: y_pz) (53 :: 54 :: 64 :: 65 :: y_py) V7 V7' ∧ j ≤ 100 := by
  rcases h with ⟨h1, h2⟩ | ⟨h1, h2, h3, h4, h5, h6, h7⟩
  · refine ⟨-1, V5, V7, 0, ?_, ?_, Or.inl ⟨h1, h2⟩, fun _ => ⟨rfl, rfl⟩, y_fw_refl, by omega⟩
    · unfold fX11_ticks; rw [if_pos h1]
    · unfold fX12_ticks; rw [if_pos h2]
  · obtain ⟨a, V5', V7', j, a1, a2, a3, a4, a5, a6, a7⟩ := b_ticks (F := F) (V0 := V0) hF hTT hax hmo htm x hb h1 h2 h3 h4 h5
    exact ⟨a, V5', V7', j, a1, a2, Or.inr ⟨h1, by rw [a6.1 0 64 (by decide)]; exact h2, a3, a4, a5, h6, h7⟩, fun z => absurd z h1, a6, a7⟩
end
