/-! ===== what holds between calls ===== -/
section
variable {F lv t c : Nat} {V0 V1 V2 V3 V4 V5 V6 V7 V0' V7' : zV}
/-- table and game -/
def o_tab (lv c : Nat) (V0 V4 V5 V7 : zV) : Prop := y_no V0 V4 V7 ∨ (¬ zI V0 0 7 = 0 ∧ ¬ zI V7 0 20 = 0 ∧ r_good lv V4 V7 ∧ y_rg V4 ∧ ∃ n S, y_op true lv n c V4 S V0 V5 V7 ∧ (¬ zI V0 0 9 = 0 → y_sl V4 S ∧ y_lg V4 (zA V0 62) (zA V0 63) n S))
def o_inv (c : Nat) (V0 V1 V4 V5 V6 V7 : zV) : Prop := ∃ lv t, lv ≤ 1 ∧ zI V7 0 18 = nI lv ∧ r_cw V1 ∧ r_mw V7 ∧ y_tp t V0 V7 ∧ zI V0 0 5 = zI V7 0 17 ∧ y_i6 V6 ∧ y_id true c V5 V7 ∧ o_tab lv c V0 V4 V5 V7
theorem o_tab_kg (h : o_tab lv c V0 V4 V5 V7) (e7 : zI V0' 0 7 = zI V0 0 7) (e9 : zI V0' 0 9 = zI V0 0 9) (e12 : zI V0' 0 12 = zI V0 0 12) (e62 : zA V0' 62 = zA V0 62) (e63 : zA V0' 63 = zA V0 63) (f : y_kg V7 V7') (e64 : zI V7' 0 64 = zI V7 0 64) (e20 : zI V7' 0 20 = zI V7 0 20) (g : r_ag lv V7 V7') : o_tab lv c V0' V4 V5 V7' := by
  rcases h with ⟨⟨h1, h2, h3, h4⟩, h5⟩ | ⟨h1, h2, h3, h4, n, S, h5, h6⟩
  · exact Or.inl ⟨⟨e7.trans h1, e20.trans h2, e9.trans h3, e64.trans h4⟩, h5⟩
  · refine Or.inr ⟨by rw [e7]; exact h1, by rw [e20]; exact h2, r_good_ag h3 g, h4, n, S, y_op_kg h5 e9 e12 f e64 (fun _ => r_good_mt (r_good_ag h3 g)), fun z => ?_⟩
    rw [e62, e63]
    exact h6 (by rw [← e9]; exact z)
theorem o_tab_up {c' : Nat} (h : o_tab lv c V0 V4 V5 V7) (hc : c ≤ c') : o_tab lv c' V0 V4 V5 V7 := by
  rcases h with h | ⟨h1, h2, h3, h4, n, S, h5, h6⟩
  · exact Or.inl h
  · exact Or.inr ⟨h1, h2, h3, h4, n, S, y_op_up h5 hc, h6⟩
theorem o_inv_up {c' : Nat} (h : o_inv c V0 V1 V4 V5 V6 V7) (hc : c ≤ c') : o_inv c' V0 V1 V4 V5 V6 V7 := by
  obtain ⟨lv, t, h1, h2, h3, h4, h5, h6, h7, h8, h9⟩ := h
  exact ⟨lv, t, h1, h2, h3, h4, h5, h6, h7, y_id_up h8 hc, o_tab_up h9 hc⟩
theorem r_ag_fw {sd : Nat} {V W : zV} {sc : List (Nat × Nat)} {ar : List Nat} (f : y_fw sc ar V W) (h1 : (0, 18) ∉ sc) (h2 : ∀ r ∈ r_hr, r ∉ ar) : r_ag sd V W := ⟨f.1 0 18 h1, fun r hr i _ _ => congrFun (f.2.1 r (h2 r hr)) i⟩
theorem r_mw_B {V V' : zV} (h : r_mw V) (e : zB V' 7 = zB V 7) : r_mw V' := fun k w hk => by rw [e]; exact h k w hk
/-- the tape alone has changed -/
theorem o_tape {t' : Nat} (h : o_inv c V0 V1 V4 V5 V6 V7) (h5 : y_tp t' V0' V7') (f0 : y_fr [(0, 1)] [1] V0 V0') (f7 : y_fr [(0, 2)] [1] V7 V7') : o_inv c V0' V1 V4 V5 V6 V7' := by
  obtain ⟨lv, t, h1, h2, h3, h4, -, h6, h7, h8, h9⟩ := h
  have k := y_kg_fr f7 (by decide) (by decide)
  exact ⟨lv, t', h1, (f7.1 0 18 (by decide)).trans h2, h3, r_mw_B h4 (f7.2.2.2.1 7), h5, ((f0.1 0 5 (by decide)).trans h6).trans (f7.1 0 17 (by decide)).symm, h7, y_id_kg h8 k, o_tab_kg h9 (f0.1 0 7 (by decide)) (f0.1 0 9 (by decide)) (f0.1 0 12 (by decide)) (f0.2.1 62 (by decide)) (f0.2.1 63 (by decide)) k (f7.1 0 64 (by decide)) (f7.1 0 20 (by decide)) (r_ag_fr f7 (by decide) (by decide))⟩
theorem s_feed (hF : 9000 ≤ F) (x1 x2 x3 x4 x5 : Int32) (h : o_inv c V0 V1 V4 V5 V6 V7) : ∃ a V0' V7', fX11_feed F V0 x1 x2 x3 x4 x5 = some (a, V0') ∧ fX12_feed F V7 x1 x2 x3 x4 x5 = some (a, V7') ∧ o_inv c V0' V1 V4 V5 V6 V7' := by
  have h0 := h
  obtain ⟨lv, t, h1, h2, h3, h4, h5, -⟩ := h0
  obtain ⟨a, V0', V7', t', a1, a2, a3, a4, a5⟩ := b_feed (F := F) (by omega) x1 x2 x3 x4 x5 h5
  exact ⟨a, V0', V7', a1, a2, o_tape h a3 a4 a5⟩
theorem s_back (x : Int32) (h : o_inv c V0 V1 V4 V5 V6 V7) : ∃ a V0' V7', fX11_back F V0 x = some (a, V0') ∧ fX12_back F V7 x = some (a, V7') ∧ o_inv c V0' V1 V4 V5 V6 V7' := by
  have h0 := h
  obtain ⟨lv, t, h1, h2, h3, h4, h5, -⟩ := h0
  obtain ⟨a, V0', V7', t', a1, a2, a3, a4, a5⟩ := b_back (F := F) x h5
  exact ⟨a, V0', V7', a1, a2, o_tape h a3 (y_fr_mono a4 (by decide) (by decide)) (y_fr_mono a5 (by decide) (by decide))⟩
theorem s_read (hF : 9000 ≤ F) (h : o_inv c V0 V1 V4 V5 V6 V7) : ∃ a V0' V1' V2' V3' V4' V7', fX11_read F V0 V1 V2 V3 V4 = some (a, V0', V1', V2', V3', V4') ∧ fX12_read F V7 = some (a, V7') ∧ o_inv c V0' V1' V4' V5 V6 V7' := by
  obtain ⟨lv, t, h1, h2, h3, h4, h5, h6, h7, h8, h9⟩ := h
  obtain ⟨a, V0', V1', V2', V3', V4', V7', a1, a2, a3, a4, a5, a6, a7, a8, a9⟩ := b_read2 (F := F) (V2 := V2) (V3 := V3) (V4 := V4) (by omega) h1 h2 h3 h4 h5
  refine ⟨a, V0', V1', V2', V3', V4', V7', a1, a2, ?_⟩
  have k := y_kg_fz a6
  rcases a9 with ⟨-, b1, b2, b3, b4⟩ | ⟨-, b1, b2, b3, b4, b5, b6, b7⟩
  · subst b1
    have e18 := b4 18 (Or.inl rfl)
    exact ⟨lv, 0, h1, e18.trans h2, a4, a5, a7, a3, h7, y_id_kg h8 k, o_tab_kg h9 b2 b3 (a8.1 0 12 (by decide)) (a8.2.1 62 (by decide)) (a8.2.1 63 (by decide)) k (b4 64 (Or.inr (Or.inr rfl))) (b4 20 (Or.inr (Or.inl rfl))) (r_ag_fz h1 a6 e18)⟩
  · refine ⟨1 - lv, 0, by omega, b3, a4, a5, a7, a3, h7, y_id_kg h8 k, Or.inr ⟨by rw [b1]; decide, by rw [b4]; decide, b6, b7, 0, y_open V4', Or.inl ⟨b2, b5⟩, fun z => absurd b2 z⟩⟩
theorem s_place (h : o_inv c V0 V1 V4 V5 V6 V7) : ∃ a, fX11_place F V0 = some a ∧ fX12_place F V7 = some a := by
  obtain ⟨lv, t, h1, h2, h3, h4, h5, h6, -⟩ := h
  unfold fX11_place fX12_place
  rw [h6]
  exact ⟨_, rfl, rfl⟩
/-- a game that goes on by a call -/
theorem o_game {V5' : zV} {n c' : Nat} {S' : y_S} {sc : List (Nat × Nat)} {ar : List Nat} (h1 : lv ≤ 1) (h2 : zI V7 0 18 = nI lv) (h3 : r_cw V1) (h4 : r_mw V7) (h5 : y_tp t V0 V7) (h6 : zI V0 0 5 = zI V7 0 17) (h7 : y_i6 V6) (hg : r_good lv V4 V7) (hr : y_rg V4)
    (f : y_fw sc ar V7 V7') (f1 : (0, 2) ∉ sc ∧ (0, 17) ∉ sc ∧ (0, 18) ∉ sc ∧ (0, 20) ∉ sc) (f2 : 1 ∉ ar ∧ ∀ r ∈ r_hr, r ∉ ar) (e1 : zI V0' 0 1 = zI V0 0 1) (e5 : zI V0' 0 5 = zI V0 0 5) (eA : zA V0' 1 = zA V0 1)
    (g7 : ¬ zI V0' 0 7 = 0) (g20 : ¬ zI V7 0 20 = 0) (g9 : ¬ zI V0' 0 9 = 0) (ho : y_op true lv n c' V4 S' V0' V5' V7') (hs : y_sl V4 S') (hl : y_lg V4 (zA V0' 62) (zA V0' 63) n S') : o_inv c' V0' V1 V4 V5' V6 V7' := by
  have hg' := r_good_ag hg (r_ag_fw f f1.2.2.1 f2.2)
  have hid : y_id true c' V5' V7' := by
    rcases ho with ⟨z, -⟩ | ⟨-, -, o3, o4, -⟩
    · exact absurd z g9
    · exact y_id_op hg'.1 o3 o4
  exact ⟨lv, t, h1, (f.1 0 18 f1.2.2.1).trans h2, h3, r_mw_B h4 (f.2.2 7), y_tp_eq h5 e1 (f.1 0 2 f1.1) eA (f.2.1 1 f2.1), (e5.trans h6).trans (f.1 0 17 f1.2.1).symm, h7, hid, Or.inr ⟨g7, by rw [f.1 0 20 f1.2.2.2]; exact g20, hg', hr, n, S', ho, fun _ => ⟨hs, hl⟩⟩⟩
theorem s_begin (hF : 9000 ≤ F) (hc : c + 9000 < 2 ^ 31) (h : o_inv c V0 V1 V4 V5 V6 V7) : ∃ a V0' V5' V7', fX11_begin F V0 V4 V5 = some (a, V0', V5') ∧ fX12_begin F V7 = some (a, V7') ∧ o_inv (c + 2500) V0' V1 V4 V5' V6 V7' := by
  have h0 := h
  obtain ⟨lv, t, h1, h2, h3, h4, h5, h6, h7, h8, h9⟩ := h
  rcases h9 with h9 | ⟨g7, g20, hg, hr, n, S, ho, hs⟩
  · obtain ⟨a1, a2⟩ := n_begin (F := F) (V5 := V5) h9
    exact ⟨0, V0, V5, V7, a1, a2, o_inv_up h0 (by omega)⟩
  · obtain ⟨q1, q2, q3, q4, q5, q6, q7, q8, -⟩ := id hg
    obtain ⟨V5', V7', a1, a2, a3, a4⟩ := b_begin (F := F) (by omega) q1 q2 q3 q5 q8.1 (r_good_mt hg) hc g7 g20 h8
    refine ⟨1, _, V5', V7', a1, a2, o_game (V0 := V0) h1 h2 h3 h4 h5 h6 h7 hg hr a4 (by decide) ⟨by decide, by decide⟩ rfl rfl rfl g7 g20 (show ¬ (1 : Int32) = 0 by decide) a3 (y_sl_open q1.2.2.1) y_lg_open⟩
/-- no game on one side, none on the other -/
theorem o_g64 (h : o_tab lv c V0 V4 V5 V7) (g9 : zI V0 0 9 = 0) : zI V7 0 64 = 0 := by
  rcases h with h9 | ⟨g7, g20, hg, hr, n, S, ho, hs⟩
  · exact h9.1.2.2.2
  · rcases ho with ⟨-, z⟩ | ⟨z, -⟩
    · exact z
    · exact absurd g9 z
theorem s_press (hF : 9000 ≤ F) (hc : c + 9000 < 2 ^ 31) (x : Int32) (h : o_inv c V0 V1 V4 V5 V6 V7) : ∃ a V0' V5' V7', fX11_press F V0 V4 V5 x = some (a, V0', V5') ∧ fX12_press F V7 x = some (a, V7') ∧ o_inv (c + 2500) V0' V1 V4 V5' V6 V7' := by
  have h0 := h
  obtain ⟨lv, t, h1, h2, h3, h4, h5, h6, h7, h8, h9⟩ := h
  by_cases g9 : zI V0 0 9 = 0
  · obtain ⟨a1, a2⟩ := n_press (F := F) (V4 := V4) (V5 := V5) g9 (o_g64 h9 g9) x
    exact ⟨-1, V0, V5, V7, a1, a2, o_inv_up h0 (by omega)⟩
  rcases h9 with h9 | ⟨g7, g20, hg, hr, n, S, ho, hs⟩
  · exact absurd h9.1.2.2.1 g9
  · obtain ⟨q1, q2, q3, q4, q5, q6, q7, q8, -⟩ := id hg
    obtain ⟨a, V0', V5', V7', a1, a2, a3⟩ := b_press (F := F) (by omega) q1 q2 q3 (r_good_mt hg) hc x ho
    refine ⟨a, V0', V5', V7', a1, a2, ?_⟩
    rcases a3 with ⟨rfl, rfl, rfl⟩ | ⟨s, s1, s2, s3, s4, s5, s6⟩
    · exact o_inv_up h0 (by omega)
    · obtain ⟨hs1, hs2⟩ := hs g9
      have hs16 : s < 2 ^ 31 := by have := q1.2.1.2.2.2; omega
      subst s4
      exact o_game (V0 := V0) h1 h2 h3 h4 h5 h6 h7 hg hr s6 (by decide) ⟨by decide, by decide⟩ rfl rfl rfl g7 g20 g9 s5 (y_sl_hit q1.2.2.1 s hs1) (y_lg_hit s1 hs16 hs2)
theorem s_ticks (hF : 9000 ≤ F) (hc : c + 300000 < 2 ^ 31) (x : Int32) (h : o_inv c V0 V1 V4 V5 V6 V7) : ∃ a V5' V7', fX11_ticks F V0 V4 V5 x = some (a, V5') ∧ fX12_ticks F V7 x = some (a, V7') ∧ o_inv (c + 250000) V0 V1 V4 V5' V6 V7' := by
  have h0 := h
  obtain ⟨lv, t, h1, h2, h3, h4, h5, h6, h7, h8, h9⟩ := h
  by_cases g9 : zI V0 0 9 = 0
  · obtain ⟨a1, a2⟩ := n_ticks (F := F) (V4 := V4) (V5 := V5) g9 (o_g64 h9 g9) x
    exact ⟨-1, V5, V7, a1, a2, o_inv_up h0 (by omega)⟩
  rcases h9 with h9 | ⟨g7, g20, hg, hr, n, S, ho, hs⟩
  · exact absurd h9.1.2.2.1 g9
  · obtain ⟨q1, q2, q3, q4, q5, q6, q7, q8, -⟩ := id hg
    obtain ⟨a, V5', V7', j, a1, a2, a3, a4, a5, a6⟩ := o_ticks (F := F) (by omega) q1 q2 q3 q4 hc x ho
    obtain ⟨hs1, hs2⟩ := hs g9
    have ht : ∃ t, t ≤ 5000 ∧ y_I (y_ticks V4 j S).2 0 10 = nI t := by
      rcases a3 with ⟨z, -⟩ | ⟨-, -, -, -, o5, -⟩
      · exact absurd z g9
      · obtain ⟨-, -, -, -, ⟨t, t1, t2, -⟩, -⟩ := o5
        exact ⟨t, t1, t2⟩
    exact ⟨a, V5', V7', a1, a2, o_game (V0 := V0) h1 h2 h3 h4 h5 h6 h7 hg hr a5 (by decide) ⟨by decide, by decide⟩ rfl rfl rfl g7 g20 g9 a3 (y_sl_ticks q1.2.2.1 j S hs1) (y_lg_ticks a6 hs2 ht)⟩
theorem s_score (h : o_inv c V0 V1 V4 V5 V6 V7) : ∃ a, fX11_score F V0 V5 = some a ∧ fX12_score F V7 = some a := by
  obtain ⟨lv, t, h1, h2, h3, h4, h5, h6, h7, h8, h9⟩ := h
  rcases h9 with h9 | ⟨g7, g20, hg, hr, n, S, ho, hs⟩
  · exact ⟨-1, n_score h9.1.2.2.1 h9.1.2.2.2⟩
  · exact b_score ho
theorem s_told (x1 x2 : Int32) (h : o_inv c V0 V1 V4 V5 V6 V7) : ∃ a, fX11_told F V0 V4 V5 x1 x2 = some a ∧ fX12_told F V7 x1 x2 = some a := by
  obtain ⟨lv, t, h1, h2, h3, h4, h5, h6, h7, h8, h9⟩ := h
  rcases h9 with h9 | ⟨g7, g20, hg, hr, n, S, ho, hs⟩
  · exact ⟨-1, n_told h9 x1 x2⟩
  · exact b_told hg.1 (r_good_mt hg) g20 x1 x2 ho
theorem s_coil (hF : 9000 ≤ F) (x1 x2 : Int32) (h : o_inv c V0 V1 V4 V5 V6 V7) : ∃ a, fX11_coil F V0 V4 V5 x1 x2 = some a ∧ fX12_coil F V7 x1 x2 = some a := by
  obtain ⟨lv, t, h1, h2, h3, h4, h5, h6, h7, h8, h9⟩ := h
  rcases h9 with h9 | ⟨g7, g20, hg, hr, n, S, ho, hs⟩
  · exact ⟨-1, n_coil h9.1.2.2.1 h9.1.2.2.2 x1 x2⟩
  · exact b_coil (by omega) hg.1 (r_good_mt hg) x1 x2 ho
theorem s_lamp (hF : 9000 ≤ F) (x : Int32) (h : o_inv c V0 V1 V4 V5 V6 V7) : ∃ a V5' V7', fX11_lamp F V0 V4 V5 x = some (a, V5') ∧ fX12_lamp F V7 x = some (a, V7') ∧ o_inv c V0 V1 V4 V5' V6 V7' := by
  have h0 := h
  obtain ⟨lv, t, h1, h2, h3, h4, h5, h6, h7, h8, h9⟩ := h
  by_cases g9 : zI V0 0 9 = 0
  · obtain ⟨a1, a2⟩ := n_lamp (F := F) (V4 := V4) (V5 := V5) g9 (o_g64 h9 g9) x
    exact ⟨-1, V5, V7, a1, a2, h0⟩
  rcases h9 with h9 | ⟨g7, g20, hg, hr, n, S, ho, hs⟩
  · exact absurd h9.1.2.2.1 g9
  · obtain ⟨q1, q2, q3, q4, q5, q6, q7, q8, -⟩ := id hg
    obtain ⟨a, V5', V7', a1, a2, a3, a4, a5⟩ := b_lamp (F := F) (by omega) q1 q6 q3 ⟨q7 3 (by decide), q8.2.1⟩ (r_good_mt hg) x ho
    obtain ⟨hs1, hs2⟩ := hs g9
    exact ⟨a, V5', V7', a1, a2, o_game (V0 := V0) h1 h2 h3 h4 h5 h6 h7 hg hr (y_fw_of (sc' := []) (ar' := [63]) a5 (fun _ z => z) (fun _ z => z)) (by decide) ⟨by decide, by decide⟩ rfl rfl rfl g7 g20 g9 a3 hs1 hs2⟩
theorem s_value (x : Int32) (h : o_inv c V0 V1 V4 V5 V6 V7) : ∃ a, fX11_value F V0 V4 V5 x = some a ∧ fX12_value F V7 x = some a := by
  obtain ⟨lv, t, h1, h2, h3, h4, h5, h6, h7, h8, h9⟩ := h
  rcases h9 with h9 | ⟨g7, g20, hg, hr, n, S, ho, hs⟩
  · exact ⟨0, n_value h9.1.2.2.1 h9.1.2.2.2 x⟩
  · obtain ⟨q1, q2, q3, q4, q5, q6, q7, q8, -⟩ := id hg
    exact b_value q1 ⟨q7 6 (by decide), q8.1⟩ (r_good_mt hg) x ho
theorem s_mode (x1 x2 : Int32) (h : o_inv c V0 V1 V4 V5 V6 V7) : ∃ a, fX11_mode F V0 V4 V5 x1 x2 = some a ∧ fX12_mode F V7 x1 x2 = some a := by
  obtain ⟨lv, t, h1, h2, h3, h4, h5, h6, h7, h8, h9⟩ := h
  rcases h9 with h9 | ⟨g7, g20, hg, hr, n, S, ho, hs⟩
  · exact ⟨-1, n_mode h9 x1 x2⟩
  · exact b_mode hg.1 (r_good_mt hg) g20 x1 x2 ho
theorem s_balls (hF : 9000 ≤ F) (x1 x2 : Int32) (h : o_inv c V0 V1 V4 V5 V6 V7) : ∃ a, fX11_balls F V0 V4 V5 x1 x2 = some a ∧ fX12_balls F V7 x1 x2 = some a := by
  obtain ⟨lv, t, h1, h2, h3, h4, h5, h6, h7, h8, h9⟩ := h
  by_cases g9 : zI V0 0 9 = 0
  · exact ⟨-1, n_balls g9 (o_g64 h9 g9) x1 x2⟩
  rcases h9 with h9 | ⟨g7, g20, hg, hr, n, S, ho, hs⟩
  · exact absurd h9.1.2.2.1 g9
  · exact b_balls (by omega) hg.1 (r_good_mt hg) x1 x2 (y_sl_ne (hs g9).1) ho
theorem s_again (hF : 9000 ≤ F) (h : o_inv c V0 V1 V4 V5 V6 V7) : ∃ a V6', fX11_again F V0 V4 V5 V6 = some (a, V6') ∧ fX12_again F V7 = some a ∧ o_inv c V0 V1 V4 V5 V6' V7 := by
  obtain ⟨lv, t, h1, h2, h3, h4, h5, h6, h7, h8, h9⟩ := h
  by_cases g9 : zI V0 0 9 = 0
  · obtain ⟨a1, a2⟩ := b_again0 (F := F) (T := V4) (V5 := V5) (V6 := V6) g9 (o_g64 h9 g9)
    exact ⟨-1, V6, a1, a2, lv, t, h1, h2, h3, h4, h5, h6, h7, h8, h9⟩
  have h9' := h9
  rcases h9 with h9 | ⟨g7, g20, hg, hr, n, S, ho, hs⟩
  · exact absurd h9.1.2.2.1 g9
  · obtain ⟨a, V6', a1, a2, a3⟩ := b_again (F := F) hF hg.1 h7 ho (fun z => (hs z).2)
    exact ⟨a, V6', a1, a2, lv, t, h1, h2, h3, h4, h5, h6, a3, h8, h9'⟩
theorem s_ring (hF : 9000 ≤ F) (h : o_inv c V0 V1 V4 V5 V6 V7) : ∃ a V7', fX11_ring F V0 V4 = some a ∧ fX12_ring F V7 = some (a, V7') ∧ o_inv c V0 V1 V4 V5 V6 V7' := by
  have h0 := h
  obtain ⟨lv, t, h1, h2, h3, h4, h5, h6, h7, h8, h9⟩ := h
  rcases id h9 with g | ⟨g7, g20, hg, hr, n, S, ho, hs⟩
  · obtain ⟨a1, a2⟩ := n_ring (F := F) g
    exact ⟨-1, V7, a1, a2, h0⟩
  · obtain ⟨q1, q2, q3, q4, q5, q6, q7, q8, -⟩ := id hg
    obtain ⟨a, V7', a1, a2, a3⟩ := b_ring (F := F) (by omega) q1 q2 q3 hr g7 g20 (r_good_mt hg)
    have k := y_kg_fr a3 (by decide) (by decide)
    exact ⟨a, V7', a1, a2, lv, t, h1, (a3.1 0 18 (by decide)).trans h2, h3, r_mw_B h4 (a3.2.2.2.1 7), y_tp_eq h5 rfl (a3.1 0 2 (by decide)) rfl (a3.2.1 1 (by decide)), h6.trans (a3.1 0 17 (by decide)).symm, h7, y_id_kg h8 k, o_tab_kg h9 rfl rfl rfl rfl rfl k (a3.1 0 64 (by decide)) (a3.1 0 20 (by decide)) (r_ag_fr a3 (by decide) (by decide))⟩
theorem s_count (x : Int32) (h : o_inv c V0 V1 V4 V5 V6 V7) : ∃ a, fX11_count F V0 V4 V5 x = some a ∧ fX12_count F V7 x = some a := by
  obtain ⟨lv, t, h1, h2, h3, h4, h5, h6, h7, h8, h9⟩ := h
  rcases h9 with h9 | ⟨g7, g20, hg, hr, n, S, ho, hs⟩
  · exact n_count h9 h5 x
  · exact b_count (r_good_mt hg) g20 h5 x ho
end
