/-! ===== the class's game: begin, press, tick ===== -/
/-- all that is asked of a table -/
def y_T (T : zV) : Prop := y_ws T ∧ y_wm T ∧ y_ww T ∧ y_wt T ∧ y_wr T ∧ y_wb T ∧ (∀ i, i < y_many T 7 → ∃ m, m < y_many T 7 ∧ zA T 12 i = nI m)
section
variable {F : Nat} {T : zV} {w : Bool} {b : Nat} {S : y_S} {V : zV}
theorem c_rules (hF : 2000 ≤ F) (hT : y_T T) {k l m : Nat} {ev d : Int32} {top : Bool} (hk : k + 3000 < 2 ^ 31) (hl : l ≤ 9) (hd : d = nI (9 - l)) (ht : top = decide (9 - l = 0)) (hm : m < y_many T 7) (h : y_rb w (k + 12 * y_ac S) T S V) :
    ∃ V', fX1_doRules F T V (nI m) ev d = some V' ∧ y_rb w (k + 12 * y_ac (y_rR T l top m ev S)) T (y_rR T l top m ev S) V' := by
  subst hd ht
  obtain ⟨h1, h2, h3, h4, h5, h6, -⟩ := hT
  unfold fX1_doRules
  exact c_rec h1 hF h2 h3 h4 h5 h6 hk l 20 m ev S V hl (by omega) hm h
theorem y_ac_le (h : y_rb w b T S V) : y_ac S ≤ 200 := by obtain ⟨a, ha, -, e⟩ := y_rb_ac h; omega
/-- the ball is over if none is in play -/
theorem c_end (hF : 2000 ≤ F) (hT : y_T T) (hb : b + 100 < 2 ^ 31) (h : y_rb w b T S V) : ∃ V', fX1_endBallIfNoneInPlay F T V = some V' ∧ y_rb w (b + 13) T (y_end T S) V' := by
  obtain ⟨h1, h2, h3, -⟩ := hT
  unfold fX1_endBallIfNoneInPlay y_end
  rw [y_rb_at h (r := 0) (k := 9) (by decide), y_rb_at h (r := 14) (k := 7) (by decide)]
  by_cases q0 : y_I S 0 9 = 0
  · rw [if_pos q0, if_pos q0]; exact ⟨V, rfl, y_rb_mono h (by omega)⟩
  rw [if_neg q0, if_neg q0]
  by_cases q1 : y_I S 14 7 ≤ 0
  rotate_left
  · rw [if_neg q1, if_neg q1]; exact ⟨V, rfl, y_rb_mono h (by omega)⟩
  rw [if_pos q1, if_pos q1]
  obtain ⟨V1, e1, e2⟩ := c_offs (F := F) hF h2 h
  have e3 := y_rb_I e2 (r := 0) (k := 12) (x := 0) (by decide)
  have e9 : zI (zsI V1 0 12 0) 0 9 = y_I S 0 9 := (y_rb_at e3 (r := 0) (k := 9) (by decide)).trans (y_offs_I (T := T) (S := S))
  rw [e1, y_bd, y_let, e9]
  by_cases q3 : y_I S 0 9 = 3
  · rw [if_pos q3, if_pos q3, y_let]
    exact ⟨_, rfl, y_rb_mono (y_rb_I e3 (r := 0) (k := 9) (x := 0) (by decide)) (by omega)⟩
  · rw [if_neg q3, if_neg q3, y_let]
    obtain ⟨V2, b1, b2⟩ := c_take' (F := F) hF h3 (by omega) (y_rb_I e3 (r := 0) (k := 9) (x := y_I S 0 9 + 1) (by decide))
    rw [b1, y_bd]
    exact ⟨V2, rfl, b2⟩
theorem y_rem_row {T : zV} {S : y_S} {r : Nat} (hr : ¬ r = 23) : y_R (y_rem T S) r = y_R S r := by
  show (if r = 23 then _ else zA S.1 r) = zA S.1 r
  rw [if_neg hr]
theorem c_reml (hT : y_T T) {f19 f22 : Nat → Int32} : ∀ (r i n : Nat) (V : zV), i + r = y_many T 7 → r + 1 ≤ n → (∀ m, m < 12 → zA V 19 m = f19 m ∧ zA V 22 m = f22 m) →
    (∀ m, m < i → zA V 23 m = if f19 m = 0 then -1 else f22 m) → ∃ V', fX4_remember_l2 F n T V (nI i) = some V' ∧ (∀ m, m < y_many T 7 → zA V' 23 m = if f19 m = 0 then -1 else f22 m) ∧ y_fr [] [23] V V' := by
  intro r
  have h7 := hT.2.1.1
  induction r with
  | zero =>
    intro i n V e hn h hq
    obtain ⟨n, rfl⟩ : ∃ n', n = n' + 1 := ⟨n - 1, by omega⟩
    refine ⟨V, ?_, fun m hm => hq m (by omega), y_fr_refl⟩
    rw [fX4_remember_l2, show ((7 : Int32)).toNatClampNeg = 7 from rfl, h7.1, if_pos (nI_le (by omega) (by omega))]
  | succ r ih =>
    intro i n V e hn h hq
    obtain ⟨n, rfl⟩ : ∃ n', n = n' + 1 := ⟨n - 1, by omega⟩
    have step : ∀ x, x = (if f19 i = 0 then -1 else f22 i) → ∃ V', fX4_remember_b49 F (fX4_remember_l2 F n) T V (nI i) (nI i) x = some V' ∧ (∀ m, m < y_many T 7 → zA V' 23 m = if f19 m = 0 then -1 else f22 m) ∧ y_fr [] [23] V V' := by
      intro x hx
      rw [fX4_remember_b49, y_ck (by omega) (by decide), y_let, nI_clamp (by omega), nI_1]
      have f : y_fr [] [23] V (zsA V 23 (upd (zA V 23) i x)) := y_fr_A y_fr_refl (by decide)
      obtain ⟨V2, g1, g2, g3⟩ := ih (i + 1) n (zsA V 23 (upd (zA V 23) i x)) (by omega) (by omega) h (fun m hm => by
        show upd (zA V 23) i x m = _
        rw [y_upd]
        by_cases q : m = i
        · rw [if_pos q, q]; exact hx
        · rw [if_neg q]; exact hq m (by omega))
      exact ⟨V2, g1, g2, y_fr_trans f g3⟩
    rw [fX4_remember_l2, show ((7 : Int32)).toNatClampNeg = 7 from rfl, h7.1, if_neg (nI_ge (by omega) (by omega)), if_neg (show ¬ (12 : Int32) ≤ nI i from nI_ge (b := 12) (by omega) (by decide)), y_ck (by omega) (by decide), y_ck (by omega) (by decide), nI_clamp (by omega), (h i (by omega)).1, (h i (by omega)).2]
    by_cases q : f19 i = 0
    · rw [if_pos q]; exact step _ (by rw [if_pos q])
    · rw [if_neg q]; exact step _ (by rw [if_neg q])
theorem c_rem (hF : 2000 ≤ F) (hT : y_T T) (h : y_rb w b T S V) : ∃ V', fX4_remember F T V = some V' ∧ y_rb w b T (y_rem T S) V' := by
  have h7 := hT.2.1.1
  obtain ⟨V1, e1, e2, e3⟩ := c_reml (F := F) hT (f19 := y_R S 19) (f22 := y_R S 22) (y_many T 7) 0 F V (by omega) (by omega) (fun m hm => ⟨y_rb_r h (r := 19) (by decide) hm, y_rb_r h (r := 22) (by decide) hm⟩) (fun m hm => by omega)
  refine ⟨V1, e1, ?_⟩
  obtain ⟨g1, g2, g3, ⟨a1, a2, a3⟩, p, hp, g5, g6⟩ := h
  refine ⟨⟨fun q hq => (e3.1 q.1 q.2 List.not_mem_nil).trans (g1.1 q hq), fun r hr i hi => ?_, (e3.2.2.1 0 8).trans g1.2.2⟩, ⟨(e3.1 10 4 List.not_mem_nil).trans g2.1, fun i c hc => (congrFun (e3.2.1 13 (by decide)) i).trans (g2.2 i c hc)⟩, ?_, ⟨a1, a2, fun m hm => ?_⟩, p, hp, g5, y_lay_fr g6 e3 List.not_mem_nil (fun q _ => List.not_mem_nil) (by decide)⟩
  · by_cases q : r = 23
    · subst q
      have hi' : i < y_many T 7 := hi
      rw [e2 i hi']
      show _ = (if 23 = 23 then (fun m => if m < y_many T 7 then (if y_R S 19 m = 0 then -1 else y_R S 22 m) else 0) else zA S.1 23) i
      rw [if_pos rfl, if_pos hi']
    · rw [y_rem_row q, e3.2.1 r (fun z => q (by simpa using z))]
      exact g1.2.1 r hr i hi
  · rw [e3.1 18 6 List.not_mem_nil, g3, y_timed_same (y_rem_row (by decide))]
  · rw [y_rem_row (by decide)]; exact a3 m hm
/-- before the acts of a press, a tick, a begin -/
theorem c_beg (hF : 2000 ≤ F) (hT : y_T T) (h : y_rb w b T S V) : ∃ V', fX1_beginActs F T V = some V' ∧ y_rb w b T (y_beg T S) V' ∧ y_ac (y_beg T S) = 0 := by
  unfold fX1_beginActs y_beg
  rw [y_let, y_let]
  have h0 : y_rb w b T (y_sI S 0 13 0) (zsI V 0 13 0) := by
    obtain ⟨g1, g2, g3, ⟨-, a2, a3⟩, p, hp, g5, g6⟩ := h
    have f : y_fr [(0, 13)] [] V (zsI V 0 13 0) := y_fr_I y_fr_refl (List.mem_singleton.mpr rfl)
    exact ⟨y_sim_I g1, g2, g3, ⟨⟨0, by omega, rfl⟩, a2, a3⟩, p, hp, g5, y_lay_fr g6 f (by decide) (by decide) (by decide)⟩
  obtain ⟨V1, e1, e2⟩ := c_rem (F := F) hF hT (y_rb_I h0 (r := 0) (k := 14) (x := 0) (by decide))
  rw [e1, y_bd]
  exact ⟨V1, rfl, e2, rfl⟩
theorem y_ord_eq : y_ord T = (List.range' 0 (y_many T 7)).map fun i => (zA T 12 i).toNatClampNeg := by unfold y_ord; rw [List.range_eq_range']
theorem c_inOrder (hT : y_T T) {i : Nat} (hi : i < y_many T 7) : ∃ m, m < y_many T 7 ∧ fX9_inOrder F T (nI i) = some (nI m) ∧ (zA T 12 i).toNatClampNeg = m := by
  have h7 := hT.2.1.1
  obtain ⟨m, hm, e⟩ := hT.2.2.2.2.2.2 i hi
  refine ⟨m, hm, ?_, by rw [e, nI_clamp (by omega)]⟩
  unfold fX9_inOrder
  rw [if_neg (nI_pos (by omega)), if_neg (show ¬ (12 : Int32) ≤ nI i from nI_ge (b := 12) (by omega) (by decide)), y_ck (by omega) (by decide), nI_clamp (by omega), e]
theorem c_since (hT : y_T T) {m : Nat} (hm : m < y_many T 7) (h : y_rb w b T S V) : fX4_isOnSinceThen F V (nI m) = some (if y_R S 23 m = y_R S 22 m then 1 else 0) := by
  have h7 := hT.2.1.1
  unfold fX4_isOnSinceThen
  rw [if_neg (nI_pos (by omega)), if_neg (show ¬ (12 : Int32) ≤ nI m from nI_ge (b := 12) (by omega) (by decide)), y_ck (by omega) (by decide), y_ck (by omega) (by decide), nI_clamp (by omega), y_rb_r h (r := 22) (by decide) (show m < 12 by omega), y_rb_r h (r := 23) (by decide) hm]
  by_cases q : y_R S 23 m = y_R S 22 m
  · rw [if_pos q, if_pos q]
  · rw [if_neg q, if_neg q]
theorem c_hitl (hF : 2000 ≤ F) (hT : y_T T) {k s : Nat} (hk : k + 3000 < 2 ^ 31) : ∀ (r i n : Nat) (S : y_S) (V : zV), i + r = y_many T 7 → r + 1 ≤ n → y_rb w (k + 12 * y_ac S) T S V →
    ∃ V', fX1_hit_l35 F n T V (nI s) (nI i) = some (1, V') ∧ y_rb w (k + 2413) T (y_end T (y_hl T s ((List.range' i r).map fun i => (zA T 12 i).toNatClampNeg) S)) V' := by
  intro r
  have h7 := hT.2.1.1
  have fin : ∀ (S : y_S) (V : zV), y_rb w (k + 12 * y_ac S) T S V → ∃ V', fX1_hit_b89 F T V = some (1, V') ∧ y_rb w (k + 2413) T (y_end T S) V' := by
    intro S V h
    have := y_ac_le h
    obtain ⟨V1, e1, e2⟩ := c_end (F := F) hF hT (by omega) h
    rw [fX1_hit_b89, e1, y_bd]
    exact ⟨V1, rfl, y_rb_mono e2 (by omega)⟩
  induction r with
  | zero =>
    intro i n S V e hn h
    obtain ⟨n, rfl⟩ : ∃ n', n = n' + 1 := ⟨n - 1, by omega⟩
    rw [fX1_hit_l35, show ((7 : Int32)).toNatClampNeg = 7 from rfl, h7.1, if_pos (nI_le (by omega) (by omega))]
    exact fin S V h
  | succ r ih =>
    intro i n S V e hn h
    obtain ⟨n, rfl⟩ : ∃ n', n = n' + 1 := ⟨n - 1, by omega⟩
    rw [fX1_hit_l35, show ((7 : Int32)).toNatClampNeg = 7 from rfl, h7.1, if_neg (nI_ge (by omega) (by omega)), y_rb_at h (r := 0) (k := 14) (by decide), List.range'_succ, List.map_cons, y_hl]
    by_cases q : y_I S 0 14 = 0
    rotate_left
    · rw [if_neg q, if_neg q]; exact fin S V h
    rw [if_pos q, if_pos q]
    obtain ⟨m, hm, e1, e2⟩ := c_inOrder (F := F) hT (i := i) (by omega)
    rw [e1, y_bd, c_since hT hm h, y_bd, e2]
    by_cases q2 : y_R S 23 m = y_R S 22 m
    · rw [if_pos q2, if_pos q2, if_neg (by decide)]
      obtain ⟨V1, g1, g2⟩ := c_rules (F := F) hF hT (k := k) (l := 9) (m := m) (ev := nI s) (d := 0) (top := true) hk (by omega) rfl rfl hm h
      rw [g1, y_bd, fX1_hit_b83, nI_1]
      exact ih (i + 1) n _ V1 (by omega) (by omega) g2
    · rw [if_neg q2, if_neg q2, if_pos rfl, fX1_hit_b83, nI_1]
      exact ih (i + 1) n S V (by omega) (by omega) h
theorem c_hit (hF : 2000 ≤ F) (hT : y_T T) {s : Nat} (hs : s < y_many T 0) (hb : b + 8000 < 2 ^ 31) (h : y_rb w b T S V) :
    ∃ V', fX1_hit F T V (nI s) = some ((if (y_hit T S s).1 = true then 1 else 0), V') ∧ y_rb w (b + 2414) T (y_hit T S s).2 V' := by
  have h0 := hT.2.1.2.2
  have h7 := hT.2.1.1
  have r6 : zA V 6 s = y_R S 6 s := y_rb_r h (r := 6) (by decide) (show s < 16 by omega)
  have r7 : zA V 7 s = y_R S 7 s := y_rb_r h (r := 7) (by decide) (show s < 16 by omega)
  have r8 : zA V 8 s = y_R S 8 s := y_rb_r h (r := 8) (by decide) (show s < 16 by omega)
  unfold fX1_hit y_hit
  have hh : fX9_has F T 0 (nI s) = some 1 := (c_has (k := 0) (by decide) h0.1 (by omega) (by omega)).trans (by rw [if_pos hs])
  rw [fX8_take, hh, y_bd, if_neg (by decide), if_pos (show nI s < (16 : Int32) from nI_lt (b := 16) (by omega) (by decide)), y_ck (by omega) (by decide), y_ck (by omega) (by decide), y_let]
  simp only [nI_clamp (show s < 2 ^ 31 by omega), r7, y_rb_at h (r := 0) (k := 9) (by decide), y_rb_at h (r := 0) (k := 10) (by decide)]
  have h1 : y_rb w b T (y_sR S 7 s (y_R S 7 s + 1)) (zsA V 7 (upd (zA V 7) s (y_R S 7 s + 1))) := y_rb_A h (by decide)
  have e6 : zA (zsA V 7 (upd (zA V 7) s (y_R S 7 s + 1))) 6 s = y_R S 6 s := r6
  have e8 : zA (zsA V 7 (upd (zA V 7) s (y_R S 7 s + 1))) 8 s = y_R S 8 s := r8
  have yes : ∃ V', (zbd (fX8_take_b68 F T (zsA V 7 (upd (zA V 7) s (y_R S 7 s + 1))) (nI s) (y_I S 0 10) (y_I S 0 9)) fun q12 => if q12.1 = 0 then some (0, q12.2) else zbd (fX3_moveBallBy F T q12.2 (nI s)) fun q15 => zbd (fX1_beginActs F T q15) fun q17 => fX1_hit_l35 F F T q17 (nI s) 0) = some (1, V') ∧ y_rb w (b + 2414) T (y_end T (y_hl T s (y_ord T) (y_beg T (y_move T (y_took (y_sR S 7 s (y_R S 7 s + 1)) s) s)))) V' := by
    rw [fX8_take_b68, y_ck (by omega) (by decide), y_ck (by omega) (by decide), y_let, y_ck (by omega) (by decide), y_let, y_ck (by omega) (by decide), y_let, y_bd, if_neg (show ¬ (1 : Int32) = 0 by decide)]
    simp only [nI_clamp (show s < 2 ^ 31 by omega), e6]
    have h2 := y_rb_A (y_rb_A (y_rb_A h1 (r := 6) (i := s) (x := y_R S 6 s + 1) (by decide)) (r := 8) (i := s) (x := y_I S 0 10) (by decide)) (r := 9) (i := s) (x := y_I S 0 9) (by decide)
    obtain ⟨V2, a1, a2⟩ := c_move' (F := F) (s := s) hF hT.2.2.1 (by omega) h2
    obtain ⟨V3, b1, b2, b3⟩ := c_beg (F := F) hF hT a2
    obtain ⟨V4, d1, d2⟩ := c_hitl (F := F) (s := s) (k := b + 1) hF hT (by omega) (y_many T 7) 0 F _ V3 (by omega) (by omega) (by rw [b3]; exact b2)
    rw [← y_ord_eq] at d2
    refine ⟨V4, ?_, y_rb_mono d2 (by omega)⟩
    rw [a1, y_bd, b1, y_bd]
    exact d1
  by_cases q9 : y_I S 0 9 = 0
  · rw [if_pos q9, if_neg (show ¬ (¬ y_I S 0 9 = 0 ∧ (y_R S 6 s ≤ 0 ∨ zA T 2 s ≤ y_I S 0 10 - y_R S 8 s)) from fun z => z.1 q9)]
    exact ⟨_, rfl, y_rb_mono h1 (by omega)⟩
  rw [if_neg q9, y_ck (by omega) (by decide), e6]
  by_cases q6 : y_R S 6 s ≤ 0
  · rw [if_pos q6, if_pos (show ¬ y_I S 0 9 = 0 ∧ (y_R S 6 s ≤ 0 ∨ zA T 2 s ≤ y_I S 0 10 - y_R S 8 s) from ⟨q9, Or.inl q6⟩)]
    exact yes
  rw [if_neg q6, y_ck (by omega) (by decide), y_ck (by omega) (by decide), e8]
  by_cases q8 : zA T 2 s ≤ y_I S 0 10 - y_R S 8 s
  · rw [if_pos q8, if_pos (show ¬ y_I S 0 9 = 0 ∧ (y_R S 6 s ≤ 0 ∨ zA T 2 s ≤ y_I S 0 10 - y_R S 8 s) from ⟨q9, Or.inr q8⟩)]
    exact yes
  · rw [if_neg q8, if_neg (show ¬ (¬ y_I S 0 9 = 0 ∧ (y_R S 6 s ≤ 0 ∨ zA T 2 s ≤ y_I S 0 10 - y_R S 8 s)) from fun z => z.2.elim q6 q8)]
    exact ⟨_, rfl, y_rb_mono h1 (by omega)⟩
end
