/-! ===== the class takes a table ===== -/
section
variable {F : Nat} {b : Nat → Nat} {L N E : Nat} {V1 T : zV}
def r_cT (b : Nat → Nat) (L E : Nat) (T : zV) : Prop := r_c4 b L E E T ∧ (∀ i, i < r_cn (r_tK b L) 7 E → zA T 12 i = y_is (zA T 10) (r_cn (r_tK b L) 7 E) (fun _ => 0) i) ∧
  r_c6 b L E (min 1000 (E + 1)) (min 1000 (E + 1)) T ∧ ∀ m, r_cn (r_tK b L) 7 E ≤ m → m ≤ 12 → zA T 16 m = nI (r_cn (r_tK b L) 11 E)
theorem r_c4_fr {i : Nat} {T' : zV} {sc : List (Nat × Nat)} {ar : List Nat} (h : r_c4 b L E i T) (f : y_fr sc ar T T') (ha : ∀ r ∈ ar, 12 ≤ r) : r_c4 b L E i T' := by
  have row : ∀ r, r < 12 → zA T' r = zA T r := fun r hr => f.2.1 r fun z => by have := ha r z; omega
  refine ⟨fun k hk => by rw [row 1 (by decide)]; exact h.1 k hk, fun r hr j hj hk => ?_, fun c d hc hd => ?_⟩
  · rw [row r ((show ∀ r ∈ [2, 3, 5, 6, 7, 8, 9, 10, 11], r < 12 by decide) r hr)]; exact h.2.1 r hr j hj hk
  · unfold y_apart
    rw [row 4 (by decide)]; exact h.2.2 c d hc hd
theorem c_taketable (hF : 1100 ≤ F) (hgr : r_gram (r_tK b L) = .ok E) (h : r_nv b L N E N V1) : ∃ T', fX9_takeFrom F V1 T = some T' ∧ r_cT b L E T' ∧ ∃ W, r_l6 b L E (min 1000 (E + 1)) W ∧ fX6_findRing F W (nI (r_cn (r_tK b L) 7 E)) = some T' := by
  have hg := r_gram_gf hgr
  have hN := h.1
  have c7 : r_cn (r_tK b L) 7 E ≤ 12 := hg.2.2.1 7 (by decide)
  obtain ⟨T1, a1, a2, a3⟩ := c_parts (F := F) (T := T) hF hgr h
  have hs : fX10_size F V1 = some (nI N) := by unfold fX10_size; rw [h.2.1]
  have esz : (if (1000 : Int32) < nI N then (1000 : Int32) else nI N) = nI (min 1000 N) := by
    by_cases q : 1000 < N
    · rw [if_pos (show (1000 : Int32) < nI N from nI_lt (a := 1000) q (by omega)), show min 1000 N = 1000 by omega]; rfl
    · rw [if_neg (show ¬ (1000 : Int32) < nI N from nI_nlt (a := 1000) (by omega) (by decide)), show min 1000 N = N by omega]
  have eN : min 1000 N = min 1000 (E + 1) := by omega
  have hE41 := hg.1.1
  have l181 : ∀ (n x M : Nat) (W : zV), x + n = 13 → n + 1 ≤ M → r_cn (r_tK b L) 7 E ≤ x → r_c6 b L E (min 1000 N) (min 1000 N) W → r_l6 b L E (min 1000 N) W → (∀ m, r_cn (r_tK b L) 7 E ≤ m → m < x → zA W 16 m = nI (r_cn (r_tK b L) 11 E)) →
      ∃ T', fX6_takeFrom_l181 F M V1 W (nI (r_cn (r_tK b L) 7 E)) (nI x) = some T' ∧ r_c6 b L E (min 1000 N) (min 1000 N) T' ∧ (∀ m, r_cn (r_tK b L) 7 E ≤ m → m ≤ 12 → zA T' 16 m = nI (r_cn (r_tK b L) 11 E)) ∧ (∃ W, r_l6 b L E (min 1000 N) W ∧ fX6_findRing F W (nI (r_cn (r_tK b L) 7 E)) = some T') ∧ y_fr [(13, 11)] [16, 22] W T' := by
    intro n
    induction n with
    | zero =>
      intro x M W hx hM hcx hc hl hm
      obtain ⟨M, rfl⟩ : ∃ M', M = M' + 1 := ⟨M - 1, by omega⟩
      obtain ⟨T', d1, d2⟩ := c_findRing (F := F) (T := W) (by omega) c7
      rw [fX6_takeFrom_l181, if_pos (show (13 : Int32) ≤ nI x from nI_le (a := 13) (by omega) (by omega)), d1, y_bd]
      have row : ∀ r, ¬ r = 22 → zA T' r = zA W r := fun r hr => d2.2.1 r (by simpa using hr)
      refine ⟨T', rfl, ⟨⟨(d2.1 13 2 (by decide)).trans hc.1.1, (d2.1 13 3 (by decide)).trans hc.1.2⟩, fun j hj => by rw [row 14 (by decide), row 15 (by decide)]; exact hc.2.1 j hj, fun j hj hk => by rw [row 16 (by decide)]; exact hc.2.2.1 j hj hk, fun j hj hk => by rw [row 17 (by decide)]; exact hc.2.2.2.1 j hj hk, fun r hr => ?_⟩, fun m h1 h2 => by rw [row 16 (by decide)]; exact hm m h1 (by omega), ⟨W, hl, d1⟩, y_fr_mono d2 (by decide) (by decide)⟩
      have := hc.2.2.2.2 r hr
      unfold r_u6 at this ⊢
      rw [row 18 (by decide), row 19 (by decide), row 20 (by decide), row 21 (by decide)]
      exact this
    | succ n ih =>
      intro x M W hx hM hcx hc hl hm
      obtain ⟨M, rfl⟩ : ∃ M', M = M' + 1 := ⟨M - 1, by omega⟩
      have e3 : zI W 13 3 = nI (r_cn (r_tK b L) 11 E) := by
        rw [hc.1.2]
        by_cases q : min 1000 N = E
        · rw [q]
        · rw [show min 1000 N = E + 1 by omega, r_cn_same (by omega)]
      rw [fX6_takeFrom_l181, if_neg (show ¬ (13 : Int32) ≤ nI x from nI_ge (b := 13) (by omega) (by decide)), y_ck (by omega) (by decide), y_let, nI_clamp (by omega), nI_1, e3]
      have row : ∀ r, ¬ r = 16 → zA (zsA W 16 (upd (zA W 16) x (nI (r_cn (r_tK b L) 11 E)))) r = zA W r := fun r hr => by
        show (if r = 16 then _ else zA W r) = _
        rw [if_neg hr]
      have key : r_c6 b L E (min 1000 N) (min 1000 N) (zsA W 16 (upd (zA W 16) x (nI (r_cn (r_tK b L) 11 E)))) := by
        refine ⟨hc.1, fun j hj => by rw [row 14 (by decide), row 15 (by decide)]; exact hc.2.1 j hj, fun j hj hk => ?_, fun j hj hk => by rw [row 17 (by decide)]; exact hc.2.2.2.1 j hj hk, fun r hr => ?_⟩
        · show upd (zA W 16) x _ _ = _
          have hjE : j < E := by
            by_cases z : j < E
            · exact z
            · have : j = E := by omega
              subst this; omega
          have := r_cn_lt hjE hk
          rw [y_upd, if_neg (by omega)]
          exact hc.2.2.1 j hj hk
        · have := hc.2.2.2.2 r hr
          unfold r_u6 at this ⊢
          rw [row 18 (by decide), row 19 (by decide), row 20 (by decide), row 21 (by decide)]
          exact this
      have k2 : ∀ m, r_cn (r_tK b L) 7 E ≤ m → m < x + 1 → zA (zsA W 16 (upd (zA W 16) x (nI (r_cn (r_tK b L) 11 E)))) 16 m = nI (r_cn (r_tK b L) 11 E) := by
        intro m h1 h2
        show upd (zA W 16) x _ m = _
        rw [y_upd]
        by_cases q : m = x
        · rw [if_pos q]
        · rw [if_neg q]; exact hm m h1 (by omega)
      have kl : r_l6 b L E (min 1000 N) (zsA W 16 (upd (zA W 16) x (nI (r_cn (r_tK b L) 11 E)))) := fun f t hf ht => by rw [row 22 (by decide)]; exact hl f t hf ht
      obtain ⟨T', d1, d2, d3, d5, d4⟩ := ih (x + 1) M _ (by omega) (by omega) (by omega) key kl k2
      exact ⟨T', d1, d2, d3, d5, y_fr_trans (y_fr_A y_fr_refl (by decide)) d4⟩
  have l21 : ∀ (n x M : Nat) (W : zV), x + n = 24 → n + 1 ≤ M → zI W 13 2 = nI (min 1000 N) → zI W 13 3 = 0 → (∀ f, f < x → zA W 22 f = 0) → ∃ T', fX6_takeFrom_l21 F M V1 W (nI x) = some T' ∧ r_c6 b L E (min 1000 N) (min 1000 N) T' ∧ (∀ m, r_cn (r_tK b L) 7 E ≤ m → m ≤ 12 → zA T' 16 m = nI (r_cn (r_tK b L) 11 E)) ∧ (∃ W, r_l6 b L E (min 1000 N) W ∧ fX6_findRing F W (nI (r_cn (r_tK b L) 7 E)) = some T') ∧ y_fr [(13, 3), (13, 11)] [14, 15, 16, 17, 18, 19, 20, 21, 22] W T' := by
    intro n
    induction n with
    | zero =>
      intro x M W hx hM e2 e3 e22
      obtain ⟨M, rfl⟩ : ∃ M', M = M' + 1 := ⟨M - 1, by omega⟩
      obtain ⟨W1, d1, d2, dl, d3⟩ := c_rules47 (F := F) hF hgr h (sz := min 1000 N) rfl (min 1000 N) 0 F W (by omega) (by omega) ⟨⟨e2, e3⟩, fun j hj => by omega, fun j hj => by omega, fun j hj => by omega, fun r hr => absurd hr (Nat.not_lt_zero _)⟩ (fun f t hf ht => by
          rw [e22 f (by omega)]
          constructor
          · intro z
            rw [show (0 : Int32).toBitVec.getLsbD t = false from BitVec.getLsbD_zero] at z
            cases z
          · rintro ⟨m, j, h1, -⟩
            exact absurd h1 (Nat.not_lt_zero _))
      have d1 : fX6_takeFrom_l47 F F V1 W 0 0 = _ := d1
      rw [fX6_takeFrom_l21, if_pos (show (24 : Int32) ≤ nI x from nI_le (a := 24) (by omega) (by omega)), d1]
      obtain ⟨T', g1, g2, g3, g5, g4⟩ := l181 (13 - r_cn (r_tK b L) 7 E) (r_cn (r_tK b L) 7 E) F W1 (by omega) (by omega) (Nat.le_refl _) d2 dl fun m h1 h2 => by omega
      exact ⟨T', g1, g2, g3, g5, y_fr_trans (y_fr_mono d3 (by decide) (by decide)) (y_fr_mono g4 (by decide) (by decide))⟩
    | succ n ih =>
      intro x M W hx hM e2 e3 e22
      obtain ⟨M, rfl⟩ : ∃ M', M = M' + 1 := ⟨M - 1, by omega⟩
      rw [fX6_takeFrom_l21, if_neg (show ¬ (24 : Int32) ≤ nI x from nI_ge (b := 24) (by omega) (by decide)), y_ck (by omega) (by decide), y_let, nI_clamp (by omega), nI_1]
      have z22 : ∀ f, f < x + 1 → zA (zsA W 22 (upd (zA W 22) x 0)) 22 f = 0 := fun f hf => by
        show upd (zA W 22) x 0 f = 0
        rw [y_upd]
        by_cases q : f = x
        · rw [if_pos q]
        · rw [if_neg q]; exact e22 f (by omega)
      obtain ⟨T', g1, g2, g3, g5, g4⟩ := ih (x + 1) M (zsA W 22 (upd (zA W 22) x 0)) (by omega) (by omega) e2 e3 z22
      exact ⟨T', g1, g2, g3, g5, y_fr_trans (y_fr_A y_fr_refl (by decide)) g4⟩
  obtain ⟨T', g1, g2, g3, g5, g4⟩ := l21 24 0 F (zsI (zsI T1 13 2 (nI (min 1000 N))) 13 3 0) rfl (by omega) rfl rfl (fun f hf => absurd hf (Nat.not_lt_zero _))
  have g1 : fX6_takeFrom_l21 F F V1 (zsI (zsI T1 13 2 (nI (min 1000 N))) 13 3 0) 0 = some T' := g1
  have ef : fX6_takeFrom F V1 T1 = some T' := by
    unfold fX6_takeFrom
    rw [hs, y_bd, esz, y_let, y_let, g1]
  rw [a1, ef, y_bd]
  rw [eN] at g2 g5
  have f0 : y_fr [(13, 2), (13, 3), (13, 11)] [14, 15, 16, 17, 18, 19, 20, 21, 22] T1 T' := y_fr_trans (y_fr_I (y_fr_I y_fr_refl (by decide)) (by decide)) (y_fr_mono g4 (by decide) (by decide))
  refine ⟨T', rfl, ⟨r_c4_fr a2 f0 (by decide), fun i hi => ?_, g2, g3⟩, g5⟩
  rw [f0.2.1 12 (by decide), f0.2.1 10 (by decide)]
  exact a3 i hi
end
