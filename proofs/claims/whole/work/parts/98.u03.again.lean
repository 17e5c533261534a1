/-! ===== again: the log is played once more ===== -/
section
variable {F : Nat} {T : zV} {w : Bool} {lv n b : Nat} {S : y_S} {V0 V5 V6 V7 : zV}
theorem c_agl (hF : 2000 ≤ F) (hT : y_T T) {k : zV → zV → zV → zV → Int32 → Option (Int64 × zV)} {x1 x2 : Int32} {till : Nat} (ht : till ≤ 5000) : ∀ (r x M b : Nat) (S : y_S) (V : zV), x + r = till → 1 ≤ M → b + 2430 * r + 8000 < 2 ^ 31 → y_rb w b T S V →
    ∃ V', fX11_again_l79 F k (M + r) V0 T V5 V x1 x2 (nI till) (nI x) = (if x2 = 0 then fX11_again_b117 F k V0 T V5 V' x1 else zchk (zix x1 600) <| zbd (fX1_hit F T V' (zA V0 62 (x1).toNatClampNeg)) fun q4 => fX11_again_b117 F k V0 T V5 q4.2 x1) ∧ y_rb w (b + 2430 * r) T (y_ticks T r S).2 V' := by
  intro r
  induction r with
  | zero =>
    intro x M b S V hx hM hb h
    obtain ⟨M, rfl⟩ : ∃ M', M = M' + 1 := ⟨M - 1, by omega⟩
    rw [Nat.add_zero, fX11_again_l79, if_pos (nI_le (by omega) (by omega))]
    exact ⟨V, rfl, h⟩
  | succ r ih =>
    intro x M b S V hx hM hb h
    obtain ⟨V1, a1, a2⟩ := c_tick (F := F) hF hT (by omega) h
    rw [show M + (r + 1) = (M + r) + 1 by omega, fX11_again_l79, if_neg (nI_ge (by omega) (by omega)), a1, y_bd, nI_1]
    obtain ⟨V2, b1, b2⟩ := ih (x + 1) M (b + 2430) _ V1 (by omega) hM (by omega) a2
    refine ⟨V2, b1, ?_⟩
    rw [y_ticks, show b + 2430 * (r + 1) = b + 2430 + 2430 * r by omega]
    exact b2
theorem y_rp_t {A B : Nat → Int32} (h : ∀ i, i < n → (∃ s, s < y_many T 0 ∧ A i = nI s) ∧ (∃ u, u ≤ 5000 ∧ B i = nI u) ∧ y_lt B i ≤ y_lt B (i + 1)) : ∀ i, i ≤ n → y_I (y_rp T A B i) 0 10 = nI (y_lt B i) ∧ y_lt B i ≤ 5000 := by
  intro i
  induction i with
  | zero => intro _; exact ⟨y_t_open, Nat.zero_le _⟩
  | succ i ih =>
    intro hi
    obtain ⟨h1, h2⟩ := ih (by omega)
    obtain ⟨-, ⟨u, u1, u2⟩, h3⟩ := h i (by omega)
    have e : y_lt B (i + 1) = u := by
      show (B i).toNatClampNeg = u
      rw [u2, nI_clamp (by omega)]
    refine ⟨?_, by omega⟩
    rw [y_rp, y_t_hit, y_t_ticks _ _ _ h1, show y_lt B i + (y_lt B (i + 1) - y_lt B i) = y_lt B (i + 1) by omega]
theorem c_agL (hF : 9000 ≤ F) (hT : y_T T) (h12 : zI V0 0 12 = nI n) (hn : n ≤ 600) {t : Nat} (ht : t ≤ 5000) (h10 : zI V5 0 10 = nI t) (hlt : y_lt (zA V0 63) n ≤ t)
    (hl : ∀ i, i < n → (∃ s, s < y_many T 0 ∧ zA V0 62 i = nI s) ∧ (∃ u, u ≤ 5000 ∧ zA V0 63 i = nI u) ∧ y_lt (zA V0 63) i ≤ y_lt (zA V0 63) (i + 1)) :
    ∀ (k i N : Nat) (V : zV), i + k = n → k + 2 ≤ N → y_rb w (2430 + 2430 * y_lt (zA V0 63) i + 2414 * i) T (y_rp T (zA V0 62) (zA V0 63) i) V →
      ∃ V', fX11_again_l20 F N V0 T V5 V (nI i) = some (y_P (y_ticks T (t - y_lt (zA V0 63) n) (y_rp T (zA V0 62) (zA V0 63) n)).2, V') ∧ y_rb w (2430 + 2430 * t + 2414 * n) T (y_ticks T (t - y_lt (zA V0 63) n) (y_rp T (zA V0 62) (zA V0 63) n)).2 V' := by
  have h0 := hT.2.1.2.2
  intro k
  induction k with
  | zero =>
    intro i N V hi hN h
    obtain ⟨N, rfl⟩ : ∃ N', N = N' + 2 := ⟨N - 2, by omega⟩
    have : i = n := by omega
    subst this
    have h' := h
    obtain ⟨-, -, -, -, -⟩ := h'
    have e10 := (y_rp_t hl i (Nat.le_refl _)).1
    have eV : zI V 0 10 = nI (y_lt (zA V0 63) i) := (y_rb_at h (r := 0) (k := 10) (by decide)).trans e10
    rw [fX11_again_l20, h12, if_neg (nI_nlt (by omega) (by omega)), if_pos (nI_le (Nat.le_refl _) (by omega)), fX11_again_b47, fX11_again_b48, if_pos rfl, fX11_again_b69, h10, eV]
    obtain ⟨V', a1, a2⟩ := c_agl (F := F) (w := w) (V0 := V0) (V5 := V5) (k := fX11_again_l20 F (N + 1)) (x1 := nI i) (x2 := 0) (by omega) hT ht (t - y_lt (zA V0 63) i) (y_lt (zA V0 63) i) (F - (t - y_lt (zA V0 63) i)) _ _ V (by omega) (by omega) (by omega) h
    rw [Nat.sub_add_cancel (by omega)] at a1
    rw [a1, if_pos rfl, fX11_again_b117, nI_1, fX11_again_l20, h12, if_pos (nI_lt (by omega) (by omega)), a2.1.2.2]
    exact ⟨V', rfl, y_rb_up a2 (by omega)⟩
  | succ k ih =>
    intro i N V hi hN h
    obtain ⟨N, rfl⟩ : ∃ N', N = N' + 1 := ⟨N - 1, by omega⟩
    have hin : i < n := by omega
    obtain ⟨⟨s, s1, s2⟩, ⟨u, u1, u2⟩, h3⟩ := hl i hin
    obtain ⟨e10, le1⟩ := y_rp_t hl i (by omega)
    have eV : zI V 0 10 = nI (y_lt (zA V0 63) i) := (y_rb_at h (r := 0) (k := 10) (by decide)).trans e10
    have eu : y_lt (zA V0 63) (i + 1) = u := by
      show (zA V0 63 i).toNatClampNeg = u
      rw [u2, nI_clamp (by omega)]
    rw [fX11_again_l20, h12, if_neg (nI_nlt (by omega) (by omega)), if_neg (nI_ge (by omega) (by omega)), if_neg (show ¬ (600 : Int32) ≤ nI i from nI_ge (b := 600) (by omega) (by decide)), fX11_again_b48, if_neg (show ¬ (1 : Int32) = 0 by decide), y_ck (show i < 600 by omega) (by decide), fX11_again_b69, nI_clamp (by omega), u2, eV]
    obtain ⟨V1, a1, a2⟩ := c_agl (F := F) (w := w) (V0 := V0) (V5 := V5) (k := fX11_again_l20 F N) (x1 := nI i) (x2 := 1) (by omega) hT u1 (u - y_lt (zA V0 63) i) (y_lt (zA V0 63) i) (F - (u - y_lt (zA V0 63) i)) _ _ V (by omega) (by omega) (by omega) h
    rw [Nat.sub_add_cancel (by omega)] at a1
    obtain ⟨V2, b1, b2⟩ := c_hit (F := F) (by omega) hT s1 (by omega) a2
    rw [a1, if_neg (show ¬ (1 : Int32) = 0 by decide), y_ck (show i < 600 by omega) (by decide), nI_clamp (by omega), s2, b1, y_bd, fX11_again_b117, nI_1]
    refine ih (i + 1) N V2 (by omega) (by omega) ?_
    rw [y_rp, eu, s2, nI_clamp (by omega)]
    exact y_rb_up b2 (by omega)
/-- what a replay finds -/
def y_i6 (V6 : zV) : Prop := (∃ a, a ≤ 200 ∧ zI V6 0 13 = nI a) ∧ y_lz false 0 [] V6
theorem y_i6_rb (hw : y_ww T) (h : y_rb false b T S V6) : y_i6 V6 := by
  obtain ⟨g1, g2, g3, ⟨⟨a, ha, ea⟩, -⟩, p, hp, g5, g6⟩ := h
  exact ⟨⟨a, ha, (y_sim_at g1 (r := 0) (k := 13) (by decide)).trans ea⟩, g6⟩
theorem b_again0 (h1 : zI V0 0 9 = 0) (h2 : zI V7 0 64 = 0) : fX11_again F V0 T V5 V6 = some (-1, V6) ∧ fX12_again F V7 = some (-1) := by
  unfold fX11_again fX12_again
  rw [if_pos h1, if_pos h2]
  exact ⟨rfl, rfl⟩
theorem b_again (hF : 9000 ≤ F) (hT : y_T T) (h6 : y_i6 V6) (h : y_op w lv n b T S V0 V5 V7) (hg : ¬ zI V0 0 9 = 0 → y_lg T (zA V0 62) (zA V0 63) n S) : ∃ a V6', fX11_again F V0 T V5 V6 = some (a, V6') ∧ fX12_again F V7 = some a ∧ y_i6 V6' := by
  rcases h with ⟨h1, h2⟩ | ⟨h1, h2, h3, h4, h5, h12, hn⟩
  · obtain ⟨a1, a2⟩ := b_again0 (F := F) (T := T) (V5 := V5) (V6 := V6) h1 h2
    exact ⟨-1, V6, a1, a2, h6⟩
  obtain ⟨t, t1, t2, t3, t4, t5⟩ := hg h1
  obtain ⟨⟨a, ha, ea⟩, hz⟩ := h6
  obtain ⟨V1, a1, a2⟩ := c_open (F := F) (b := 0) (by omega) hT (by omega) ha ea hz
  have e10 : zI V5 0 10 = nI t := (y_rb_at h3 (r := 0) (k := 10) (by decide)).trans t2
  obtain ⟨V2, b1, b2⟩ := c_agL (F := F) (w := false) hF hT h12 hn t1 e10 t3 t5 n 0 F V1 (by omega) (by omega) (y_rb_up a2 (by omega))
  rw [← t4] at b1 b2
  refine ⟨y_P S, V2, ?_, ?_, y_i6_rb hT.2.2.1 b2⟩
  · unfold fX11_again
    rw [if_neg h1, a1, y_bd]
    exact b1
  · unfold fX12_again
    rw [if_neg h2, h4.2.1.2.2.2.2.1]
end
