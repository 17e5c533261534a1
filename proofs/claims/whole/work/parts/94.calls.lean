/-! ===== calls answer alike, on both sides ===== -/
theorem y_cut (N : Nat) (hN : N < 2 ^ 31) (x : Int32) : x < 0 ∨ (¬ x < 0 ∧ nI N ≤ x) ∨ ∃ j, j < N ∧ x = nI j := by
  by_cases h0 : x < 0
  · exact Or.inl h0
  by_cases h1 : nI N ≤ x
  · exact Or.inr (Or.inl ⟨h0, h1⟩)
  · exact Or.inr (Or.inr (y_of h0 h1 hN))
section
variable {F : Nat} {T : zV} {w : Bool} {lv n b : Nat} {S : y_S} {V0 V5 V7 : zV}
/-- a game on both sides, if there is one -/
def y_op (w : Bool) (lv n b : Nat) (T : zV) (S : y_S) (V0 V5 V7 : zV) : Prop :=
  (zI V0 0 9 = 0 ∧ zI V7 0 64 = 0) ∨ (¬ zI V0 0 9 = 0 ∧ ¬ zI V7 0 64 = 0 ∧ y_rb w b T S V5 ∧ y_gm lv T S n V7 ∧ y_iv n b T S ∧ zI V0 0 12 = nI n ∧ n ≤ 600)
theorem b_score (h : y_op w lv n b T S V0 V5 V7) : ∃ a, fX11_score F V0 V5 = some a ∧ fX12_score F V7 = some a := by
  unfold fX11_score fX12_score
  rcases h with ⟨h1, h2⟩ | ⟨h1, h2, h3, h4, h5, h6, h7⟩
  · rw [if_pos h1, if_pos h2]; exact ⟨_, rfl, rfl⟩
  · rw [if_neg h1, if_neg h2, h3.1.2.2, h4.2.1.2.2.2.2.1]; exact ⟨_, rfl, rfl⟩
theorem b_told (hTT : y_T T) (hT : y_mt T lv V7) (h20 : ¬ zI V7 0 20 = 0) (x1 x2 : Int32) (h : y_op w lv n b T S V0 V5 V7) : ∃ a, fX11_told F V0 T V5 x1 x2 = some a ∧ fX12_told F V7 x1 x2 = some a := by
  have h0 := hTT.2.1.2.2
  have hlv := hT.1.1
  have hc : fX9_has F T 0 x1 = some (if x1 < 0 then 0 else if zA T 1 0 ≤ x1 then 0 else 1) := c_hasx (k := 0) (by decide)
  have hs : fX12_sort F V7 0 = some (zA T 1 0) := m_sort (k := 0) hT (by decide)
  unfold fX11_told fX12_told
  rw [hc, y_bd, if_neg h20, hs, y_bd, h0.1]
  rcases y_cut (y_many T 0) (by omega) x1 with q | ⟨q, q2⟩ | ⟨s, hs', rfl⟩
  · rw [if_pos q, if_pos rfl, if_pos q]; exact ⟨_, rfl, rfl⟩
  · rw [if_neg q, if_pos q2, if_pos rfl, if_neg q, if_neg (Int32.not_lt.mpr q2)]; exact ⟨_, rfl, rfl⟩
  rw [if_neg (nI_pos (by omega)), if_neg (nI_ge hs' (by omega)), if_neg (show ¬ (1 : Int32) = 0 by decide), if_neg (nI_pos (by omega)), if_pos (nI_lt hs' (by omega))]
  simp only [y_ck (show s < 16 by omega) (by decide), nI_clamp (show s < 2 ^ 31 by omega), hT.1.2, show (16 : Int32) = nI 16 from rfl, pk_mul, nI_add, y_ck (show 16 * lv + s < 32 by omega) (by decide), nI_clamp (show 16 * lv + s < 2 ^ 31 by omega)]
  have r12 : zA V7 12 (16 * lv + s) = zA T 2 s := hT.2.2.2.2.2.1.1 s hs'
  by_cases q3 : x2 = 3
  · rw [if_pos q3, if_pos q3, r12]
    exact ⟨_, rfl, rfl⟩
  rw [if_neg q3, if_neg q3]
  rcases h with ⟨h1, h2⟩ | ⟨h1, h2, h3, h4, h5, h6, h7⟩
  · rw [if_pos h1, if_pos h2]; exact ⟨_, rfl, rfl⟩
  rw [if_neg h1, if_neg h2]
  have hs16 : s < 16 := by omega
  by_cases q0 : x2 = 0
  · rw [if_pos q0, if_pos q0, y_rb_r h3 (r := 6) (by decide) hs16, y_mg_r h4.2.1 (r := 6) (r7 := 44) (n := 16) (by decide) hs16]
    exact ⟨_, rfl, rfl⟩
  rw [if_neg q0, if_neg q0]
  by_cases q1 : x2 = 1
  · rw [if_pos q1, if_pos q1, y_rb_r h3 (r := 7) (by decide) hs16, y_mg_r h4.2.1 (r := 7) (r7 := 45) (n := 16) (by decide) hs16]
    exact ⟨_, rfl, rfl⟩
  rw [if_neg q1, if_neg q1]
  by_cases q2 : x2 = 2
  rotate_left
  · rw [if_neg q2, if_neg q2]; exact ⟨_, rfl, rfl⟩
  rw [if_pos q2, if_pos q2, h4.2.2.1 s hs']
  have hover : fX1_ballsOver F V5 = some (y_over S) := by
    unfold fX1_ballsOver y_over
    rw [y_rb_at h3 (r := 0) (k := 9) (by decide)]
    split <;> rfl
  have hstk : fX8_isStuck F V5 (nI s) (y_over S) = some (y_stk S s) := by
    unfold fX8_isStuck y_stk
    rw [if_neg (nI_pos (by omega)), if_neg (show ¬ (16 : Int32) ≤ nI s from nI_ge (b := 16) hs16 (by decide)), y_ck hs16 (by decide), nI_clamp (by omega), y_rb_r h3 (r := 9) (by decide) hs16]
    split
    · rfl
    · split <;> rfl
  rw [hover, y_bd, hstk, y_bd]
  by_cases q : y_stk S s = 0
  · rw [if_pos q]; exact ⟨_, rfl, rfl⟩
  · rw [if_neg q]; exact ⟨_, rfl, rfl⟩
theorem b_value (hTT : y_T T) (h6 : zA T 1 6 = nI (y_many T 6) ∧ y_many T 6 ≤ 16) (hT : y_mt T lv V7) (x1 : Int32) (h : y_op w lv n b T S V0 V5 V7) : ∃ a, fX11_value F V0 T V5 x1 = some a ∧ fX12_value F V7 x1 = some a := by
  have hc : fX9_has F T 6 x1 = some (if x1 < 0 then 0 else if zA T 1 6 ≤ x1 then 0 else 1) := c_hasx (k := 6) (by decide)
  have hs : fX12_sort F V7 6 = some (zA T 1 6) := m_sort (k := 6) hT (by decide)
  unfold fX11_value fX12_value
  rcases h with ⟨h1, h2⟩ | ⟨h1, h2, h3, h4, h5, -, -⟩
  · rw [if_pos h1, if_pos h2]; exact ⟨_, rfl, rfl⟩
  rw [if_neg h1, if_neg h2, hc, y_bd, hs, y_bd, h6.1]
  rcases y_cut (y_many T 6) (by omega) x1 with q | ⟨q, q2⟩ | ⟨s, hs', rfl⟩
  · rw [if_pos q, if_pos rfl, if_pos q]; exact ⟨_, rfl, rfl⟩
  · rw [if_neg q, if_pos q2, if_pos rfl, if_neg q, if_pos q2]; exact ⟨_, rfl, rfl⟩
  have hs16 : s < 16 := by omega
  rw [if_neg (nI_pos (by omega)), if_neg (nI_ge hs' (by omega)), if_neg (show ¬ (1 : Int32) = 0 by decide), if_neg (nI_pos (by omega)), if_neg (nI_ge hs' (by omega)), y_ck hs16 (by decide), y_ck hs16 (by decide), nI_clamp (by omega), y_rb_r h3 (r := 1) (by decide) hs16, y_mg_v h4.2.1 hs']
  exact ⟨_, rfl, rfl⟩
theorem b_mode (hTT : y_T T) (hT : y_mt T lv V7) (h20 : ¬ zI V7 0 20 = 0) (x1 x2 : Int32) (h : y_op w lv n b T S V0 V5 V7) : ∃ a, fX11_mode F V0 T V5 x1 x2 = some a ∧ fX12_mode F V7 x1 x2 = some a := by
  have h7 := hTT.2.1.1
  have hlv := hT.1.1
  have hc : fX9_has F T 7 x1 = some (if x1 < 0 then 0 else if zA T 1 7 ≤ x1 then 0 else 1) := c_hasx (k := 7) (by decide)
  have hs : fX12_sort F V7 7 = some (zA T 1 7) := m_sort (k := 7) hT (by decide)
  unfold fX11_mode fX12_mode
  rw [hc, y_bd, if_neg h20, hs, y_bd, h7.1]
  rcases y_cut (y_many T 7) (by omega) x1 with q | ⟨q, q2⟩ | ⟨m, hm', rfl⟩
  · rw [if_pos q, if_pos rfl, if_pos q]; exact ⟨_, rfl, rfl⟩
  · rw [if_neg q, if_pos q2, if_pos rfl, if_neg q, if_neg (Int32.not_lt.mpr q2)]; exact ⟨_, rfl, rfl⟩
  have hm12 : m < 12 := by omega
  rw [if_neg (nI_pos (by omega)), if_neg (nI_ge hm' (by omega)), if_neg (show ¬ (1 : Int32) = 0 by decide), if_neg (nI_pos (by omega)), if_pos (nI_lt hm' (by omega))]
  simp only [y_ck hm12 (by decide), nI_clamp (show m < 2 ^ 31 by omega), hT.1.2, show (12 : Int32) = nI 12 from rfl, pk_mul, nI_add, y_ck (show 12 * lv + m < 24 by omega) (by decide), nI_clamp (show 12 * lv + m < 2 ^ 31 by omega)]
  have r21 : zA V7 21 (12 * lv + m) = zA T 10 m := (hT.2.2.1 m hm').1
  by_cases q3 : x2 = 3
  · rw [if_pos q3, if_pos q3, r21]
    exact ⟨_, rfl, rfl⟩
  rw [if_neg q3, if_neg q3]
  rcases h with ⟨h1, h2⟩ | ⟨h1, h2, h3, h4, h5, -, -⟩
  · rw [if_pos h1, if_pos h2]; exact ⟨_, rfl, rfl⟩
  rw [if_neg h1, if_neg h2]
  by_cases q0 : x2 = 0
  · rw [if_pos q0, if_pos q0, y_rb_r h3 (r := 19) (by decide) hm12, y_mg_r h4.2.1 (r := 19) (r7 := 49) (n := 12) (by decide) hm12]
    split <;> exact ⟨_, rfl, rfl⟩
  rw [if_neg q0, if_neg q0]
  by_cases q1 : x2 = 1
  · rw [if_pos q1, if_pos q1, y_rb_r h3 (r := 20) (by decide) hm12, y_mg_r h4.2.1 (r := 20) (r7 := 50) (n := 12) (by decide) hm12]
    exact ⟨_, rfl, rfl⟩
  rw [if_neg q1, if_neg q1]
  by_cases q2 : x2 = 2
  · rw [if_pos q2, if_pos q2, y_rb_r h3 (r := 21) (by decide) hm12, y_mg_r h4.2.1 (r := 21) (r7 := 51) (n := 12) (by decide) hm12]
    exact ⟨_, rfl, rfl⟩
  · rw [if_neg q2, if_neg q2]; exact ⟨_, rfl, rfl⟩
/-- a press -/
theorem b_press (hF : 3000 ≤ F) (hTT : y_T T) (hax : y_ax T) (hmo : ∀ m, m < y_many T 7 → y_hd T m ≤ y_hd T (m + 1)) (hT : y_mt T lv V7) (hb : b + 9000 < 2 ^ 31) (x : Int32) (h : y_op w lv n b T S V0 V5 V7) :
    ∃ a V0' V5' V7', fX11_press F V0 T V5 x = some (a, V0', V5') ∧ fX12_press F V7 x = some (a, V7') ∧ ((V0' = V0 ∧ V5' = V5 ∧ V7' = V7) ∨
      ∃ s, s < y_many T 0 ∧ x = nI s ∧ n < 600 ∧ V0' = zsI (zsA (zsA V0 62 (upd (zA V0 62) n (nI s))) 63 (upd (zA V0 63) n (y_I S 0 10))) 0 12 (nI (n + 1)) ∧ y_op w lv (n + 1) (b + 2500) T (y_hit T S s).2 V0' V5' V7' ∧ y_fw ((0, 72) :: y_pz) (44 :: 45 :: 46 :: 48 :: 64 :: 65 :: y_py) V7 V7') := by
  have h0 := hTT.2.1.2.2
  have hc : fX9_has F T 0 x = some (if x < 0 then 0 else if zA T 1 0 ≤ x then 0 else 1) := c_hasx (k := 0) (by decide)
  have hs : fX12_sort F V7 0 = some (zA T 1 0) := m_sort (k := 0) hT (by decide)
  have no : ∃ a V0' V5' V7', some ((-1 : Int32), V0, V5) = some (a, V0', V5') ∧ some ((-1 : Int32), V7) = some (a, V7') ∧ ((V0' = V0 ∧ V5' = V5 ∧ V7' = V7) ∨
      ∃ s, s < y_many T 0 ∧ x = nI s ∧ n < 600 ∧ V0' = zsI (zsA (zsA V0 62 (upd (zA V0 62) n (nI s))) 63 (upd (zA V0 63) n (y_I S 0 10))) 0 12 (nI (n + 1)) ∧ y_op w lv (n + 1) (b + 2500) T (y_hit T S s).2 V0' V5' V7' ∧ y_fw ((0, 72) :: y_pz) (44 :: 45 :: 46 :: 48 :: 64 :: 65 :: y_py) V7 V7') :=
    ⟨-1, V0, V5, V7, rfl, rfl, Or.inl ⟨rfl, rfl, rfl⟩⟩
  have hop := h
  rcases h with ⟨h1, h2⟩ | ⟨h1, h2, h3, h4, h5, h6, h7⟩
  · have e7 : fX12_press F V7 x = some (-1, V7) := by
      unfold fX12_press
      rw [if_pos h2]
      split <;> rfl
    unfold fX11_press
    rw [e7, if_pos h1]; exact no
  rcases y_cut (y_many T 0) (by omega) x with q | ⟨q, q2⟩ | ⟨s, hs', rfl⟩
  · unfold fX11_press fX12_press
    rw [if_neg h1, hc, y_bd, if_pos q, if_pos rfl, if_pos q]; exact no
  · unfold fX11_press fX12_press
    rw [if_neg h1, hc, y_bd, if_neg q, h0.1, if_pos q2, if_pos rfl, if_neg q, if_neg h2, hs, y_bd, h0.1, if_pos q2]; exact no
  by_cases qn : n = 600
  · unfold fX11_press fX12_press
    subst qn
    rw [if_neg h1, hc, y_bd, if_neg (nI_pos (by omega)), h0.1, if_neg (nI_ge hs' (by omega)), if_neg (show ¬ (1 : Int32) = 0 by decide), h6, if_neg (show ¬ nI 600 < (600 : Int32) by decide), if_neg (nI_pos (by omega)), if_neg h2, hs, y_bd, h0.1, if_neg (nI_ge hs' (by omega)), h4.2.2.2.2, if_pos (show nI 600 = (600 : Int32) from rfl)]
    exact no
  have hn : n < 600 := by omega
  obtain ⟨V7', a1, a2, a3, a4⟩ := m_press (F := F) hF hTT hax hmo hn (by omega) hs' h4 h5 h2
  obtain ⟨V5', c1, c2⟩ := c_hit (F := F) (by omega) hTT hs' (by omega) h3
  have e10 : zI V5 0 10 = y_I S 0 10 := y_rb_at h3 (r := 0) (k := 10) (by decide)
  rw [a1]
  have e11 : fX11_press F V0 T V5 (nI s) = some ((if (y_hit T S s).1 = true then 1 else 0), zsI (zsA (zsA V0 62 (upd (zA V0 62) n (nI s))) 63 (upd (zA V0 63) n (y_I S 0 10))) 0 12 (nI (n + 1)), V5') := by
    have g1 : ∀ f, zI (zsA V0 62 f) 0 12 = nI n := fun _ => h6
    have g2 : ∀ f g, zI (zsA (zsA V0 62 f) 63 g) 0 12 = nI n := fun _ _ => h6
    have g3 : ∀ f, zA (zsA V0 62 f) 63 = zA V0 63 := fun _ => rfl
    unfold fX11_press
    rw [if_neg h1, hc, y_bd, if_neg (nI_pos (by omega)), h0.1, if_neg (nI_ge hs' (by omega)), if_neg (show ¬ (1 : Int32) = 0 by decide), h6, if_pos (show nI n < (600 : Int32) from nI_lt (b := 600) hn (by decide))]
    simp only [y_let, g1, g2, g3, y_ck (show n < 600 by omega) (by decide), nI_clamp (show n < 2 ^ 31 by omega), nI_1, e10, c1, y_bd]
    cases (y_hit T S s).1 with
    | true => rfl
    | false => rfl
  rw [e11]
  refine ⟨_, _, V5', V7', rfl, rfl, Or.inr ⟨s, hs', rfl, hn, rfl, Or.inr ⟨h1, ?_, y_rb_up c2 (by omega), a2, a3, rfl, by omega⟩, a4⟩⟩
  rw [a4.1 0 64 (by decide)]; exact h2
end
