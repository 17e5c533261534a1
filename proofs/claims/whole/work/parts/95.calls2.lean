/-! ===== more calls: coil, begin, ticks ===== -/
section
variable {F : Nat} {T : zV} {w : Bool} {lv n b : Nat} {S : y_S} {V0 V5 V7 : zV}
theorem b_rowl {Q : List Nat} (h8 : Q.length ≤ 8) {c : Int32} (h1 : zI V5 10 4 = nI Q.length) (h2 : ∀ i c, Q[i]? = some c → zA V5 13 i = nI c) (h3 : zI V7 0 85 = nI Q.length) (h4 : ∀ i c, Q[i]? = some c → zA V7 55 i = nI c) : ∀ (r i N M : Nat), i + r = Q.length → r + 1 ≤ N → r + 1 ≤ M →
    ∃ a, fX0_placeInRow_l2 F N V5 c (nI i) = some a ∧ fX12_coil_l64 F M V7 c (nI i) = some a := by
  intro r
  induction r with
  | zero =>
    intro i N M e hN hM
    obtain ⟨N, rfl⟩ : ∃ N', N = N' + 1 := ⟨N - 1, by omega⟩
    obtain ⟨M, rfl⟩ : ∃ N', M = N' + 1 := ⟨M - 1, by omega⟩
    rw [fX0_placeInRow_l2, fX12_coil_l64, h1, h3, if_pos (nI_le (by omega) (by omega)), if_pos (nI_le (by omega) (by omega))]
    exact ⟨_, rfl, rfl⟩
  | succ r ih =>
    intro i N M e hN hM
    obtain ⟨N, rfl⟩ : ∃ N', N = N' + 1 := ⟨N - 1, by omega⟩
    obtain ⟨M, rfl⟩ : ∃ N', M = N' + 1 := ⟨M - 1, by omega⟩
    have hi : i < Q.length := by omega
    have eq : Q[i]? = some Q[i] := List.getElem?_eq_getElem hi
    rw [fX0_placeInRow_l2, fX12_coil_l64, h1, h3, if_neg (nI_ge (by omega) (by omega)), if_neg (nI_ge (by omega) (by omega)), if_neg (show ¬ (8 : Int32) ≤ nI i from nI_ge (b := 8) (by omega) (by decide)), y_ck (by omega) (by decide), y_ck (by omega) (by decide), nI_clamp (by omega), h2 i _ eq, h4 i _ eq, nI_1]
    by_cases q : nI Q[i] = c
    · rw [if_pos q, if_pos q]; exact ⟨_, rfl, rfl⟩
    · rw [if_neg q, if_neg q]; exact ih (i + 1) N M (by omega) (by omega) (by omega)
theorem b_coil (hF : 3000 ≤ F) (hTT : y_T T) (hT : y_mt T lv V7) (x1 x2 : Int32) (h : y_op w lv n b T S V0 V5 V7) : ∃ a, fX11_coil F V0 T V5 x1 x2 = some a ∧ fX12_coil F V7 x1 x2 = some a := by
  have h1' := hTT.2.1.2.1
  have hc : fX9_has F T 1 x1 = some (if x1 < 0 then 0 else if zA T 1 1 ≤ x1 then 0 else 1) := c_hasx (k := 1) (by decide)
  have hs : fX12_sort F V7 1 = some (zA T 1 1) := m_sort (k := 1) hT (by decide)
  unfold fX11_coil fX12_coil
  rcases h with ⟨h1, h2⟩ | ⟨h1, h2, h3, h4, h5, -, -⟩
  · rw [if_pos h1, if_pos h2]; exact ⟨_, rfl, rfl⟩
  rw [if_neg h1, if_neg h2, hc, y_bd, hs, y_bd, h1'.1]
  rcases y_cut (y_many T 1) (by omega) x1 with q | ⟨q, q2⟩ | ⟨s, hs', rfl⟩
  · rw [if_pos q, if_pos rfl, if_pos q]; exact ⟨_, rfl, rfl⟩
  · rw [if_neg q, if_pos q2, if_pos rfl, if_neg q, if_neg (Int32.not_lt.mpr q2)]; exact ⟨_, rfl, rfl⟩
  have hs8 : s < 8 := by omega
  rw [if_neg (nI_pos (by omega)), if_neg (nI_ge hs' (by omega)), if_neg (show ¬ (1 : Int32) = 0 by decide), if_neg (nI_pos (by omega)), if_pos (nI_lt hs' (by omega))]
  simp only [y_ck hs8 (by decide), nI_clamp (show s < 2 ^ 31 by omega)]
  obtain ⟨t, ht, et, i5⟩ := h5.2.2.2.2.1
  obtain ⟨c, j, hcc, hj, ec, ej⟩ := i5 s hs8
  by_cases q0 : x2 = 0
  · rw [if_pos q0, if_pos q0, y_rb_r h3 (r := 11) (by decide) hs8, y_mg_r h4.2.1 (r := 11) (r7 := 53) (n := 8) (by decide) hs8]
    exact ⟨_, rfl, rfl⟩
  rw [if_neg q0, if_neg q0]
  by_cases q1 : x2 = 1
  · rw [if_pos q1, if_pos q1, y_rb_r h3 (r := 11) (by decide) hs8, y_rb_r h3 (r := 12) (by decide) hs8, h4.2.1.2.2.2.1 s hs8, ec]
    by_cases q : c = 0
    · subst q
      rw [if_pos (show nI 0 ≤ (0 : Int32) by decide), if_pos (show nI 0 = (0 : Int32) from rfl)]; exact ⟨_, rfl, rfl⟩
    · rw [if_neg (nI_nle (by omega) (by omega)), if_neg (nI_ne0 (by omega) (by omega))]; exact ⟨_, rfl, rfl⟩
  rw [if_neg q1, if_neg q1]
  by_cases q2 : x2 = 2
  rotate_left
  · rw [if_neg q2, if_neg q2]; exact ⟨_, rfl, rfl⟩
  rw [if_pos q2, if_pos q2]
  have hQ := h5.1.1
  have hQ8 : S.2.2.2.length ≤ 8 := by
    have := y_sub_len S.2.2.2 (List.range 8) hQ.1 (fun x hx => List.mem_range.mpr (by have := hQ.2 x hx; omega))
    rwa [List.length_range] at this
  obtain ⟨a, a1, a2⟩ := b_rowl (F := F) (V5 := V5) (V7 := V7) (c := nI s) hQ8 h3.2.1.1 h3.2.1.2 h4.2.1.2.2.2.2.2.2.1.1 h4.2.1.2.2.2.2.2.2.1.2 S.2.2.2.length 0 F F (by omega) (by omega) (by omega)
  have a1' : fX0_placeInRow F V5 (nI s) = some a := a1
  have a2' : fX12_coil_l64 F F V7 (nI s) 0 = some a := a2
  rw [a1', y_bd, a2']
  exact ⟨a, rfl, rfl⟩
/-- what a new game asks of what lies there -/
def y_id (w : Bool) (b : Nat) (V5 V7 : zV) : Prop := (∃ a, a ≤ 200 ∧ zI V5 0 13 = nI a) ∧ (∃ k L, k ≤ b ∧ y_lz w k L V5) ∧ zI V7 0 61 = 0 ∧ ∀ l, l < 65536 → zA V7 42 l = 0
theorem b_begin (hF : 3000 ≤ F) (hTT : y_T T) (hax : y_ax T) (hmo : ∀ m, m < y_many T 7 → y_hd T m ≤ y_hd T (m + 1)) (hto : y_to T) (hm6 : y_many T 6 ≤ 16) (hT : y_mt T lv V7) (hb : b + 9000 < 2 ^ 31) (h7 : ¬ zI V0 0 7 = 0) (h20 : ¬ zI V7 0 20 = 0) (h : y_id w b V5 V7) :
    ∃ V5' V7', fX11_begin F V0 T V5 = some (1, zsI (zsI V0 0 9 1) 0 12 0, V5') ∧ fX12_begin F V7 = some (1, V7') ∧ y_op w lv 0 (b + 2500) T (y_open T) (zsI (zsI V0 0 9 1) 0 12 0) V5' V7' ∧ y_fw ((0, 64) :: (0, 68) :: (0, 72) :: y_pz) (44 :: 45 :: 46 :: 48 :: 53 :: 54 :: 56 :: y_py) V7 V7' := by
  obtain ⟨⟨a, ha, ea⟩, ⟨k, L, hk, hl⟩, h61, h42⟩ := h
  obtain ⟨V7', a1, a2, a3, a4, a5⟩ := m_open (F := F) hF hTT hax hmo hto hm6 hT h20 h61 h42
  obtain ⟨V5', c1, c2⟩ := c_open (F := F) (by omega) hTT (by omega) ha ea hl
  refine ⟨V5', V7', ?_, a1, Or.inr ⟨?_, ?_, y_rb_up c2 (by omega), a2, y_iv_up a3 (by omega), rfl, by omega⟩, a5⟩
  · unfold fX11_begin
    rw [if_neg h7]
    simp only [y_let, c1, y_bd]
  · show ¬ (1 : Int32) = 0
    decide
  · rw [a4]; decide
end
