/-! ===== the reference reads: parts and modes ===== -/
section
variable {F : Nat} {b : Nat → Nat} {L M sd : Nat} {V : zV}
/-- heads of rules behind the last mode -/
def r_hd (b : Nat → Nat) (L sd i : Nat) (V : zV) : Prop := 0 < r_cn (r_tK b L) 7 i → zA V 23 (13 * sd + r_cn (r_tK b L) 7 i) = nI (r_cn (r_tK b L) 11 i)
def r_lo (b : Nat → Nat) (L M sd : Nat) (V : zV) (res : Option (Int32 × zV)) (F : Nat) (s : r_r) : Prop := ∃ V', res = fX12_read_b228 F V' ∧ match s with
  | .error (f, j) => r_me b L sd f j V V'
  | .ok e => (∃ cc', r_rs b L M sd e cc' V') ∧ r_fx sd V V' ∧ r_hd b L sd e V'
theorem r_lo_pre {V1 : zV} {res : Option (Int32 × zV)} {s : r_r} (f : r_fx sd V V1) (h : r_lo b L M sd V1 res F s) : r_lo b L M sd V res F s := by
  obtain ⟨V', a1, a2⟩ := h
  refine ⟨V', a1, ?_⟩
  cases s with
  | error e => exact r_me_pre f a2
  | ok e => exact ⟨a2.1, r_fx_trans f a2.2.1, a2.2.2⟩
theorem m_l206 (hF : 1200 ≤ F) (hL : L ≤ 4000) : ∀ (n N i cc : Nat) (V : zV), n + 1 ≤ N → 1001 ≤ n + i → r_rs b L M sd i cc V → r_hd b L sd i V → r_lo b L M sd V (fX12_read_l206 F N V) F (r_modes (r_tK b L) n i) := by
  intro n
  induction n with
  | zero =>
    intro N i cc V hN hi h hh
    have := (r_ms_lt h.1).2.1
    omega
  | succ n ih =>
    intro N i cc V hN hi h hh
    obtain ⟨N, rfl⟩ : ∃ N', N = N' + 1 := ⟨N - 1, by omega⟩
    have h1 := h.1
    have hs := h1.2.2.1
    rw [fX12_read_l206, if_pos h1.2.1.2.1, m_is h1 (k := 41) (x := 0) (by decide) rfl, y_bd, r_modes]
    by_cases q41 : r_tK b L i = 41
    · rw [if_pos q41, if_neg (by decide), if_neg (by omega), if_pos q41]
      exact ⟨V, rfl, ⟨cc, h⟩, r_fx_refl, hh⟩
    rw [if_neg q41, if_pos rfl, if_neg q41]
    have mm := m_tmode (F := F) hF hL h
    have flt : ∀ {f j : Nat} {V2 : zV}, r_me b L sd f j V V2 → r_lo b L M sd V (fX12_read_l206 F N V2) F (.error (f, j)) := by
      intro f j V2 g
      obtain ⟨N, rfl⟩ : ∃ N', N = N' + 1 := ⟨N - 1, by omega⟩
      rw [fX12_read_l206, if_neg (r_mf_ne (r_me_mf g hs)).2]
      exact ⟨V2, rfl, g⟩
    by_cases q7 : r_tK b L i = 7
    rotate_left
    · rw [if_neg q7] at mm ⊢
      obtain ⟨V2, a1, a2⟩ := mm
      rw [a1, y_bd]
      exact flt a2
    rw [if_pos q7] at mm ⊢
    cases hm : r_mode (r_tK b L) i with
    | error e =>
      rw [hm] at mm
      obtain ⟨V2, a1, a2⟩ := mm
      rw [a1, y_bd]
      exact flt a2
    | ok e =>
      rw [hm] at mm
      obtain ⟨V2, cc', a1, a2, a3, a4, a5, a6, a7⟩ := mm
      rw [a1, y_bd]
      exact r_lo_pre a4 (ih N e cc' V2 (by omega) (by omega) a3 fun _ => a7)
theorem m_l150 (hF : 1200 ≤ F) (hL : L ≤ 4000) : ∀ (n N i cc : Nat) (V : zV), n + 1 ≤ N → 1001 ≤ n + i → r_rs b L M sd i cc V → r_cn (r_tK b L) 7 i = 0 → r_lo b L M sd V (fX12_read_l150 F N V) F (r_b (r_parts (r_tK b L) n i) (r_modes (r_tK b L) 1001)) := by
  intro n
  induction n with
  | zero =>
    intro N i cc V hN hi h hh
    have := (r_ms_lt h.1).2.1
    omega
  | succ n ih =>
    intro N i cc V hN hi h hh
    obtain ⟨N, rfl⟩ : ∃ N', N = N' + 1 := ⟨N - 1, by omega⟩
    have h1 := h.1
    have hs := h1.2.2.1
    have lt := r_ms_lt h1
    have hrk := r_rk_part ⟨r_tK b L i, by have := r_tK_le (b := b) (L := L) i; omega⟩
    have hrl := r_rk_le ⟨r_tK b L i, by have := r_tK_le (b := b) (L := L) i; omega⟩
    dsimp only at hrk hrl
    rw [fX12_read_l150, if_pos h1.2.1.2.1, h1.2.1.1]
    simp only [y_ck (show i < 1003 by omega) (show 1003 < 2 ^ 31 by decide), nI_clamp (show i < 2 ^ 31 by omega), m_kt h1]
    rw [r_parts]
    by_cases q : r_tK b L i ≤ 6
    rotate_left
    · rw [if_neg q]
      have fin := m_l206 (F := F) hF hL 1001 F i cc V (by omega) (by omega) h fun z => by omega
      have : r_rk (r_tK b L i) < 20 ∨ 27 < r_rk (r_tK b L i) ∨ r_rk (r_tK b L i) = 26 := by
        by_cases z : r_rk (r_tK b L i) < 20 ∨ 27 < r_rk (r_tK b L i) ∨ r_rk (r_tK b L i) = 26
        · exact z
        · exact absurd (hrk.mp ⟨fun y => z (Or.inl y), fun y => z (Or.inr (Or.inl y)), fun y => z (Or.inr (Or.inr y))⟩) q
      by_cases q1 : r_rk (r_tK b L i) < 20
      · rw [if_pos (show nI (r_rk (r_tK b L i)) < (20 : Int32) from nI_lt (b := 20) q1 (by decide))]; exact fin
      rw [if_neg (show ¬ nI (r_rk (r_tK b L i)) < (20 : Int32) from nI_nlt (b := 20) (by omega) (by omega))]
      by_cases q2 : 27 < r_rk (r_tK b L i)
      · rw [if_pos (show (27 : Int32) < nI (r_rk (r_tK b L i)) from nI_lt (a := 27) q2 (by omega))]; exact fin
      · rw [if_neg (show ¬ (27 : Int32) < nI (r_rk (r_tK b L i)) from nI_nlt (a := 27) (by omega) (by omega)), if_pos (show nI (r_rk (r_tK b L i)) = (26 : Int32) by rw [show r_rk (r_tK b L i) = 26 by omega]; rfl)]; exact fin
    obtain ⟨z1, z2, z3⟩ := hrk.mpr q
    rw [if_pos q, if_neg (show ¬ nI (r_rk (r_tK b L i)) < (20 : Int32) from nI_nlt (b := 20) (by omega) (by omega)), if_neg (show ¬ (27 : Int32) < nI (r_rk (r_tK b L i)) from nI_nlt (a := 27) (by omega) (by omega)), if_neg (show ¬ nI (r_rk (r_tK b L i)) = (26 : Int32) from fun y => z3 ((nI_eq (b := 26) (by omega) (by decide)).mp y))]
    have mm := m_tpart (F := F) hF hL h q
    unfold r_po at mm
    cases hm : r_part (r_tK b L) i with
    | error e =>
      rw [hm] at mm
      obtain ⟨V2, a1, a2⟩ := mm
      rw [a1, y_bd]
      obtain ⟨N, rfl⟩ : ∃ N', N = N' + 1 := ⟨N - 1, by omega⟩
      obtain ⟨F, rfl⟩ : ∃ F', F = F' + 1 := ⟨F - 1, by omega⟩
      rw [fX12_read_l150, if_neg (r_mf_ne (r_me_mf a2 hs)).2, fX12_read_l206, if_neg (r_mf_ne (r_me_mf a2 hs)).2]
      exact ⟨V2, rfl, a2⟩
    | ok e =>
      rw [hm] at mm
      obtain ⟨V2, a1, a3, a4, a5, a6⟩ := mm
      rw [a1, y_bd]
      have ecn : r_cn (r_tK b L) 7 e = 0 := by
        rw [r_cn_eq (i := i) (by omega) fun a h1 h2 => by
          by_cases q2 : a = i
          · subst q2; omega
          · have := a6 a (by omega) h2; omega]
        exact hh
      exact r_lo_pre a4 (ih N e cc V2 (by omega) (by omega) a3 ecn)
end
