/-! ===== MODES in the reference: the head, the whole ===== -/
section
variable {F : Nat} {b : Nat → Nat} {L M sd : Nat} {V : zV}
theorem r_ms_tl {i j : Nat} {l : List r_E} {P : Nat → Nat → Prop} (h : r_ms b L M sd i l P V) (e1 : l = r_tl b L j) (e2 : ∀ a k, r_wp b L j a k ↔ P a k) : r_ms b L M sd i (r_tl b L j) (r_wp b L j) V := by
  subst e1
  exact ⟨h.1, h.2.1, h.2.2.1, h.2.2.2.1, r_ws_iff h.2.2.2.2 fun a k => (e2 a k).symm⟩
theorem r_sw_row {V' : zV} (h : r_sw V V') (r : Nat) : zA V' r = zA V r := h.2.1 r
/-- behind the head's TIME -/
theorem m_b169 {i e0 cc n7 : Nat} (hF : 1200 ≤ F) (hL : L ≤ 4000) (hn7 : n7 < 12) (h : r_mr b L M sd e0 V) (h7 : zA V 8 (9 * sd + 7) = nI n7) (h8 : zA V 8 (9 * sd + 8) = nI (r_cn (r_tK b L) 11 i))
    (hK : ∀ V1 e1, e1 = e0 + 1 → r_tK b L e0 = 29 → e0 < 1000 → V1 = zsA (zsA (zsI V 0 11 (nI e1)) 23 (upd (zA V 23) (13 * sd + n7) (nI (r_cn (r_tK b L) 11 i)))) 8 (upd (zA V 8) (9 * sd + 7) (nI (n7 + 1))) → r_mr b L M sd e1 V1 → r_rs b L M sd e1 cc V1) :
    match r_b (r_need (r_tK b L) 29 e0) fun j => r_b (r_rules (r_tK b L) 1001 j) (r_need (r_tK b L) 10) with
      | .error (f, j) => ∃ V', fX12_tellMode_b169 F V = some V' ∧ r_me b L sd f j V V'
      | .ok e => ∃ V' V2 cc', fX12_tellMode_b169 F V = some V' ∧ r_tK b L e0 = 29 ∧ e0 + 1 < e ∧ cc ≤ cc' ∧ r_tK b L (e - 1) = 10 ∧ r_rs b L M sd (e - 1) cc' V2 ∧ V' = zsA (zsI V2 0 11 (nI e)) 23 (upd (zA V2 23) (13 * sd + n7 + 1) (nI (r_cn (r_tK b L) 11 (e - 1)))) ∧ r_mr b L M sd e V' ∧ r_fx sd V V' ∧ (∀ a, e0 ≤ a → a < e → 8 ≤ r_tK b L a) := by
  have lt := r_ms_lt h
  have hs := h.2.2.1
  have hsd := hs.2
  have hm := m_must (F := F) h (k := 29) (x := 4) (by decide) rfl
  rw [fX12_tellMode_b169]
  cases hn : r_need (r_tK b L) 29 e0 with
  | error z =>
    rw [hn] at hm
    obtain ⟨V1, a1, a2⟩ := hm
    rw [a1, y_bd, if_neg (r_mf_ne (r_me_mf a2 hs)).1]
    exact ⟨V1, rfl, a2⟩
  | ok e1 =>
    rw [hn] at hm
    obtain ⟨a1, a2, a3⟩ := hm
    obtain ⟨k29, rfl, h999⟩ := r_need_ok hn
    obtain ⟨u1, u2⟩ := r_quiet (b := b) (L := L) (i := e0) (by omega) (by omega)
    have m1 : r_mr b L M sd (e0 + 1) (zsI V 0 11 (nI (e0 + 1))) := r_mr_P a2 u1.symm u2
    have e19 : zI (zsI V 0 11 (nI (e0 + 1))) 0 19 = nI sd := hs.1
    have g1 : ∀ f, zI (zsA (zsI V 0 11 (nI (e0 + 1))) 23 f) 0 19 = nI sd := fun _ => hs.1
    have g2 : zA (zsI V 0 11 (nI (e0 + 1))) 8 = zA V 8 := rfl
    have g3 : ∀ f, zA (zsA (zsI V 0 11 (nI (e0 + 1))) 23 f) 8 = zA V 8 := fun _ => rfl
    have g4 : zA (zsI V 0 11 (nI (e0 + 1))) 23 = zA V 23 := rfl
    rw [a1, y_bd, if_pos (show zI (zsI V 0 11 (nI (e0 + 1))) 0 13 ≤ 0 by rw [m1.2.1.2.1]; decide)]
    simp only [e19, g1, g2, g3, g4, show (9 : Int32) = nI 9 from rfl, show (8 : Int32) = nI 8 from rfl, show (7 : Int32) = nI 7 from rfl, show (13 : Int32) = nI 13 from rfl, pk_mul, nI_add, nI_1, y_ck (show 9 * sd + 7 < 18 by omega) (show 18 < 2 ^ 31 by decide), y_ck (show 9 * sd + 8 < 18 by omega) (show 18 < 2 ^ 31 by decide), y_let, nI_clamp (show 9 * sd + 7 < 2 ^ 31 by omega), nI_clamp (show 9 * sd + 8 < 2 ^ 31 by omega), h7, h8, y_ck (show 13 * sd + n7 < 26 by omega) (show 26 < 2 ^ 31 by decide), nI_clamp (show 13 * sd + n7 < 2 ^ 31 by omega)]
    have fx2 : r_fx sd V (zsA (zsA (zsI V 0 11 (nI (e0 + 1))) 23 (upd (zA V 23) (13 * sd + n7) (nI (r_cn (r_tK b L) 11 i)))) 8 (upd (zA V 8) (9 * sd + 7) (nI (n7 + 1)))) :=
      r_fx_H (V' := zsA (zsI V 0 11 (nI (e0 + 1))) 23 (upd (zA V 23) (13 * sd + n7) (nI (r_cn (r_tK b L) 11 i)))) (k := 7) (r_fx_H (V' := zsI V 0 11 (nI (e0 + 1))) (k := n7) (r_fx_I r_fx_refl (by decide)) (by decide) (by rw [show r_hs 23 = 13 from rfl, Nat.mul_comm]) (by show n7 < 13; omega)) (by decide) (by rw [show r_hs 8 = 9 from rfl, Nat.mul_comm]) (by decide)
    have m2 : r_mr b L M sd (e0 + 1) (zsA (zsA (zsI V 0 11 (nI (e0 + 1))) 23 (upd (zA V 23) (13 * sd + n7) (nI (r_cn (r_tK b L) 11 i)))) 8 (upd (zA V 8) (9 * sd + 7) (nI (n7 + 1)))) :=
      r_ms_eq m1 (r_fx_H (V' := zsA (zsI V 0 11 (nI (e0 + 1))) 23 (upd (zA V 23) (13 * sd + n7) (nI (r_cn (r_tK b L) 11 i)))) (k := 7) (r_fx_H (V' := zsI V 0 11 (nI (e0 + 1))) (k := n7) r_fx_refl (by decide) (by rw [show r_hs 23 = 13 from rfl, Nat.mul_comm]) (by show n7 < 13; omega)) (by decide) (by rw [show r_hs 8 = 9 from rfl, Nat.mul_comm]) (by decide)) rfl m1.2.1.2.1 m1.2.1.2.2 rfl rfl rfl rfl rfl rfl
    have rs := hK _ (e0 + 1) rfl k29 h999 rfl m2
    obtain ⟨V2, d1, d2⟩ := m_rulesl (F := F) hF hL hn7 1001 F (e0 + 1) cc _ (by omega) (by omega) rs
    rw [d1]
    have er : r_b (r_rules (r_tK b L) 1001 (e0 + 1)) (r_need (r_tK b L) 10) = r_b (r_b (r_rules (r_tK b L) 1001 (e0 + 1)) fun j => if r_tK b L j = 10 then .ok j else .error (1, j)) r_pass := by
      rw [r_b_assoc]
      congr 1
      funext j
      unfold r_need
      by_cases q : r_tK b L j = 10
      · rw [if_pos q, if_pos q]; rfl
      · rw [if_neg q, if_neg q]; rfl
    show match r_b (r_rules (r_tK b L) 1001 (e0 + 1)) (r_need (r_tK b L) 10) with
      | .error (f, j) => ∃ V', fX12_tellMode_b271 F V2 (nI n7) = some V' ∧ r_me b L sd f j V V'
      | .ok e => _
    rw [er]
    cases hx : (r_b (r_rules (r_tK b L) 1001 (e0 + 1)) fun j => if r_tK b L j = 10 then .ok j else .error (1, j) : r_r) with
    | error z =>
      rw [hx] at d2
      have hme := r_me_pre fx2 d2
      obtain ⟨V3, p1, p2⟩ := m_b271_x (F := F) hn7 (r_me_mf hme hs)
      exact ⟨V3, p1, r_me_trans hme p2⟩
    | ok e =>
      rw [hx] at d2
      obtain ⟨k10, hle, ⟨c2, hc2, rs2⟩, fx3, kin, tl3, rows3⟩ := d2
      have m3 := rs2.1
      have lt3 := r_ms_lt m3
      have hm10 := m_must (F := F) m3 (k := 10) (x := 30) (by decide) rfl
      show match r_pass e with
        | .error (f, j) => ∃ V', fX12_tellMode_b271 F V2 (nI n7) = some V' ∧ r_me b L sd f j V V'
        | .ok e => _
      unfold r_need at hm10
      rw [if_pos k10] at hm10
      cases hp : r_pass e with
      | error z =>
        rw [hp] at hm10
        obtain ⟨V3, p1, p2⟩ := hm10
        have hme := r_me_pre fx2 (r_me_pre fx3 p2)
        have hmf := r_me_mf hme hs
        have x4 : ∀ x : Int32, r_mx sd V3 (zsA V3 23 (upd (zA V3 23) (13 * sd + n7 + 1) x)) := fun x => ⟨r_fx_H (k := n7 + 1) r_fx_refl (by decide) (by rw [show r_hs 23 = 13 from rfl]; omega) (by show n7 + 1 < 13; omega), rfl, rfl, hmf.2.1⟩
        rw [fX12_tellMode_b271, p1, y_bd, hmf.2.2.1, show (9 : Int32) = nI 9 from rfl, show (8 : Int32) = nI 8 from rfl, pk_mul, nI_add, y_ck (by omega) (by decide), show (13 : Int32) = nI 13 from rfl, pk_mul, nI_add, nI_1, y_ck (by omega) (by decide), y_let, nI_clamp (show 13 * sd + n7 + 1 < 2 ^ 31 by omega)]
        exact ⟨_, rfl, r_me_trans hme (x4 _)⟩
      | ok e2 =>
        rw [hp] at hm10
        obtain ⟨p1, p2, p3⟩ := hm10
        obtain ⟨rfl, he999⟩ := r_pass_ok hp
        obtain ⟨w1, w2⟩ := r_quiet (b := b) (L := L) (i := e) (by omega) (by omega)
        have m4 : r_mr b L M sd (e + 1) (zsI V2 0 11 (nI (e + 1))) := r_mr_P p2 w1.symm w2
        have e8 : zA (zsI V2 0 11 (nI (e + 1))) 8 (9 * sd + 8) = nI (r_cn (r_tK b L) 11 e) := rs2.2.2.2.2.2.1.1.2
        have e23 : zA (zsI V2 0 11 (nI (e + 1))) 23 = zA V2 23 := rfl
        rw [fX12_tellMode_b271, p1, y_bd, m4.2.2.1.1]
        simp only [e23, show (9 : Int32) = nI 9 from rfl, show (8 : Int32) = nI 8 from rfl, show (13 : Int32) = nI 13 from rfl, pk_mul, nI_add, nI_1, y_ck (show 9 * sd + 8 < 18 by omega) (show 18 < 2 ^ 31 by decide), y_let, nI_clamp (show 9 * sd + 8 < 2 ^ 31 by omega), e8, y_ck (show 13 * sd + n7 + 1 < 26 by omega) (show 26 < 2 ^ 31 by decide), nI_clamp (show 13 * sd + n7 + 1 < 2 ^ 31 by omega)]
        refine ⟨_, V2, c2, rfl, k29, by omega, hc2, by rw [Nat.add_sub_cancel]; exact k10, by rw [Nat.add_sub_cancel]; exact rs2, by rw [Nat.add_sub_cancel], ?_, ?_, fun a h1 h2 => ?_⟩
        · exact r_ms_eq m4 (r_fx_H (V' := zsI V2 0 11 (nI (e + 1))) (k := n7 + 1) r_fx_refl (by decide) (by rw [show r_hs 23 = 13 from rfl]; omega) (by show n7 + 1 < 13; omega)) rfl m4.2.1.2.1 m4.2.1.2.2 rfl rfl rfl rfl rfl rfl
        · exact r_fx_H (V' := zsI V2 0 11 (nI (e + 1))) (k := n7 + 1) (r_fx_I (r_fx_trans fx2 fx3) (by decide)) (by decide) (by rw [show r_hs 23 = 13 from rfl]; omega) (by show n7 + 1 < 13; omega)
        · by_cases q1 : a = e0
          · subst q1; omega
          by_cases q2 : a = e
          · subst q2; omega
          · exact kin a (by omega) (by omega)
end
