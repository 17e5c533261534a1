/-! ===== parts in the reference: switch, coil, var; place; lamp ===== -/
section
variable {F : Nat} {b : Nat → Nat} {L M sd : Nat} {V : zV}
/-- what a part leaves behind -/
def r_po (b : Nat → Nat) (L M sd i cc : Nat) (V : zV) (res : Option zV) (s : r_r) : Prop := match s with
  | .error (f, j) => ∃ V', res = some V' ∧ r_me b L sd f j V V'
  | .ok e => ∃ V', res = some V' ∧ r_rs b L M sd e cc V' ∧ r_fx sd V V' ∧ i < e ∧ (∀ a, i < a → a < e → r_tK b L a = 27 ∨ r_tK b L a = 28 ∨ r_tK b L a = 29 ∨ r_tK b L a = 8)
theorem r_rs_1 {i cc : Nat} (h : r_rs b L M sd i cc V) (h1 : r_tK b L i ≤ 6) (hi : i < 1000) : r_mr b L M sd (i + 1) (zsI V 0 11 (nI (i + 1))) := by
  obtain ⟨u1, u2⟩ := r_quiet (b := b) (L := L) (i := i) (by omega) (by omega)
  have f : r_fx sd V (zsI V 0 11 (nI (i + 1))) := r_fx_I r_fx_refl (by decide)
  exact r_mr_P (r_ms_eq h.1 f rfl h.1.2.1.2.1 (r_in_pass h.1.2.1.2.2 (by omega) (by omega) hi) rfl rfl rfl rfl rfl rfl) u1.symm u2
theorem r_kr_num {k r : Nat} (hk : k = 0 ∨ k = 1 ∨ k = 6) (h1 : 12 ≤ r) (h2 : r ≤ 22) (h : r_kr r = k) : r = if k = 0 then 12 else if k = 1 then 13 else 20 := by
  have : ∀ r : Fin 23, 12 ≤ r.1 → (r_kr r.1 = 0 → r.1 = 12) ∧ (r_kr r.1 = 1 → r.1 = 13) ∧ (r_kr r.1 = 6 → r.1 = 20) := by decide +kernel
  have := this ⟨r, by omega⟩ h1
  dsimp only at this
  rcases hk with rfl | rfl | rfl
  · exact this.1 h
  · exact this.2.1 h
  · exact this.2.2 h
theorem m_num {i cc k : Nat} (hF : 1200 ≤ F) (hL : L ≤ 4000) (h : r_rs b L M sd i cc V) (hK : r_tK b L i = k) (hk : k = 0 ∨ k = 1 ∨ k = 6) (hn : r_cn (r_tK b L) k i < r_max k) (hi : i < 1000) :
    r_po b L M sd i cc V (fX12_tellPart_b120 F (zsI V 0 11 (nI (i + 1))) (nI k) (nI (r_cn (r_tK b L) k i)) (nI (i + 1))) (r_b (r_need (r_tK b L) 27 (i + 1)) fun j => r_b (r_need (r_tK b L) 28 j) (r_need (r_tK b L) 29)) := by
  obtain ⟨h1, h12, hkt, hcc, hnr, htb, hcn, h80⟩ := id h
  have hs := h1.2.2.1
  have hsd := hs.2
  have m1 := r_rs_1 h (by omega) hi
  have fx1 : r_fx sd V (zsI V 0 11 (nI (i + 1))) := r_fx_I r_fx_refl (by decide)
  have hw2 := m_must (F := F) m1 (k := 27) (x := 1) (by decide) rfl
  have lim : r_cn (r_tK b L) k i < 16 := by unfold r_max at hn; rcases hk with rfl | rfl | rfl <;> simp at hn <;> omega
  rw [fX12_tellPart_b120]
  cases hp2 : r_need (r_tK b L) 27 (i + 1) with
  | error z =>
    rw [hp2] at hw2
    obtain ⟨V2, b1, b2⟩ := hw2
    have hme : r_me b L sd z.1 z.2 V V2 := r_me_pre fx1 b2
    have hmf := r_me_mf hme hs
    obtain ⟨V3, c1, c2⟩ := m_must_x (F := F) (2 : Int32) V2 hmf
    have hmf3 := r_mx_mf hmf c2
    obtain ⟨V4, d1, d2⟩ := m_must_x (F := F) (4 : Int32) V3 hmf3
    have c1 : fX12_must F V2 2 = some V3 := c1
    have d1 : fX12_must F V3 4 = some V4 := d1
    rw [b1, y_bd, c1, y_bd, d1, y_bd, if_neg (r_mf_ne (r_mx_mf hmf3 d2)).1]
    exact ⟨V4, rfl, r_me_trans hme (r_mx_trans c2 d2)⟩
  | ok i2 =>
  rw [hp2] at hw2
  obtain ⟨b1, b2, -⟩ := hw2
  obtain ⟨k27, rfl, hi998⟩ := r_need_ok hp2
  have hw3 := m_must (F := F) b2 (k := 28) (x := 2) (by decide) rfl
  rw [b1, y_bd]
  show r_po b L M sd i cc V _ (r_b (r_need (r_tK b L) 28 (i + 1 + 1)) (r_need (r_tK b L) 29))
  cases hp3 : r_need (r_tK b L) 28 (i + 1 + 1) with
  | error z =>
    rw [hp3] at hw3
    obtain ⟨V3, c1, c2⟩ := hw3
    have hme : r_me b L sd z.1 z.2 V V3 := r_me_pre (r_fx_I (k := 11) fx1 (by decide)) c2
    have hmf3 := r_me_mf hme hs
    obtain ⟨V4, d1, d2⟩ := m_must_x (F := F) (4 : Int32) V3 hmf3
    have d1 : fX12_must F V3 4 = some V4 := d1
    rw [c1, y_bd, d1, y_bd, if_neg (r_mf_ne (r_mx_mf hmf3 d2)).1]
    exact ⟨V4, rfl, r_me_trans hme d2⟩
  | ok i3 =>
  rw [hp3] at hw3
  obtain ⟨c1, c2, -⟩ := hw3
  obtain ⟨k28, rfl, hi997⟩ := r_need_ok hp3
  have hw4 := m_must (F := F) c2 (k := 29) (x := 4) (by decide) rfl
  rw [c1, y_bd]
  show r_po b L M sd i cc V _ (r_need (r_tK b L) 29 (i + 1 + 1 + 1))
  cases hp4 : r_need (r_tK b L) 29 (i + 1 + 1 + 1) with
  | error z =>
    rw [hp4] at hw4
    obtain ⟨V4, d1, d2⟩ := hw4
    have hme : r_me b L sd z.1 z.2 V V4 := r_me_pre (r_fx_I (k := 11) (r_fx_I (k := 11) fx1 (by decide)) (by decide)) d2
    rw [d1, y_bd, if_neg (r_mf_ne (r_me_mf hme hs)).1]
    exact ⟨V4, rfl, hme⟩
  | ok e =>
  rw [hp4] at hw4
  obtain ⟨d1, d2, -⟩ := hw4
  obtain ⟨k29, rfl, hi996⟩ := r_need_ok hp4
  have lt4 := r_ms_lt d2
  have e11 : zI (zsI (zsI V 0 11 (nI (i + 1))) 0 11 (nI (i + 1 + 1))) 0 11 = nI (i + 1 + 1) := rfl
  generalize hV3 : zsI (zsI (zsI (zsI V 0 11 (nI (i + 1))) 0 11 (nI (i + 1 + 1))) 0 11 (nI (i + 1 + 1 + 1))) 0 11 (nI (i + 1 + 1 + 1 + 1)) = V3 at d1 d2
  have fx3 : r_fx sd V V3 := by rw [← hV3]; exact r_fx_I (r_fx_I (r_fx_I fx1 (by decide)) (by decide)) (by decide)
  have row3 : ∀ r, zA V3 r = zA V r := fun r => by rw [← hV3]; rfl
  have sc3 : ∀ k, ¬ k = 11 → zI V3 0 k = zI V 0 k := fun k hk => by
    rw [← hV3, y_get.1, if_neg (fun z => hk z.2), y_get.1, if_neg (fun z => hk z.2), y_get.1, if_neg (fun z => hk z.2), y_get.1, if_neg (fun z => hk z.2)]
  have e8 : zA V3 8 (9 * sd + k) = nI (r_cn (r_tK b L) k i) := by rw [row3]; exact htb.1.1 k (by omega)
  have hro : 20 ≤ r_ro (r_tK b L) (i + 1) := by
    unfold r_ro
    rw [show i + 1 - 1 = i by omega, hK, if_pos (by omega)]; omega
  obtain ⟨V4, g1, g2, g3, g4, g5⟩ := m_tells (F := F) (by omega) hL d2 (fun a k z => by have := z.1; omega) (j := i + 1) (s := k) (by omega) k27 (by omega) e8 (r_tl_room hcn (by omega) hn)
  obtain ⟨w1, w2⟩ := r_tell (b := b) (L := L) k27 hro (by rw [show i + 1 - 1 = i by omega]; omega)
  rw [show i + 1 - 1 = i by omega, hK] at w1
  obtain ⟨u3, u4⟩ := r_quiet (b := b) (L := L) (i := i + 1 + 1) (by omega) (by rw [show i + 1 + 1 - 1 = i + 1 by omega]; omega)
  obtain ⟨u5, u6⟩ := r_quiet (b := b) (L := L) (i := i + 1 + 1 + 1) (by omega) (by omega)
  have m4 : r_mr b L M sd (i + 1 + 1 + 1 + 1) V4 := by
    have t1 := r_ms_tl g2 w1.symm w2
    have t2 := r_ms_tl (j := i + 1 + 1 + 1) t1 u3.symm u4
    exact r_mr_P t2 u5.symm u6
  have e5 : zA V4 5 (i + 1 + 1) = nI (r_tV b L (i + 1 + 1)) := (m4.1.1.2 (i + 1 + 1) (by omega)).2.2.1 k28
  have e19 : zI V4 0 19 = nI sd := m4.2.2.1.1
  rw [e11, d1, y_bd, if_pos (show zI V3 0 13 ≤ 0 by rw [d2.2.1.2.1]; decide), g1, y_bd]
  -- the row of the sort
  have tail : ∀ ρ, ρ = (if k = 0 then 12 else if k = 1 then 13 else 20) → ∃ V', fX12_tellPart_b533 F (zsA V4 ρ (upd (zA V4 ρ) (sd * r_hs ρ + r_cn (r_tK b L) k i) (nI (r_tV b L (i + 1 + 1))))) (nI k) = some V' ∧ r_rs b L M sd (i + 1 + 1 + 1 + 1) cc V' ∧ r_fx sd V V' := by
    intro ρ hρ
    have hρ2 : ρ ∈ r_hr ∧ r_cn (r_tK b L) k i < r_hs ρ ∧ r_kr ρ = k ∧ 12 ≤ ρ ∧ ρ ≤ 22 ∧ (ρ = 12 ∨ ρ = 13 ∨ ρ = 20) := by
      unfold r_max at hn
      rcases hk with rfl | rfl | rfl
      · subst hρ; exact ⟨by decide, hn, rfl, by decide, by decide, Or.inl rfl⟩
      · subst hρ; exact ⟨by decide, hn, rfl, by decide, by decide, Or.inr (Or.inl rfl)⟩
      · subst hρ; exact ⟨by decide, hn, rfl, by decide, by decide, Or.inr (Or.inr rfl)⟩
    have fx5 : r_fx sd V4 (zsA V4 ρ (upd (zA V4 ρ) (sd * r_hs ρ + r_cn (r_tK b L) k i) (nI (r_tV b L (i + 1 + 1))))) := r_fx_H r_fx_refl hρ2.1 rfl hρ2.2.1
    have rowE : ∀ r, zA (zsA V4 ρ (upd (zA V4 ρ) (sd * r_hs ρ + r_cn (r_tK b L) k i) (nI (r_tV b L (i + 1 + 1))))) r = if r = ρ then upd (zA V4 ρ) (sd * r_hs ρ + r_cn (r_tK b L) k i) (nI (r_tV b L (i + 1 + 1))) else zA V4 r := fun _ => rfl
    have mF : r_mr b L M sd (i + 1 + 1 + 1 + 1) (zsA V4 ρ (upd (zA V4 ρ) (sd * r_hs ρ + r_cn (r_tK b L) k i) (nI (r_tV b L (i + 1 + 1))))) := by
      refine r_ms_eq m4 fx5 m4.2.1.1 m4.2.1.2.1 m4.2.1.2.2 rfl rfl rfl rfl ?_ ?_
      · rw [rowE, if_neg (by omega)]
      · rw [rowE, if_neg (by omega)]
    refine m_partfin (F := F) h hK (by omega) hn (by omega) (fun a h1 h2 => ?_) mF (r_fx_trans fx3 (r_fx_trans g3 fx5)) (fun w hw => (g4 w (by rcases hw with rfl | rfl | rfl | rfl | rfl <;> decide)).trans (sc3 w (by omega))) (fun r hr hr2 => ?_) (fun r h1 h2 hr => ?_)
    · have : a = i + 1 ∨ a = i + 1 + 1 ∨ a = i + 1 + 1 + 1 := by omega
      rcases this with rfl | rfl | rfl <;> omega
    · rw [rowE, if_neg (fun z => hr2 (by rw [z]; exact ⟨hρ2.2.2.2.1, hρ2.2.2.2.2.1, hρ2.2.2.1⟩)), g5 r hr, row3]
    · have er := r_kr_num hk h1 h2 hr
      rw [← hρ] at er
      subst er
      refine ⟨fun m hm => ?_, ?_⟩
      · rw [rowE, if_pos rfl, y_upd, if_neg hm, g5 r (by simp; omega), row3]
      · rw [rowE, if_pos rfl, y_upd, if_pos rfl]
        unfold r_val
        rw [if_neg (by omega), if_neg (by omega), if_neg (by omega), if_neg (by omega)]
  have fin : ∀ res, res = fX12_tellPart_b533 F (zsA V4 (if k = 0 then 12 else if k = 1 then 13 else 20) (upd (zA V4 (if k = 0 then 12 else if k = 1 then 13 else 20)) (sd * r_hs (if k = 0 then 12 else if k = 1 then 13 else 20) + r_cn (r_tK b L) k i) (nI (r_tV b L (i + 1 + 1))))) (nI k) → r_po b L M sd i cc V res (.ok (i + 1 + 1 + 1 + 1)) := by
    intro res hres
    obtain ⟨V', q1, q2, q3⟩ := tail _ rfl
    refine ⟨V', hres.trans q1, q2, q3, by omega, fun a h1 h2 => ?_⟩
    have : a = i + 1 ∨ a = i + 1 + 1 ∨ a = i + 1 + 1 + 1 := by omega
    rcases this with rfl | rfl | rfl <;> omega
  apply fin
  rcases hk with rfl | rfl | rfl
  · rw [if_pos (show nI 0 = (0 : Int32) from rfl), y_ck (by omega) (by decide), e19, show (16 : Int32) = nI 16 from rfl, pk_mul, nI_add, y_ck (by omega) (by decide), y_let, nI_clamp (by omega), nI_clamp (by omega), e5, fX12_tellPart_b180, if_neg (show ¬ nI 0 = (1 : Int32) by decide), fX12_tellPart_b206, if_neg (show ¬ nI 0 = (6 : Int32) by decide), if_pos rfl, show sd * r_hs 12 = 16 * sd from Nat.mul_comm _ _]
  · rw [if_neg (show ¬ nI 1 = (0 : Int32) by decide), fX12_tellPart_b180, if_pos (show nI 1 = (1 : Int32) from rfl), y_ck (by omega) (by decide), e19, show (8 : Int32) = nI 8 from rfl, pk_mul, nI_add, y_ck (by unfold r_max at hn; simp at hn; omega) (by decide), y_let, nI_clamp (by omega), nI_clamp (by omega), e5, fX12_tellPart_b206, if_neg (show ¬ nI 1 = (6 : Int32) by decide), if_neg (show ¬ 1 = 0 by decide), if_pos rfl, show sd * r_hs 13 = 8 * sd from Nat.mul_comm _ _]
  · rw [if_neg (show ¬ nI 6 = (0 : Int32) by decide), fX12_tellPart_b180, if_neg (show ¬ nI 6 = (1 : Int32) by decide), fX12_tellPart_b206, if_pos (show nI 6 = (6 : Int32) from rfl), y_ck (by omega) (by decide), e19, show (16 : Int32) = nI 16 from rfl, pk_mul, nI_add, y_ck (by omega) (by decide), y_let, nI_clamp (by omega), nI_clamp (by omega), e5, if_neg (show ¬ 6 = 0 by decide), if_neg (show ¬ 6 = 1 by decide), show sd * r_hs 20 = 16 * sd from Nat.mul_comm _ _]
end
