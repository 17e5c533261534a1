/-! ===== a MODE in the reference ===== -/
section
variable {F : Nat} {b : Nat → Nat} {L M sd : Nat} {V : zV}
theorem m_tmode {i cc : Nat} (hF : 1200 ≤ F) (hL : L ≤ 4000) (h : r_rs b L M sd i cc V) :
    match (if r_tK b L i = 7 then r_mode (r_tK b L) i else .error (1, i) : r_r) with
      | .error (f, j) => ∃ V2, fX12_tellMode F V = some V2 ∧ r_me b L sd f j V V2
      | .ok e => ∃ V2 cc', fX12_tellMode F V = some V2 ∧ cc ≤ cc' ∧ r_rs b L M sd e cc' V2 ∧ r_fx sd V V2 ∧ (∀ a, i < a → a < e → 8 ≤ r_tK b L a) ∧ i < e ∧ zA V2 23 (13 * sd + r_cn (r_tK b L) 7 e) = nI (r_cn (r_tK b L) 11 e) := by
  obtain ⟨h1, h12, hk, hcc, hnr, htb, hcn, h80⟩ := id h
  have hs := h1.2.2.1
  have hsd := hs.2
  have lt := r_ms_lt h1
  rw [fX12_tellMode, m_is h1 (k := 7) (x := 28) (by decide) rfl, y_bd]
  by_cases q7 : r_tK b L i = 7
  rotate_left
  · rw [if_neg q7, if_neg q7, if_pos rfl]
    have hme := m_fail_me h1 (f := 1) (Or.inl rfl)
    have hmf := r_me_mf hme hs
    obtain ⟨V2, b1, b2⟩ := m_must_x (F := F) (1 : Int32) _ hmf
    have h2 := r_mx_mf hmf b2
    obtain ⟨V3, c1, c2⟩ := m_must_x (F := F) (2 : Int32) V2 h2
    have b1 : fX12_must F (zsI (zsI V 0 13 (nI 1)) 0 14 (nI (r_tS b L i))) 1 = some V2 := b1
    have c1 : fX12_must F V2 2 = some V3 := c1
    refine ⟨V3, ?_, r_me_trans hme (r_mx_trans b2 c2)⟩
    rw [fX12_tellMode_b23, fX12_must, m_is h1 (k := 7) (x := 28) (by decide) rfl, y_bd, if_neg q7, if_pos rfl, show fX12_fail F V 1 = fX12_fail F V (nI 1) from rfl, m_fail h1, y_bd, y_bd, b1, y_bd, c1, y_bd, if_neg (r_mf_ne (r_mx_mf h2 c2)).1]
  rw [if_pos q7, if_pos q7, if_neg (by decide)]
  have full := m_full (F := F) (s := 7) (m := 12) (by decide) hs.1 hs.2 (htb.1.1 7 (by omega)) rfl (by have := r_cn_le (K := r_tK b L) (w := 7) i; omega)
  have full : fX12_isFull F V 7 = some (if r_cn (r_tK b L) 7 i = 12 then 1 else 0) := full
  have h7 := hcn 7 (by omega)
  simp only [show ¬ (7 = 0 ∨ 7 = 3 ∨ 7 = 6) by decide, show ¬ (7 = 1 ∨ 7 = 2 ∨ 7 = 4) by decide, show ¬ 7 = 5 by decide, if_false] at h7
  rw [full, y_bd]
  by_cases qf : r_cn (r_tK b L) 7 i = 12
  · rw [if_pos qf, if_neg (by decide), show (2 : Int32) = nI 2 from rfl, m_fail h1, y_bd]
    have hme := m_fail_me h1 (f := 2) (Or.inr rfl)
    obtain ⟨V2, d1, d2⟩ := m_mb23_x (F := F) _ (r_me_mf hme hs)
    have er : r_mode (r_tK b L) i = .error (2, i) := by
      unfold r_mode r_mhead r_newo
      rw [if_neg (by omega)]; rfl
    rw [er]
    exact ⟨V2, d1, r_me_trans hme d2⟩
  have hn7 : r_cn (r_tK b L) 7 i < 12 := by omega
  rw [if_neg qf, if_pos rfl, fX12_tellMode_b23]
  have er : r_mode (r_tK b L) i = r_b (r_pass i) fun j => r_b (r_need (r_tK b L) 27 j) fun j => r_b (r_need (r_tK b L) 28 j) fun j => r_b (if r_tK b L j = 9 then r_b (r_pass j) fun j => r_need (r_tK b L) 28 j else .ok j) fun j => r_b (r_need (r_tK b L) 29 j) fun j => r_b (r_rules (r_tK b L) 1001 j) (r_need (r_tK b L) 10) := by
    unfold r_mode r_mhead r_newo
    rw [if_pos hn7, r_b_assoc]
    congr 1; funext j
    rw [r_b_assoc]
    congr 1; funext j
    rw [r_b_assoc]
    congr 1; funext j
    by_cases q9 : r_tK b L j = 9
    · rw [if_pos q9, if_pos q9, r_b_assoc, r_b_assoc]
      congr 1; funext j
      rw [r_b_assoc]
    · rw [if_neg q9, if_neg q9]; rfl
  rw [er]
  -- the word
  have hw := m_must (F := F) h1 (k := 7) (x := 28) (by decide) rfl
  unfold r_need at hw
  rw [if_pos q7] at hw
  cases hp : r_pass i with
  | error z =>
    rw [hp] at hw
    obtain ⟨V1, a1, a2⟩ := hw
    have hmf := r_me_mf a2 hs
    obtain ⟨V2, b1, b2⟩ := m_must_x (F := F) (1 : Int32) _ hmf
    have h2 := r_mx_mf hmf b2
    obtain ⟨V3, c1, c2⟩ := m_must_x (F := F) (2 : Int32) V2 h2
    have b1 : fX12_must F V1 1 = some V2 := b1
    have c1 : fX12_must F V2 2 = some V3 := c1
    rw [a1, y_bd, b1, y_bd, c1, y_bd, if_neg (r_mf_ne (r_mx_mf h2 c2)).1]
    exact ⟨V3, rfl, r_me_trans a2 (r_mx_trans b2 c2)⟩
  | ok i1 =>
  rw [hp] at hw
  obtain ⟨a1, a2, -⟩ := hw
  obtain ⟨rfl, hi999⟩ := r_pass_ok hp
  obtain ⟨u1, u2⟩ := r_quiet (b := b) (L := L) (i := i) (by omega) (by omega)
  have m1 : r_mr b L M sd (i + 1) (zsI V 0 11 (nI (i + 1))) := r_mr_P a2 u1.symm u2
  have hw2 := m_must (F := F) m1 (k := 27) (x := 1) (by decide) rfl
  rw [a1, y_bd]
  show match r_b (r_need (r_tK b L) 27 (i + 1)) fun j => r_b (r_need (r_tK b L) 28 j) fun j => r_b (if r_tK b L j = 9 then r_b (r_pass j) fun j => r_need (r_tK b L) 28 j else .ok j) fun j => r_b (r_need (r_tK b L) 29 j) fun j => r_b (r_rules (r_tK b L) 1001 j) (r_need (r_tK b L) 10) with
      | .error (f, j) => ∃ V2, _ = some V2 ∧ r_me b L sd f j V V2
      | .ok e => _
  cases hp2 : r_need (r_tK b L) 27 (i + 1) with
  | error z =>
    rw [hp2] at hw2
    obtain ⟨V2, b1, b2⟩ := hw2
    have hme : r_me b L sd z.1 z.2 V V2 := r_me_pre (r_fx_I r_fx_refl (show 11 ∈ r_sc by decide)) b2
    have hmf := r_me_mf hme hs
    obtain ⟨V3, c1, c2⟩ := m_must_x (F := F) (2 : Int32) V2 hmf
    have c1 : fX12_must F V2 2 = some V3 := c1
    rw [b1, y_bd, c1, y_bd, if_neg (r_mf_ne (r_mx_mf hmf c2)).1]
    exact ⟨V3, rfl, r_me_trans hme c2⟩
  | ok i2 =>
  rw [hp2] at hw2
  obtain ⟨b1, b2, -⟩ := hw2
  obtain ⟨k27, rfl, hi998⟩ := r_need_ok hp2
  have hw3 := m_must (F := F) b2 (k := 28) (x := 2) (by decide) rfl
  rw [b1, y_bd]
  show match r_b (r_need (r_tK b L) 28 (i + 1 + 1)) fun j => r_b (if r_tK b L j = 9 then r_b (r_pass j) fun j => r_need (r_tK b L) 28 j else .ok j) fun j => r_b (r_need (r_tK b L) 29 j) fun j => r_b (r_rules (r_tK b L) 1001 j) (r_need (r_tK b L) 10) with
      | .error (f, j) => ∃ V2, _ = some V2 ∧ r_me b L sd f j V V2
      | .ok e => _
  have fx2 : r_fx sd V (zsI (zsI V 0 11 (nI (i + 1))) 0 11 (nI (i + 1 + 1))) := r_fx_I (r_fx_I r_fx_refl (by decide)) (by decide)
  cases hp3 : r_need (r_tK b L) 28 (i + 1 + 1) with
  | error z =>
    rw [hp3] at hw3
    obtain ⟨V3, c1, c2⟩ := hw3
    have hme : r_me b L sd z.1 z.2 V V3 := r_me_pre fx2 c2
    rw [c1, y_bd, if_neg (r_mf_ne (r_me_mf hme hs)).1]
    exact ⟨V3, rfl, hme⟩
  | ok i3 =>
  rw [hp3] at hw3
  obtain ⟨c1, c2, -⟩ := hw3
  obtain ⟨k28, rfl, hi997⟩ := r_need_ok hp3
  have lt3 := r_ms_lt c2
  generalize hV3 : zsI (zsI (zsI V 0 11 (nI (i + 1))) 0 11 (nI (i + 1 + 1))) 0 11 (nI (i + 1 + 1 + 1)) = V3 at c1 c2
  have fx3 : r_fx sd V V3 := by rw [← hV3]; exact r_fx_I fx2 (by decide)
  have row3 : ∀ r, zA V3 r = zA V r := fun r => by rw [← hV3]; rfl
  have sc3 : ∀ k, ¬ k = 11 → zI V3 0 k = zI V 0 k := fun k hk => by
    rw [← hV3, y_get.1, if_neg (fun z => hk z.2), y_get.1, if_neg (fun z => hk z.2), y_get.1, if_neg (fun z => hk z.2)]
  have e11a : zI (zsI V 0 11 (nI (i + 1))) 0 11 = nI (i + 1) := rfl
  have e11b : zI (zsI (zsI V 0 11 (nI (i + 1))) 0 11 (nI (i + 1 + 1))) 0 11 = nI (i + 1 + 1) := rfl
  have e8 : zA V3 8 (9 * sd + 7) = nI (r_cn (r_tK b L) 7 i) := by rw [row3]; exact htb.1.1 7 (by omega)
  -- the name is told
  have hro : 20 ≤ r_ro (r_tK b L) (i + 1) := by unfold r_ro; rw [show i + 1 - 1 = i by omega, q7, if_pos (by decide)]; decide
  have hlen : (r_tl b L (i + 1)).length < 76 := by
    have := r_tl_len (b := b) (L := L) (i + 1)
    rw [Nat.add_sub_cancel] at this
    have g0 := hcn 0 (by omega)
    have g1 := hcn 1 (by omega)
    have g3 := hcn 3 (by omega)
    have g4 := hcn 4 (by omega)
    have g6 := hcn 6 (by omega)
    simp at g0 g1 g3 g4 g6
    omega
  obtain ⟨V4, d1, d2, d3, d4, d5⟩ := m_tells (F := F) (by omega) hL c2 (fun a k z => by have := z.1; omega) (j := i + 1) (s := 7) (by omega) k27 (by decide) e8 hlen
  obtain ⟨w1, w2⟩ := r_tell (b := b) (L := L) k27 hro (by rw [show i + 1 - 1 = i by omega]; omega)
  rw [show i + 1 - 1 = i by omega, q7] at w1
  obtain ⟨u3, u4⟩ := r_quiet (b := b) (L := L) (i := i + 1 + 1) (by omega) (by rw [show i + 1 + 1 - 1 = i + 1 by omega]; omega)
  have m4 : r_mr b L M sd (i + 1 + 1 + 1) V4 := by
    have := r_ms_tl d2 w1.symm w2
    exact r_mr_P this u3.symm u4
  have d1 : fX12_tells F V3 (nI (i + 1)) 7 = some V4 := d1
  have e5 : zA V4 5 (i + 1 + 1) = nI (r_tV b L (i + 1 + 1)) := (m4.1.1.2 (i + 1 + 1) (by omega)).2.2.1 k28
  have y35 : (12 : Int32) * zI V3 0 19 + zA V3 8 ((9 : Int32) * zI V3 0 19 + 7).toNatClampNeg = nI (12 * sd + r_cn (r_tK b L) 7 i) := by
    rw [c2.2.2.1.1, show (9 : Int32) = nI 9 from rfl, show (7 : Int32) = nI 7 from rfl, pk_mul, nI_add, nI_clamp (by omega), e8, show (12 : Int32) = nI 12 from rfl, pk_mul, nI_add]
  have fx4 : r_fx sd V V4 := r_fx_trans fx3 d3
  have fx5 : ∀ x : Int32, r_fx sd V4 (zsA V4 21 (upd (zA V4 21) (12 * sd + r_cn (r_tK b L) 7 i) x)) := fun x => r_fx_H (k := r_cn (r_tK b L) 7 i) r_fx_refl (by decide) (by rw [show r_hs 21 = 12 from rfl, Nat.mul_comm]) (by show r_cn (r_tK b L) 7 i < 12; omega)
  have fx6 : ∀ x y : Int32, r_fx sd V4 (zsA (zsA V4 21 (upd (zA V4 21) (12 * sd + r_cn (r_tK b L) 7 i) x)) 22 (upd (zA V4 22) (12 * sd + r_cn (r_tK b L) 7 i) y)) := fun x y => r_fx_H (V' := zsA V4 21 (upd (zA V4 21) (12 * sd + r_cn (r_tK b L) 7 i) x)) (k := r_cn (r_tK b L) 7 i) (fx5 x) (by decide) (by rw [show r_hs 22 = 12 from rfl, Nat.mul_comm]) (by show r_cn (r_tK b L) 7 i < 12; omega)
  generalize hV6 : zsA (zsA V4 21 (upd (zA V4 21) (12 * sd + r_cn (r_tK b L) 7 i) (nI (r_tV b L (i + 1 + 1))))) 22 (upd (zA V4 22) (12 * sd + r_cn (r_tK b L) 7 i) 0) = V6
  have m6 : r_mr b L M sd (i + 1 + 1 + 1) V6 := by
    rw [← hV6]
    exact r_ms_eq m4 (fx6 _ _) m4.2.1.1 m4.2.1.2.1 m4.2.1.2.2 rfl rfl rfl rfl rfl rfl
  have f6 : r_fx sd V V6 := by rw [← hV6]; exact r_fx_trans fx4 (fx6 _ _)
  have row6 : ∀ r, r ∉ [10, 11, 21, 22] → zA V6 r = zA V r := by
    intro r hr
    rw [← hV6]
    show (if r = 22 then _ else if r = 21 then _ else zA V4 r) = _
    rw [if_neg (fun z => hr (by rw [z]; decide)), if_neg (fun z => hr (by rw [z]; decide)), d5 r (fun z => hr ((show ∀ r ∈ [10, 11], r ∈ [10, 11, 21, 22] by decide) r z)), row3]
  have sc6 : ∀ k, k = 12 ∨ k = 41 ∨ k = 46 ∨ k = 51 ∨ k = 54 → zI V6 0 k = zI V 0 k := by
    intro k hk
    rw [← hV6]
    show zI V4 0 k = _
    rw [d4 k (by rcases hk with rfl | rfl | rfl | rfl | rfl <;> decide), sc3 k (by omega)]
  have r21 : (∀ m, ¬ m = 12 * sd + r_cn (r_tK b L) 7 i → zA V6 21 m = zA V 21 m) ∧ zA V6 21 (12 * sd + r_cn (r_tK b L) 7 i) = r_val b L 21 i := by
    rw [← hV6]
    refine ⟨fun m hm => ?_, ?_⟩
    · show upd (zA V4 21) _ _ m = _
      rw [y_upd, if_neg hm, d5 21 (by decide), row3]
    · show upd (zA V4 21) _ _ _ = _
      rw [y_upd, if_pos rfl]; rfl
  have r22 : (∀ m, ¬ m = 12 * sd + r_cn (r_tK b L) 7 i → zA V6 22 m = zA V 22 m) ∧ zA V6 22 (12 * sd + r_cn (r_tK b L) 7 i) = 0 := by
    rw [← hV6]
    refine ⟨fun m hm => ?_, ?_⟩
    · show upd (zA V4 22) _ _ m = _
      rw [y_upd, if_neg hm, d5 22 (by decide), row3]
    · show upd (zA V4 22) _ _ _ = _
      rw [y_upd, if_pos rfl]
  have lead : (zbd (fX12_must F (zsI (zsI V 0 11 (nI (i + 1))) 0 11 (nI (i + 1 + 1))) 2) fun q31 => if (zI q31 0 13) ≤ 0 then (zchk (zix (((9 : Int32) * (zI q31 0 19)) + (7 : Int32)) 18) <| zlet ((((12 : Int32) * (zI q31 0 19)) + (zA q31 8 ((((9 : Int32) * (zI q31 0 19)) + (7 : Int32))).toNatClampNeg))) fun y35 => zbd (fX12_tells F q31 (zI (zsI V 0 11 (nI (i + 1))) 0 11) (7 : Int32)) fun q37 => zchk (zix (zI (zsI (zsI V 0 11 (nI (i + 1))) 0 11 (nI (i + 1 + 1))) 0 11) 1003) <| zchk (zix y35 24) <| zlet (zsA q37 21 (upd (zA q37 21) (y35).toNatClampNeg (zA q37 5 ((zI (zsI (zsI V 0 11 (nI (i + 1))) 0 11 (nI (i + 1 + 1))) 0 11)).toNatClampNeg))) fun V7_41 => zchk (zix y35 24) <| zlet (zsA V7_41 22 (upd (zA V7_41 22) (y35).toNatClampNeg (0 : Int32))) fun V7_44 => zbd (fX12_is F V7_44 (29 : Int32)) fun q46 => if q46 = 0 then fX12_tellMode_b169 F V7_44 else zbd (fX12_next F V7_44) fun q49 => zbd (fX12_must F q49 (2 : Int32)) fun q51 => if (zI q51 0 13) ≤ 0 then (zchk (zix (zI q49 0 11) 1003) <| zchk (zix y35 24) <| zlet (zsA q51 22 (upd (zA q51 22) (y35).toNatClampNeg (zA q51 5 ((zI q49 0 11)).toNatClampNeg))) fun V7_56 => zchk (zix (zI q49 0 11) 1003) <| if (zA V7_56 5 ((zI q49 0 11)).toNatClampNeg) = 0 then (zbd (fX12_wrong F V7_56 (5 : Int32) (zI q49 0 11)) fun q60 => fX12_tellMode_b169 F q60) else fX12_tellMode_b169 F V7_56) else some q51) else some q31) =
      zbd (fX12_is F V6 (29 : Int32)) fun q46 => if q46 = 0 then fX12_tellMode_b169 F V6 else zbd (fX12_next F V6) fun q49 => zbd (fX12_must F q49 (2 : Int32)) fun q51 => if (zI q51 0 13) ≤ 0 then (zchk (zix (zI q49 0 11) 1003) <| zlet (zsA q51 22 (upd (zA q51 22) (12 * sd + r_cn (r_tK b L) 7 i) (zA q51 5 ((zI q49 0 11)).toNatClampNeg))) fun V7_56 => zchk (zix (zI q49 0 11) 1003) <| if (zA V7_56 5 ((zI q49 0 11)).toNatClampNeg) = 0 then (zbd (fX12_wrong F V7_56 (5 : Int32) (zI q49 0 11)) fun q60 => fX12_tellMode_b169 F q60) else fX12_tellMode_b169 F V7_56) else some q51 := by
    rw [c1, y_bd, if_pos (show zI V3 0 13 ≤ 0 by rw [c2.2.1.2.1]; decide)]
    rw [zchk_t (show zix (((9 : Int32) * (zI V3 0 19)) + (7 : Int32)) 18 by rw [c2.2.2.1.1, show (9 : Int32) = nI 9 from rfl, show (7 : Int32) = nI 7 from rfl, pk_mul, nI_add]; exact nI_in (by omega) (by decide)), y_let, y35, e11a, d1, y_bd, e11b, y_ck (by omega) (by decide)]
    simp only [y_ck (show 12 * sd + r_cn (r_tK b L) 7 i < 24 by omega) (show 24 < 2 ^ 31 by decide), y_let, nI_clamp (show 12 * sd + r_cn (r_tK b L) 7 i < 2 ^ 31 by omega), nI_clamp (show i + 1 + 1 < 2 ^ 31 by omega), e5]
    have g22 : zA (zsA V4 21 (upd (zA V4 21) (12 * sd + r_cn (r_tK b L) 7 i) (nI (r_tV b L (i + 1 + 1))))) 22 = zA V4 22 := rfl
    rw [g22, hV6]
  rw [lead, m_is m6 (k := 9) (x := 29) (by decide) rfl, y_bd]
  have hin3 : ∀ a, i < a → a < i + 1 + 1 + 1 → r_tK b L a = 27 ∨ r_tK b L a = 28 ∨ r_tK b L a = 9 := by
    intro a h1 h2
    have : a = i + 1 ∨ a = i + 1 + 1 := by omega
    rcases this with rfl | rfl
    · exact Or.inl k27
    · exact Or.inr (Or.inl k28)
  show match r_b (if r_tK b L (i + 1 + 1 + 1) = 9 then r_b (r_pass (i + 1 + 1 + 1)) fun j => r_need (r_tK b L) 28 j else .ok (i + 1 + 1 + 1)) fun j => r_b (r_need (r_tK b L) 29 j) fun j => r_b (r_rules (r_tK b L) 1001 j) (r_need (r_tK b L) 10) with
      | .error (f, j) => ∃ V2, _ = some V2 ∧ r_me b L sd f j V V2
      | .ok e => _
  by_cases q9 : r_tK b L (i + 1 + 1 + 1) = 9
  rotate_left
  · -- without TIME
    rw [if_neg q9, if_neg q9, if_pos rfl]
    exact m_headfin hF hL h q7 hn7 (by omega) hin3 m6 f6 sc6 row6 r21 ⟨r22.1, by rw [r22.2]; unfold r_val; rw [if_neg (by decide), if_neg (by decide), if_neg (by decide), if_pos rfl, if_neg q9]⟩
  rw [if_pos q9, if_pos q9, if_neg (by decide)]
  obtain hnx : i + 1 + 1 + 1 < 1000 ∨ ¬ i + 1 + 1 + 1 < 1000 := by omega
  rcases hnx with hnx | hnx
  rotate_left
  · rw [m_next_e m6 hnx, y_bd]
    have hme := r_me_pre f6 (m_fail_me m6 (f := 2) (Or.inr rfl))
    have hmf := r_me_mf hme hs
    obtain ⟨V8, g1, g2⟩ := m_must_x (F := F) (2 : Int32) _ hmf
    have g1 : fX12_must F (zsI (zsI V6 0 13 (nI 2)) 0 14 (nI (r_tS b L (i + 1 + 1 + 1)))) 2 = some V8 := g1
    unfold r_pass
    rw [if_neg hnx, g1, y_bd, if_neg (r_mf_ne (r_mx_mf hmf g2)).1]
    exact ⟨V8, rfl, r_me_trans hme g2⟩
  obtain ⟨n1, n2⟩ := m_nextq (F := F) m6 (by omega) (by omega) (by omega) (by omega) hnx
  have hw5 := m_must (F := F) n2 (k := 28) (x := 2) (by decide) rfl
  have e11c : zI (zsI V6 0 11 (nI (i + 1 + 1 + 1 + 1))) 0 11 = nI (i + 1 + 1 + 1 + 1) := rfl
  rw [n1, y_bd, e11c]
  unfold r_pass
  rw [if_pos hnx]
  show match r_b (r_need (r_tK b L) 28 (i + 1 + 1 + 1 + 1)) fun j => r_b (r_need (r_tK b L) 29 j) fun j => r_b (r_rules (r_tK b L) 1001 j) (r_need (r_tK b L) 10) with
      | .error (f, j) => ∃ V2, _ = some V2 ∧ r_me b L sd f j V V2
      | .ok e => _
  cases hp5 : r_need (r_tK b L) 28 (i + 1 + 1 + 1 + 1) with
  | error z =>
    rw [hp5] at hw5
    obtain ⟨V8, g1, g2⟩ := hw5
    have hme : r_me b L sd z.1 z.2 V V8 := r_me_pre (r_fx_I (k := 11) f6 (by decide)) g2
    rw [g1, y_bd, if_neg (r_mf_ne (r_me_mf hme hs)).1]
    exact ⟨V8, rfl, hme⟩
  | ok i5 =>
  rw [hp5] at hw5
  obtain ⟨g1, g2, -⟩ := hw5
  obtain ⟨k28b, rfl, hi995⟩ := r_need_ok hp5
  have lt5 := r_ms_lt g2
  generalize hV8 : zsI (zsI V6 0 11 (nI (i + 1 + 1 + 1 + 1))) 0 11 (nI (i + 1 + 1 + 1 + 1 + 1)) = V8 at g1 g2
  have row8 : ∀ r, zA V8 r = zA V6 r := fun r => by rw [← hV8]; rfl
  have sc8 : ∀ k, ¬ k = 11 → zI V8 0 k = zI V6 0 k := fun k hk => by
    rw [← hV8, y_get.1, if_neg (fun z => hk z.2), y_get.1, if_neg (fun z => hk z.2)]
  have f8 : r_fx sd V V8 := by rw [← hV8]; exact r_fx_I (r_fx_I f6 (by decide)) (by decide)
  have e5b : zA V8 5 (i + 1 + 1 + 1 + 1) = nI (r_tV b L (i + 1 + 1 + 1 + 1)) := (g2.1.1.2 (i + 1 + 1 + 1 + 1) (by omega)).2.2.1 k28b
  have fx9 : ∀ x : Int32, r_fx sd V8 (zsA V8 22 (upd (zA V8 22) (12 * sd + r_cn (r_tK b L) 7 i) x)) := fun x => r_fx_H (k := r_cn (r_tK b L) 7 i) r_fx_refl (by decide) (by rw [show r_hs 22 = 12 from rfl, Nat.mul_comm]) (by show r_cn (r_tK b L) 7 i < 12; omega)
  have e5c : ∀ f, zA (zsA V8 22 f) 5 = zA V8 5 := fun _ => rfl
  have hV5 := r_tV_lt k28b
  rw [g1, y_bd, if_pos (show zI V8 0 13 ≤ 0 by rw [g2.2.1.2.1]; decide), y_ck (by omega) (by decide)]
  simp only [y_let, y_ck (show i + 1 + 1 + 1 + 1 < 1003 by omega) (show 1003 < 2 ^ 31 by decide), nI_clamp (show i + 1 + 1 + 1 + 1 < 2 ^ 31 by omega), e5b, e5c]
  generalize hV9 : zsA V8 22 (upd (zA V8 22) (12 * sd + r_cn (r_tK b L) 7 i) (nI (r_tV b L (i + 1 + 1 + 1 + 1)))) = V9
  have m9 : r_ms b L M sd (i + 1 + 1 + 1 + 1 + 1) (r_tl b L (i + 1 + 1 + 1 + 1)) (r_wp b L (i + 1 + 1 + 1 + 1)) V9 := by
    rw [← hV9]
    exact r_ms_eq g2 (fx9 _) g2.2.1.1 g2.2.1.2.1 g2.2.1.2.2 rfl rfl rfl rfl rfl rfl
  have f9 : r_fx sd V V9 := by rw [← hV9]; exact r_fx_trans f8 (fx9 _)
  have row9 : ∀ r, ¬ r = 22 → zA V9 r = zA V6 r := by
    intro r hr
    rw [← hV9, ← row8 r]
    show (if r = 22 then _ else zA V8 r) = _
    rw [if_neg hr]
  have sc9 : ∀ k, ¬ k = 11 → zI V9 0 k = zI V6 0 k := fun k hk => by
    rw [← hV9]; exact sc8 k hk
  have r22b : (∀ m, ¬ m = 12 * sd + r_cn (r_tK b L) 7 i → zA V9 22 m = zA V 22 m) ∧ zA V9 22 (12 * sd + r_cn (r_tK b L) 7 i) = r_val b L 22 i := by
    rw [← hV9]
    refine ⟨fun m hm => ?_, ?_⟩
    · show upd (zA V8 22) _ _ m = _
      rw [y_upd, if_neg hm, row8]; exact r22.1 m hm
    · show upd (zA V8 22) _ _ _ = _
      rw [y_upd, if_pos rfl]
      unfold r_val
      rw [if_neg (by decide), if_neg (by decide), if_neg (by decide), if_pos rfl, if_pos q9]
  obtain ⟨v1, v2⟩ := r_time (b := b) (L := L) (j := i + 1 + 1 + 1 + 1) k28b (by rw [show i + 1 + 1 + 1 + 1 - 1 = i + 1 + 1 + 1 by omega]; exact q9)
  have hin5 : ∀ a, i < a → a < i + 1 + 1 + 1 + 1 + 1 → r_tK b L a = 27 ∨ r_tK b L a = 28 ∨ r_tK b L a = 9 := by
    intro a h1 h2
    have : a = i + 1 ∨ a = i + 1 + 1 ∨ a = i + 1 + 1 + 1 ∨ a = i + 1 + 1 + 1 + 1 := by omega
    rcases this with rfl | rfl | rfl | rfl
    · exact Or.inl k27
    · exact Or.inr (Or.inl k28)
    · exact Or.inr (Or.inr q9)
    · exact Or.inr (Or.inl k28b)
  by_cases qz : r_tV b L (i + 1 + 1 + 1 + 1) = 0
  · obtain ⟨V10, p1, p2, p3⟩ := m_wrong (F := F) hL m9 (fun a k z => by have := z.1; omega) (j := i + 1 + 1 + 1 + 1) (k := 5) (by omega) (by decide) (by decide)
    have p1 : fX12_wrong F V9 5 (nI (i + 1 + 1 + 1 + 1)) = some V10 := p1
    rw [if_pos (show nI (r_tV b L (i + 1 + 1 + 1 + 1)) = 0 by rw [qz]; rfl), p1, y_bd]
    have m10 : r_mr b L M sd (i + 1 + 1 + 1 + 1 + 1) V10 := r_mr_P p2 v1.symm fun a k => (v2 a k).trans ⟨fun z => z.imp id fun z => z.2, fun z => z.imp id fun z => ⟨qz, z⟩⟩
    exact m_headfin hF hL h q7 hn7 (by omega) hin5 m10 (r_fx_trans f9 (r_sw_fx p3)) (fun k hk => (p3.1 0 k (fun z => by omega)).trans ((sc9 k (by omega)).trans (sc6 k hk))) (fun r hr => by rw [p3.2.1, row9 r (fun z => hr (by rw [z]; decide)), row6 r hr]) (by rw [p3.2.1, row9 21 (by decide)]; exact r21) (by rw [p3.2.1]; exact r22b)
  · rw [if_neg (show ¬ nI (r_tV b L (i + 1 + 1 + 1 + 1)) = 0 from nI_ne0 (by omega) (by omega))]
    have m10 : r_mr b L M sd (i + 1 + 1 + 1 + 1 + 1) V9 := r_mr_P m9 v1.symm fun a k => (v2 a k).trans ⟨fun z => z.elim id fun z => absurd z.1 qz, Or.inl⟩
    exact m_headfin hF hL h q7 hn7 (by omega) hin5 m10 f9 (fun k hk => (sc9 k (by omega)).trans (sc6 k hk)) (fun r hr => by rw [row9 r (fun z => hr (by rw [z]; decide)), row6 r hr]) (by rw [row9 21 (by decide)]; exact r21) r22b
end
