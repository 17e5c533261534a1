/-! ===== parts in the reference: place, lamp ===== -/
section
variable {F : Nat} {b : Nat → Nat} {L M sd : Nat} {V : zV}
theorem m_place {i cc : Nat} (hF : 1200 ≤ F) (hL : L ≤ 4000) (h : r_rs b L M sd i cc V) (hK : r_tK b L i = 4) (hn : r_cn (r_tK b L) 4 i < r_max 4) (hi : i < 1000) :
    r_po b L M sd i cc V (zbd (fX12_must F (zsI V 0 11 (nI (i + 1))) 1) fun q98 => zbd (fX12_must F q98 4) fun q100 => if (zI q100 0 13) ≤ 0 then (zbd (fX12_tells F q100 (nI (i + 1)) 4) fun q103 => fX12_tellPart_b533 F q103 (nI 4)) else some q100) (r_b (r_need (r_tK b L) 27 (i + 1)) (r_need (r_tK b L) 29)) := by
  obtain ⟨h1, h12, hkt, hcc, hnr, htb, hcn, h80⟩ := id h
  have hs := h1.2.2.1
  have hsd := hs.2
  have m1 := r_rs_1 h (by omega) hi
  have fx1 : r_fx sd V (zsI V 0 11 (nI (i + 1))) := r_fx_I r_fx_refl (by decide)
  have hw2 := m_must (F := F) m1 (k := 27) (x := 1) (by decide) rfl
  cases hp2 : r_need (r_tK b L) 27 (i + 1) with
  | error z =>
    rw [hp2] at hw2
    obtain ⟨V2, b1, b2⟩ := hw2
    have hme : r_me b L sd z.1 z.2 V V2 := r_me_pre fx1 b2
    have hmf := r_me_mf hme hs
    obtain ⟨V3, c1, c2⟩ := m_must_x (F := F) (4 : Int32) V2 hmf
    have c1 : fX12_must F V2 4 = some V3 := c1
    rw [b1, y_bd, c1, y_bd, if_neg (r_mf_ne (r_mx_mf hmf c2)).1]
    exact ⟨V3, rfl, r_me_trans hme c2⟩
  | ok i2 =>
  rw [hp2] at hw2
  obtain ⟨b1, b2, -⟩ := hw2
  obtain ⟨k27, rfl, hi998⟩ := r_need_ok hp2
  have hw4 := m_must (F := F) b2 (k := 29) (x := 4) (by decide) rfl
  rw [b1, y_bd]
  show r_po b L M sd i cc V _ (r_need (r_tK b L) 29 (i + 1 + 1))
  cases hp4 : r_need (r_tK b L) 29 (i + 1 + 1) with
  | error z =>
    rw [hp4] at hw4
    obtain ⟨V4, d1, d2⟩ := hw4
    have hme : r_me b L sd z.1 z.2 V V4 := r_me_pre (r_fx_I (k := 11) fx1 (by decide)) d2
    rw [d1, y_bd, if_neg (r_mf_ne (r_me_mf hme hs)).1]
    exact ⟨V4, rfl, hme⟩
  | ok e =>
  rw [hp4] at hw4
  obtain ⟨d1, d2, -⟩ := hw4
  obtain ⟨k29, rfl, hi996⟩ := r_need_ok hp4
  have lt4 := r_ms_lt d2
  generalize hV3 : zsI (zsI (zsI V 0 11 (nI (i + 1))) 0 11 (nI (i + 1 + 1))) 0 11 (nI (i + 1 + 1 + 1)) = V3 at d1 d2
  have fx3 : r_fx sd V V3 := by rw [← hV3]; exact r_fx_I (r_fx_I fx1 (by decide)) (by decide)
  have row3 : ∀ r, zA V3 r = zA V r := fun r => by rw [← hV3]; rfl
  have sc3 : ∀ k, ¬ k = 11 → zI V3 0 k = zI V 0 k := fun k hk => by
    rw [← hV3, y_get.1, if_neg (fun z => hk z.2), y_get.1, if_neg (fun z => hk z.2), y_get.1, if_neg (fun z => hk z.2)]
  have e8 : zA V3 8 (9 * sd + 4) = nI (r_cn (r_tK b L) 4 i) := by rw [row3]; exact htb.1.1 4 (by omega)
  have hro : 20 ≤ r_ro (r_tK b L) (i + 1) := by
    unfold r_ro
    rw [show i + 1 - 1 = i by omega, hK, if_pos (by omega)]; omega
  obtain ⟨V4, g1, g2, g3, g4, g5⟩ := m_tells (F := F) (by omega) hL d2 (fun a k z => by have := z.1; omega) (j := i + 1) (s := 4) (by omega) k27 (by omega) e8 (r_tl_room hcn (by omega) hn)
  have g1 : fX12_tells F V3 (nI (i + 1)) 4 = some V4 := g1
  obtain ⟨w1, w2⟩ := r_tell (b := b) (L := L) k27 hro (by rw [show i + 1 - 1 = i by omega]; omega)
  rw [show i + 1 - 1 = i by omega, hK] at w1
  obtain ⟨u5, u6⟩ := r_quiet (b := b) (L := L) (i := i + 1 + 1) (by omega) (by omega)
  have m4 : r_mr b L M sd (i + 1 + 1 + 1) V4 := r_mr_P (r_ms_tl g2 w1.symm w2) u5.symm u6
  rw [d1, y_bd, if_pos (show zI V3 0 13 ≤ 0 by rw [d2.2.1.2.1]; decide), g1, y_bd]
  have hin : ∀ a, i < a → a < i + 1 + 1 + 1 → r_tK b L a = 27 ∨ r_tK b L a = 28 ∨ r_tK b L a = 29 ∨ r_tK b L a = 8 := by
    intro a h1 h2
    have : a = i + 1 ∨ a = i + 1 + 1 := by omega
    rcases this with rfl | rfl <;> omega
  obtain ⟨V', q1, q2, q3⟩ := m_partfin (F := F) h hK (by omega) hn (by omega) hin m4 (r_fx_trans fx3 g3) (fun w hw => (g4 w (by rcases hw with rfl | rfl | rfl | rfl | rfl <;> decide)).trans (sc3 w (by omega))) (fun r hr hr2 => by rw [g5 r hr, row3]) (fun r h1 h2 hr => by
    exfalso
    have : ∀ r : Fin 23, 12 ≤ r.1 → ¬ r_kr r.1 = 4 := by decide +kernel
    exact this ⟨r, by omega⟩ h1 hr)
  exact ⟨V', q1, q2, q3, by omega, hin⟩
theorem m_lamp1 {i cc : Nat} (hF : 1200 ≤ F) (hL : L ≤ 4000) (h : r_rs b L M sd i cc V) (hK : r_tK b L i = 3) (hn : r_cn (r_tK b L) 3 i < r_max 3) (hi : i < 1000) :
    r_po b L M sd i cc V (zbd (fX12_must F (zsI V 0 11 (nI (i + 1))) 1) fun q85 => zbd (fX12_namedNext F q85 0) fun q87 => zbd (fX12_must F q87.2 4) fun q89 => if (zI q89 0 13) ≤ 0 then (zbd (fX12_tells F q89 (nI (i + 1)) 3) fun q92 => zchk (zix (((16 : Int32) * (zI q92 0 19)) + nI (r_cn (r_tK b L) 3 i)) 32) <| zlet (zsA q92 16 (upd (zA q92 16) ((((16 : Int32) * (zI q92 0 19)) + nI (r_cn (r_tK b L) 3 i))).toNatClampNeg q87.1)) fun V7_95 => fX12_tellPart_b533 F V7_95 (nI 3)) else some q89) (r_b (r_need (r_tK b L) 27 (i + 1)) fun j => r_b (r_need (r_tK b L) 27 j) (r_need (r_tK b L) 29)) := by
  obtain ⟨h1, h12, hkt, hcc, hnr, htb, hcn, h80⟩ := id h
  have hs := h1.2.2.1
  have hsd := hs.2
  have m1 := r_rs_1 h (by omega) hi
  have fx1 : r_fx sd V (zsI V 0 11 (nI (i + 1))) := r_fx_I r_fx_refl (by decide)
  have hw2 := m_must (F := F) m1 (k := 27) (x := 1) (by decide) rfl
  have hn16 : r_cn (r_tK b L) 3 i < 16 := hn
  cases hp2 : r_need (r_tK b L) 27 (i + 1) with
  | error z =>
    rw [hp2] at hw2
    obtain ⟨V2, b1, b2⟩ := hw2
    have hme : r_me b L sd z.1 z.2 V V2 := r_me_pre fx1 b2
    have hmf := r_me_mf hme hs
    obtain ⟨V3, c1, c2⟩ := m_nn_x (F := F) (0 : Int32) hmf
    have hmf3 := r_mx_mf hmf c2
    obtain ⟨V4, d1, d2⟩ := m_must_x (F := F) (4 : Int32) V3 hmf3
    have d1 : fX12_must F V3 4 = some V4 := d1
    rw [b1, y_bd, c1, y_bd]
    dsimp only
    rw [d1, y_bd, if_neg (r_mf_ne (r_mx_mf hmf3 d2)).1]
    exact ⟨V4, rfl, r_me_trans hme (r_mx_trans c2 d2)⟩
  | ok i2 =>
  rw [hp2] at hw2
  obtain ⟨b1, b2, -⟩ := hw2
  obtain ⟨k27, rfl, hi998⟩ := r_need_ok hp2
  have hw3 := m_nn (F := F) (by omega) hL b2 (fun a k z => by have := z.1; omega) (s := 0) (by omega)
  rw [b1, y_bd]
  show r_po b L M sd i cc V _ (r_b (r_need (r_tK b L) 27 (i + 1 + 1)) (r_need (r_tK b L) 29))
  cases hp3 : r_need (r_tK b L) 27 (i + 1 + 1) with
  | error z =>
    rw [hp3] at hw3
    obtain ⟨V3, x, c1, c2⟩ := hw3
    have hme : r_me b L sd z.1 z.2 V V3 := r_me_pre (r_fx_I (k := 11) fx1 (by decide)) c2
    have hmf3 := r_me_mf hme hs
    obtain ⟨V4, d1, d2⟩ := m_must_x (F := F) (4 : Int32) V3 hmf3
    have d1 : fX12_must F V3 4 = some V4 := d1
    have c1 : fX12_namedNext F (zsI (zsI V 0 11 (nI (i + 1))) 0 11 (nI (i + 1 + 1))) 0 = some (x, V3) := c1
    rw [c1, y_bd]
    dsimp only
    rw [d1, y_bd, if_neg (r_mf_ne (r_mx_mf hmf3 d2)).1]
    exact ⟨V4, rfl, r_me_trans hme d2⟩
  | ok i3 =>
  rw [hp3] at hw3
  obtain ⟨V3, c1, c2, c3⟩ := hw3
  obtain ⟨k27b, rfl, hi997⟩ := r_need_ok hp3
  have c1 : fX12_namedNext F (zsI (zsI V 0 11 (nI (i + 1))) 0 11 (nI (i + 1 + 1))) 0 = some (nI ((r_lk (r_tl b L (i + 1)) (r_tW b L (i + 1 + 1)) 0).getD 0), V3) := c1
  have hw4 := m_must (F := F) c2 (k := 29) (x := 4) (by decide) rfl
  have fxa : r_fx sd V V3 := r_fx_trans (r_fx_I (k := 11) (r_fx_I (k := 11) fx1 (show 11 ∈ r_sc by decide)) (show 11 ∈ r_sc by decide)) (r_sw_fx c3)
  rw [c1, y_bd]
  dsimp only
  show r_po b L M sd i cc V _ (r_need (r_tK b L) 29 (i + 1 + 1 + 1))
  cases hp4 : r_need (r_tK b L) 29 (i + 1 + 1 + 1) with
  | error z =>
    rw [hp4] at hw4
    obtain ⟨V4, d1, d2⟩ := hw4
    have hme : r_me b L sd z.1 z.2 V V4 := r_me_pre fxa d2
    rw [d1, y_bd, if_neg (r_mf_ne (r_me_mf hme hs)).1]
    exact ⟨V4, rfl, hme⟩
  | ok e =>
  rw [hp4] at hw4
  obtain ⟨d1, d2, -⟩ := hw4
  obtain ⟨k29, rfl, hi996⟩ := r_need_ok hp4
  have lt4 := r_ms_lt d2
  generalize hV4 : zsI V3 0 11 (nI (i + 1 + 1 + 1 + 1)) = V4 at d1 d2
  have fx4 : r_fx sd V V4 := by rw [← hV4]; exact r_fx_I fxa (by decide)
  have row4 : ∀ r, zA V4 r = zA V r := fun r => by rw [← hV4]; exact c3.2.1 r
  have sc4 : ∀ k, ¬ k = 11 → ¬ k = 15 → ¬ k = 16 → zI V4 0 k = zI V 0 k := fun k hk h15 h16 => by
    rw [← hV4, y_get.1, if_neg (fun z => hk z.2), c3.1 0 k (fun z => by omega), y_get.1, if_neg (fun z => hk z.2), y_get.1, if_neg (fun z => hk z.2), y_get.1, if_neg (fun z => hk z.2)]
  have e8 : zA V4 8 (9 * sd + 3) = nI (r_cn (r_tK b L) 3 i) := by rw [row4]; exact htb.1.1 3 (by omega)
  have hro : 20 ≤ r_ro (r_tK b L) (i + 1) := by
    unfold r_ro
    rw [show i + 1 - 1 = i by omega, hK, if_pos (by omega)]; omega
  have hro2 : r_ro (r_tK b L) (i + 1 + 1) = 0 := by
    unfold r_ro
    rw [show i + 1 + 1 - 1 = i + 1 by omega, show i + 1 + 1 - 2 = i by omega, k27, hK]; rfl
  obtain ⟨V5, g1, g2, g3, g4, g5⟩ := m_tells (F := F) (by omega) hL d2 (fun a k z => z.elim (fun z => by have := z.1; omega) (fun z => by omega)) (j := i + 1) (s := 3) (by omega) k27 (by omega) e8 (r_tl_room hcn (by omega) hn)
  have g1 : fX12_tells F V4 (nI (i + 1)) 3 = some V5 := g1
  obtain ⟨w1, w2⟩ := r_tell (b := b) (L := L) k27 hro (by rw [show i + 1 - 1 = i by omega]; omega)
  rw [show i + 1 - 1 = i by omega, hK] at w1
  -- the lamp's own name is no switch
  have hlk : r_lk (r_tl b L (i + 1 + 1)) (r_tW b L (i + 1 + 1)) 0 = r_lk (r_tl b L (i + 1)) (r_tW b L (i + 1 + 1)) 0 := by
    rw [w1]
    by_cases q : r_tol (r_tl b L (i + 1)) (r_tW b L (i + 1)) = true
    · rw [if_pos q]
    · rw [if_neg q, r_lk_app]
      cases r_lk (r_tl b L (i + 1)) (r_tW b L (i + 1 + 1)) 0 with
      | some c => rfl
      | none => dsimp only; rw [if_neg (fun z => by have := z.2; omega)]
  obtain ⟨x1, x2⟩ := r_use (b := b) (L := L) (i := i + 1 + 1) k27b hro2 (by decide) (by rw [show i + 1 + 1 - 1 = i + 1 by omega, show i + 1 + 1 - 2 = i by omega]; omega)
  obtain ⟨u5, u6⟩ := r_quiet (b := b) (L := L) (i := i + 1 + 1 + 1) (by omega) (by omega)
  have m5 : r_mr b L M sd (i + 1 + 1 + 1 + 1) V5 := by
    have t1 : r_ms b L M sd (i + 1 + 1 + 1 + 1) (r_tl b L (i + 1 + 1 + 1)) (r_wp b L (i + 1 + 1 + 1)) V5 := r_ms_tl g2 (w1.symm.trans x1.symm) (fun a k => by
      rw [x2 a k, w2 a k, hlk]
      constructor
      · rintro ((z | z) | z)
        · exact Or.inl (Or.inl z)
        · exact Or.inr z
        · exact Or.inl (Or.inr z)
      · rintro ((z | z) | z)
        · exact Or.inl (Or.inl z)
        · exact Or.inr z
        · exact Or.inl (Or.inr z))
    exact r_mr_P t1 u5.symm u6
  have e19 : zI V5 0 19 = nI sd := m5.2.2.1.1
  rw [d1, y_bd, if_pos (show zI V4 0 13 ≤ 0 by rw [d2.2.1.2.1]; decide), g1, y_bd, e19, show (16 : Int32) = nI 16 from rfl, pk_mul, nI_add, y_ck (by omega) (by decide), y_let, nI_clamp (by omega)]
  have fx6 : r_fx sd V5 (zsA V5 16 (upd (zA V5 16) (16 * sd + r_cn (r_tK b L) 3 i) (nI ((r_lk (r_tl b L (i + 1)) (r_tW b L (i + 1 + 1)) 0).getD 0)))) := r_fx_H (k := r_cn (r_tK b L) 3 i) r_fx_refl (by decide) (by rw [show r_hs 16 = 16 from rfl, Nat.mul_comm]) hn16
  have m6 : r_mr b L M sd (i + 1 + 1 + 1 + 1) (zsA V5 16 (upd (zA V5 16) (16 * sd + r_cn (r_tK b L) 3 i) (nI ((r_lk (r_tl b L (i + 1)) (r_tW b L (i + 1 + 1)) 0).getD 0)))) := r_ms_eq m5 fx6 m5.2.1.1 m5.2.1.2.1 m5.2.1.2.2 rfl rfl rfl rfl rfl rfl
  have hin : ∀ a, i < a → a < i + 1 + 1 + 1 + 1 → r_tK b L a = 27 ∨ r_tK b L a = 28 ∨ r_tK b L a = 29 ∨ r_tK b L a = 8 := by
    intro a h1 h2
    have : a = i + 1 ∨ a = i + 1 + 1 ∨ a = i + 1 + 1 + 1 := by omega
    rcases this with rfl | rfl | rfl <;> omega
  have rowE : ∀ r, zA (zsA V5 16 (upd (zA V5 16) (16 * sd + r_cn (r_tK b L) 3 i) (nI ((r_lk (r_tl b L (i + 1)) (r_tW b L (i + 1 + 1)) 0).getD 0)))) r = if r = 16 then upd (zA V5 16) (16 * sd + r_cn (r_tK b L) 3 i) (nI ((r_lk (r_tl b L (i + 1)) (r_tW b L (i + 1 + 1)) 0).getD 0)) else zA V5 r := fun _ => rfl
  obtain ⟨V', q1, q2, q3⟩ := m_partfin (F := F) h hK (by omega) hn (by omega) hin m6 (r_fx_trans fx4 (r_fx_trans g3 fx6)) (fun w hw => (g4 w (by rcases hw with rfl | rfl | rfl | rfl | rfl <;> decide)).trans (sc4 w (by omega) (by omega) (by omega))) (fun r hr hr2 => by
    rw [rowE, if_neg (fun z => hr2 (by subst z; exact ⟨by decide, by decide, rfl⟩)), g5 r hr, row4]) (fun r h1 h2 hr => by
    have : ∀ r : Fin 23, 12 ≤ r.1 → r_kr r.1 = 3 → r.1 = 16 := by decide +kernel
    have er := this ⟨r, by omega⟩ h1 hr
    dsimp only at er
    subst er
    refine ⟨fun m hm => ?_, ?_⟩
    · rw [rowE, if_pos rfl, y_upd, if_neg (by rw [show sd * r_hs 16 = 16 * sd from Nat.mul_comm _ _] at hm; exact hm), g5 16 (by decide), row4]
    · rw [rowE, if_pos rfl, y_upd, if_pos (by rw [show sd * r_hs 16 = 16 * sd from Nat.mul_comm _ _])]
      unfold r_val r_nq
      rw [if_neg (by decide), if_pos (by decide), show i + 2 = i + 1 + 1 from rfl, hro2, hlk])
  exact ⟨V', q1, q2, q3, by omega, hin⟩
end
