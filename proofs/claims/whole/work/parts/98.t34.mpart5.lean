/-! ===== parts in the reference: way; all parts ===== -/
section
variable {F : Nat} {b : Nat → Nat} {L M sd : Nat} {V : zV}
theorem m_b448_x (x1 x2 x3 x4 x5 x6 x7 : Int32) (h : r_mf sd V) : ∃ V', fX12_tellPart_b448 F V x1 x2 x3 x4 x5 x6 x7 = some V' ∧ r_mx sd V V' := by
  obtain ⟨V1, a1, a2⟩ := m_must_x (F := F) (4 : Int32) V h
  have a1 : fX12_must F V 4 = some V1 := a1
  rw [fX12_tellPart_b448, a1, y_bd, if_neg (r_mf_ne (r_mx_mf h a2)).1]
  exact ⟨V1, rfl, a2⟩
/-- a way behind its names -/
theorem m_wayfin {i e0 cc : Nat} {P : Nat → Nat → Prop} {l : List r_E} {V5 : zV} {x7 : Int32} (hL : L ≤ 4000) (h : r_rs b L M sd i cc V) (hK : r_tK b L i = 5) (hn : r_cn (r_tK b L) 5 i < r_max 5) (hie : i + 2 < e0) (k27 : r_tK b L (i + 1) = 27) (k27b : r_tK b L (i + 2) = 27) (hm : r_ms b L M sd e0 l P V5) (hP : ∀ a k, P a k → a ≤ e0) (hl : l = r_tl b L e0)
    (hw : ∀ a k, r_wp b L e0 a k ↔ (P a k ∨ (r_tW b L (i + 2) = r_tW b L (i + 1) ∧ a = i + 2 ∧ k = 5))) (hin : ∀ a, i < a → a < e0 → r_tK b L a = 27 ∨ r_tK b L a = 28 ∨ r_tK b L a = 29 ∨ r_tK b L a = 8) (hfx : r_fx sd V V5) (hrow : ∀ r, zA V5 r = zA V r) (hsc : ∀ k, ¬ k = 11 → ¬ k = 15 → ¬ k = 16 → zI V5 0 k = zI V 0 k) (h7 : x7 = if r_tK b L (i + 3) = 8 then nI (r_nq b L (i + 4)) else -1) :
    r_po b L M sd i cc V (fX12_tellPart_b448 F V5 (nI 5) (nI (r_cn (r_tK b L) 5 i)) (nI (i + 1)) (nI (r_nq b L (i + 1))) (nI (i + 2)) (nI (r_nq b L (i + 2))) x7) (r_need (r_tK b L) 29 e0) := by
  obtain ⟨h1, h12, hkt, hcc, hnr, htb, hcn, h80⟩ := id h
  have hs := h1.2.2.1
  have hsd := hs.2
  have hn24 : r_cn (r_tK b L) 5 i < 24 := hn
  have hw4 := m_must (F := F) hm (k := 29) (x := 4) (by decide) rfl
  rw [fX12_tellPart_b448]
  cases hp4 : r_need (r_tK b L) 29 e0 with
  | error z =>
    rw [hp4] at hw4
    obtain ⟨V4, d1, d2⟩ := hw4
    have hme : r_me b L sd z.1 z.2 V V4 := r_me_pre hfx d2
    rw [d1, y_bd, if_neg (r_mf_ne (r_me_mf hme hs)).1]
    exact ⟨V4, rfl, hme⟩
  | ok e =>
  rw [hp4] at hw4
  obtain ⟨d1, d2, -⟩ := hw4
  obtain ⟨k29, rfl, hi996⟩ := r_need_ok hp4
  have lt4 := r_ms_lt d2
  generalize hV6 : zsI V5 0 11 (nI (e0 + 1)) = V6 at d1 d2
  have fx6 : r_fx sd V V6 := by rw [← hV6]; exact r_fx_I hfx (by decide)
  have row6 : ∀ r, zA V6 r = zA V r := fun r => by rw [← hV6]; exact hrow r
  have sc6 : ∀ k, ¬ k = 11 → ¬ k = 15 → ¬ k = 16 → zI V6 0 k = zI V 0 k := fun k h1 h2 h3 => by
    rw [← hV6, y_get.1, if_neg (fun z => h1 z.2)]; exact hsc k h1 h2 h3
  have same := m_same (i := i + 1) (j := i + 2) d2 (by omega) (by omega) k27 k27b
  obtain ⟨u5, u6⟩ := r_quiet (b := b) (L := L) (i := e0) (by omega) (by omega)
  have hin' : ∀ a, i < a → a < e0 + 1 → r_tK b L a = 27 ∨ r_tK b L a = 28 ∨ r_tK b L a = 29 ∨ r_tK b L a = 8 := by
    intro a h1 h2
    by_cases q : a = e0
    · subst q; omega
    · exact hin a h1 (by omega)
  have fin : ∀ V7, r_mr b L M sd (e0 + 1) V7 → r_fx sd V V7 → (∀ r, zA V7 r = zA V r) → (∀ k, ¬ k = 11 → ¬ k = 15 → ¬ k = 16 → zI V7 0 k = zI V 0 k) → r_po b L M sd i cc V (fX12_tellPart_b485 F V7 (nI 5) (nI (r_cn (r_tK b L) 5 i)) (nI (r_nq b L (i + 1))) (nI (r_nq b L (i + 2))) x7) (.ok (e0 + 1)) := by
    intro V7 m7 fx7 row7 sc7
    have e19 : zI V7 0 19 = nI sd := m7.2.2.1.1
    have e19' : ∀ f, zI (zsA V7 17 f) 0 19 = nI sd := fun _ => e19
    have e19'' : ∀ f g, zI (zsA (zsA V7 17 f) 18 g) 0 19 = nI sd := fun _ _ => e19
    have e18 : ∀ f, zA (zsA V7 17 f) 18 = zA V7 18 := fun _ => rfl
    have e19r : ∀ f g, zA (zsA (zsA V7 17 f) 18 g) 19 = zA V7 19 := fun _ _ => rfl
    rw [fX12_tellPart_b485]
    simp only [e19, e19', e19'', e18, e19r, show (24 : Int32) = nI 24 from rfl, pk_mul, nI_add, y_ck (show 24 * sd + r_cn (r_tK b L) 5 i < 48 by omega) (show 48 < 2 ^ 31 by decide), y_let, nI_clamp (show 24 * sd + r_cn (r_tK b L) 5 i < 2 ^ 31 by omega)]
    have hh : ∀ r, (r = 17 ∨ r = 18 ∨ r = 19) → 24 * sd + r_cn (r_tK b L) 5 i = sd * r_hs r + r_cn (r_tK b L) 5 i ∧ r_cn (r_tK b L) 5 i < r_hs r := by
      intro r hr
      have : r_hs r = 24 := by rcases hr with rfl | rfl | rfl <;> rfl
      rw [this]
      exact ⟨by rw [Nat.mul_comm], hn24⟩
    have fx8 : r_fx sd V7 (zsA (zsA (zsA V7 17 (upd (zA V7 17) (24 * sd + r_cn (r_tK b L) 5 i) (nI (r_nq b L (i + 1))))) 18 (upd (zA V7 18) (24 * sd + r_cn (r_tK b L) 5 i) (nI (r_nq b L (i + 2))))) 19 (upd (zA V7 19) (24 * sd + r_cn (r_tK b L) 5 i) x7)) :=
      r_fx_H (V' := zsA (zsA V7 17 (upd (zA V7 17) (24 * sd + r_cn (r_tK b L) 5 i) (nI (r_nq b L (i + 1))))) 18 (upd (zA V7 18) (24 * sd + r_cn (r_tK b L) 5 i) (nI (r_nq b L (i + 2))))) (r_fx_H (V' := zsA V7 17 (upd (zA V7 17) (24 * sd + r_cn (r_tK b L) 5 i) (nI (r_nq b L (i + 1))))) (r_fx_H r_fx_refl (by decide) (hh 17 (by omega)).1 (hh 17 (by omega)).2) (by decide) (hh 18 (by omega)).1 (hh 18 (by omega)).2) (by decide) (hh 19 (by omega)).1 (hh 19 (by omega)).2
    have m8 := r_ms_eq m7 fx8 m7.2.1.1 m7.2.1.2.1 m7.2.1.2.2 rfl rfl rfl rfl rfl rfl
    have rowE : ∀ r, zA (zsA (zsA (zsA V7 17 (upd (zA V7 17) (24 * sd + r_cn (r_tK b L) 5 i) (nI (r_nq b L (i + 1))))) 18 (upd (zA V7 18) (24 * sd + r_cn (r_tK b L) 5 i) (nI (r_nq b L (i + 2))))) 19 (upd (zA V7 19) (24 * sd + r_cn (r_tK b L) 5 i) x7)) r = if r = 19 then upd (zA V7 19) (24 * sd + r_cn (r_tK b L) 5 i) x7 else if r = 18 then upd (zA V7 18) (24 * sd + r_cn (r_tK b L) 5 i) (nI (r_nq b L (i + 2))) else if r = 17 then upd (zA V7 17) (24 * sd + r_cn (r_tK b L) 5 i) (nI (r_nq b L (i + 1))) else zA V7 r := fun _ => rfl
    obtain ⟨V', q1, q2, q3⟩ := m_partfin (F := F) h hK (by omega) hn (by omega) hin' m8 (r_fx_trans fx7 fx8) (fun w hw => sc7 w (by omega) (by omega) (by omega)) (fun r hr hr2 => by
      rw [rowE, if_neg (fun z => hr2 (by subst z; exact ⟨by decide, by decide, rfl⟩)), if_neg (fun z => hr2 (by subst z; exact ⟨by decide, by decide, rfl⟩)), if_neg (fun z => hr2 (by subst z; exact ⟨by decide, by decide, rfl⟩)), row7]) (fun r h1 h2 hr => by
      have : ∀ r : Fin 23, 12 ≤ r.1 → r_kr r.1 = 5 → r.1 = 17 ∨ r.1 = 18 ∨ r.1 = 19 := by decide +kernel
      have er := this ⟨r, by omega⟩ h1 hr
      dsimp only at er
      have eh : sd * r_hs r + r_cn (r_tK b L) 5 i = 24 * sd + r_cn (r_tK b L) 5 i := (hh r er).1.symm
      rw [eh]
      rcases er with rfl | rfl | rfl
      · refine ⟨fun m hm => ?_, ?_⟩
        · rw [rowE, if_neg (by decide), if_neg (by decide), if_pos rfl, y_upd, if_neg hm, row7]
        · rw [rowE, if_neg (by decide), if_neg (by decide), if_pos rfl, y_upd, if_pos rfl]
          unfold r_val
          rw [if_pos (by decide)]
      · refine ⟨fun m hm => ?_, ?_⟩
        · rw [rowE, if_neg (by decide), if_pos rfl, y_upd, if_neg hm, row7]
        · rw [rowE, if_neg (by decide), if_pos rfl, y_upd, if_pos rfl]
          unfold r_val
          rw [if_neg (by decide), if_pos (by decide)]
      · refine ⟨fun m hm => ?_, ?_⟩
        · rw [rowE, if_pos rfl, y_upd, if_neg hm, row7]
        · rw [rowE, if_pos rfl, y_upd, if_pos rfl]
          unfold r_val
          rw [if_neg (by decide), if_neg (by decide), if_pos (by decide), h7])
    exact ⟨V', q1, q2, q3, by omega, hin'⟩
  rw [d1, y_bd, if_pos (show zI V6 0 13 ≤ 0 by rw [d2.2.1.2.1]; decide), y_ck (by omega) (by decide), y_ck (by omega) (by decide), nI_clamp (by omega), nI_clamp (by omega)]
  by_cases qs : r_tW b L (i + 2) = r_tW b L (i + 1)
  · obtain ⟨V7, p1, p2, p3⟩ := m_wrong (F := F) hL d2 (fun a k z => by have := hP a k z; omega) (j := i + 2) (k := 5) (by omega) (by decide) (by decide)
    have p1 : fX12_wrong F V6 5 (nI (i + 2)) = some V7 := p1
    rw [if_pos (same.mpr qs), p1, y_bd]
    have m7 : r_mr b L M sd (e0 + 1) V7 := r_mr_P (r_ms_tl p2 hl fun a k => (hw a k).trans ⟨fun z => z.imp id fun z => z.2, fun z => z.imp id fun z => ⟨qs, z⟩⟩) u5.symm u6
    exact fin V7 m7 (r_fx_trans fx6 (r_sw_fx p3)) (fun r => (p3.2.1 r).trans (row6 r)) (fun k h1 h2 h3 => (p3.1 0 k (fun z => by omega)).trans (sc6 k h1 h2 h3))
  · rw [if_neg (fun z => qs (same.mp z))]
    have m7 : r_mr b L M sd (e0 + 1) V6 := r_mr_P (r_ms_tl d2 hl fun a k => (hw a k).trans ⟨fun z => z.elim id fun z => absurd z.1 qs, Or.inl⟩) u5.symm u6
    exact fin V6 m7 fx6 row6 sc6
theorem m_way1 {i cc : Nat} (hF : 1200 ≤ F) (hL : L ≤ 4000) (h : r_rs b L M sd i cc V) (hK : r_tK b L i = 5) (hn : r_cn (r_tK b L) 5 i < r_max 5) (hi : i < 1000) :
    r_po b L M sd i cc V (fX12_tellPart_b405 F (zsI V 0 11 (nI (i + 1))) (nI 5) (nI (r_cn (r_tK b L) 5 i)) (nI (i + 1))) (r_b (r_need (r_tK b L) 27 (i + 1)) fun j => r_b (r_need (r_tK b L) 27 j) fun j => if r_tK b L j = 8 then r_b (r_pass j) fun j => r_b (r_need (r_tK b L) 27 j) (r_need (r_tK b L) 29) else r_need (r_tK b L) 29 j) := by
  obtain ⟨h1, h12, hkt, hcc, hnr, htb, hcn, h80⟩ := id h
  have hs := h1.2.2.1
  have hsd := hs.2
  have m1 := r_rs_1 h (by omega) hi
  have fx1 : r_fx sd V (zsI V 0 11 (nI (i + 1))) := r_fx_I r_fx_refl (by decide)
  have hw := m_two (F := F) hF hL m1 hK (Or.inr ⟨rfl, rfl⟩)
  have er : (r_b (r_need (r_tK b L) 27 (i + 1)) fun j => r_b (r_need (r_tK b L) 27 j) fun j => if r_tK b L j = 8 then r_b (r_pass j) fun j => r_b (r_need (r_tK b L) 27 j) (r_need (r_tK b L) 29) else r_need (r_tK b L) 29 j) = r_b (r_b (r_need (r_tK b L) 27 (i + 1)) (r_need (r_tK b L) 27)) fun j => if r_tK b L j = 8 then r_b (r_pass j) fun j => r_b (r_need (r_tK b L) 27 j) (r_need (r_tK b L) 29) else r_need (r_tK b L) 29 j := (r_b_assoc _ _ _).symm
  rw [er, fX12_tellPart_b405]
  cases hp : r_b (r_need (r_tK b L) 27 (i + 1)) (r_need (r_tK b L) 27) with
  | error z =>
    rw [hp] at hw
    obtain ⟨V2, V3, x, y, b1, c1, d1⟩ := hw
    have hme : r_me b L sd z.1 z.2 V V3 := r_me_pre fx1 d1
    have hmf3 := r_me_mf hme hs
    have b1 : fX12_namedNext F (zsI V 0 11 (nI (i + 1))) 4 = some (x, V2) := b1
    have c1 : fX12_namedNext F V2 4 = some (y, V3) := c1
    obtain ⟨V4, g1, g2⟩ := m_b448_x (F := F) (nI 5) (nI (r_cn (r_tK b L) 5 i)) (nI (i + 1)) x (zI V2 0 11) y (-1) hmf3
    rw [b1, y_bd]
    dsimp only
    rw [c1, y_bd]
    dsimp only
    rw [m_is_x hmf3, y_bd, if_pos rfl, g1]
    exact ⟨V4, rfl, r_me_trans hme g2⟩
  | ok i3 =>
  rw [hp] at hw
  obtain ⟨rfl, V2, V3, b1, c1, c2, k27, k27b, c3, c4, c5, c6, c7, hro2⟩ := hw
  have b1 : fX12_namedNext F (zsI V 0 11 (nI (i + 1))) 4 = some (nI (r_nq b L (i + 1)), V2) := b1
  have c1 : fX12_namedNext F V2 4 = some (nI (r_nq b L (i + 2)), V3) := c1
  have fx3 : r_fx sd V V3 := r_fx_trans fx1 c4
  have sc3 : ∀ k, ¬ k = 11 → ¬ k = 15 → ¬ k = 16 → zI V3 0 k = zI V 0 k := fun k hk h15 h16 => by
    rw [c7 k hk h15 h16, y_get.1, if_neg (fun z => hk z.2)]
  obtain ⟨x1, x2⟩ := r_second (b := b) (L := L) (j := i + 2) k27b hro2 (by decide) (by rw [show i + 2 - 1 = i + 1 by omega]; exact k27) (by rw [show i + 2 - 2 = i by omega]; exact Or.inr hK)
  rw [show i + 2 - 1 = i + 1 by omega] at x2
  rw [b1, y_bd]
  dsimp only
  rw [c1, y_bd]
  dsimp only
  rw [c2, m_is c3 (k := 8) (x := 26) (by decide) rfl, y_bd]
  show r_po b L M sd i cc V _ (if r_tK b L (i + 3) = 8 then r_b (r_pass (i + 3)) fun j => r_b (r_need (r_tK b L) 27 j) (r_need (r_tK b L) 29) else r_need (r_tK b L) 29 (i + 3))
  have hP2 : ∀ a k, (r_wp b L (i + 2) a k ∨ (r_lk (r_tl b L (i + 2)) (r_tW b L (i + 2)) 4 = none ∧ a = i + 2 ∧ k = 4)) → a ≤ i + 2 := fun a k z => z.elim (fun z => by have := z.1; omega) (fun z => by omega)
  by_cases q8 : r_tK b L (i + 3) = 8
  rotate_left
  · rw [if_neg q8, if_neg q8, if_pos rfl]
    exact m_wayfin (F := F) hL h hK hn (by omega) k27 k27b c3 (fun a k z => by have := hP2 a k z; omega) x1.symm x2 (fun a h1 h2 => by
      have : a = i + 1 ∨ a = i + 2 := by omega
      rcases this with rfl | rfl <;> omega) fx3 c5 sc3 (by rw [if_neg q8])
  rw [if_pos q8, if_pos q8, if_neg (by decide)]
  have hnx := m_next (F := F) c3 (by omega) (by omega)
  cases hpp : r_pass (i + 3) with
  | error z =>
    rw [hpp] at hnx
    obtain ⟨V4, d1, d2⟩ := hnx
    have hme : r_me b L sd z.1 z.2 V V4 := r_me_pre fx3 d2
    have hmf4 := r_me_mf hme hs
    obtain ⟨V5, e1, e2⟩ := m_nn_x (F := F) (0 : Int32) hmf4
    have hmf5 := r_mx_mf hmf4 e2
    obtain ⟨V6, g1, g2⟩ := m_b448_x (F := F) (nI 5) (nI (r_cn (r_tK b L) 5 i)) (nI (i + 1)) (nI (r_nq b L (i + 1))) (nI (i + 2)) (nI (r_nq b L (i + 2))) 0 hmf5
    rw [d1, y_bd, e1, y_bd]
    dsimp only
    rw [g1]
    exact ⟨V6, rfl, r_me_trans hme (r_mx_trans e2 g2)⟩
  | ok i4 =>
  rw [hpp] at hnx
  obtain ⟨d1, d2, d3⟩ := hnx
  obtain ⟨rfl, hi997⟩ := r_pass_ok hpp
  have hw5 := m_nn (F := F) (by omega) hL d2 (fun a k z => by have := hP2 a k z; omega) (s := 0) (by omega)
  rw [d1, y_bd]
  show r_po b L M sd i cc V _ (r_b (r_need (r_tK b L) 27 (i + 3 + 1)) (r_need (r_tK b L) 29))
  cases hp5 : r_need (r_tK b L) 27 (i + 3 + 1) with
  | error z =>
    rw [hp5] at hw5
    obtain ⟨V5, x, e1, e2⟩ := hw5
    have e1 : fX12_namedNext F (zsI V3 0 11 (nI (i + 3 + 1))) 0 = some (x, V5) := e1
    have hme : r_me b L sd z.1 z.2 V V5 := r_me_pre (r_fx_trans fx3 d3) e2
    have hmf5 := r_me_mf hme hs
    obtain ⟨V6, g1, g2⟩ := m_b448_x (F := F) (nI 5) (nI (r_cn (r_tK b L) 5 i)) (nI (i + 1)) (nI (r_nq b L (i + 1))) (nI (i + 2)) (nI (r_nq b L (i + 2))) x hmf5
    rw [e1, y_bd]
    dsimp only
    rw [g1]
    exact ⟨V6, rfl, r_me_trans hme g2⟩
  | ok i5 =>
  rw [hp5] at hw5
  obtain ⟨V5, e1, e2, e3⟩ := hw5
  obtain ⟨k27c, rfl, hi996⟩ := r_need_ok hp5
  have e1 : fX12_namedNext F (zsI V3 0 11 (nI (i + 3 + 1))) 0 = some (nI ((r_lk (r_tl b L (i + 2)) (r_tW b L (i + 3 + 1)) 0).getD 0), V5) := e1
  have hro5 : r_ro (r_tK b L) (i + 3 + 1) = 0 := by
    unfold r_ro
    rw [show i + 3 + 1 - 1 = i + 3 by omega, q8]; rfl
  obtain ⟨u5, u6⟩ := r_quiet (b := b) (L := L) (i := i + 3) (by omega) (by omega)
  obtain ⟨u7, u8⟩ := r_use (b := b) (L := L) (i := i + 3 + 1) k27c hro5 (by decide) (by rw [show i + 3 + 1 - 1 = i + 3 by omega]; omega)
  have etl : r_tl b L (i + 3 + 1) = r_tl b L (i + 2) := u5.trans x1
  have enq : (r_lk (r_tl b L (i + 2)) (r_tW b L (i + 3 + 1)) 0).getD 0 = r_nq b L (i + 4) := by
    unfold r_nq
    rw [show i + 4 = i + 3 + 1 from rfl, hro5, etl]
  rw [e1, y_bd]
  dsimp only
  show r_po b L M sd i cc V _ (r_need (r_tK b L) 29 (i + 3 + 1 + 1))
  refine m_wayfin (F := F) hL h hK hn (by omega) k27 k27b e2 (fun a k z => z.elim (fun z => by have := hP2 a k z; omega) (fun z => by omega)) (u7.trans etl).symm (fun a k => ?_) (fun a h1 h2 => ?_) (r_fx_trans (r_fx_trans fx3 d3) (r_fx_trans (r_fx_I (k := 11) r_fx_refl (show 11 ∈ r_sc by decide)) (r_sw_fx e3))) (fun r => ?_) (fun k h1 h2 h3 => ?_) (by rw [if_pos q8, enq])
  · rw [u8 a k, u6 a k, x2 a k, etl]
    constructor
    · rintro ((z | z) | z)
      · exact Or.inl (Or.inl z)
      · exact Or.inr z
      · exact Or.inl (Or.inr z)
    · rintro ((z | z) | z)
      · exact Or.inl (Or.inl z)
      · exact Or.inr z
      · exact Or.inl (Or.inr z)
  · have : a = i + 1 ∨ a = i + 2 ∨ a = i + 3 ∨ a = i + 3 + 1 := by omega
    rcases this with rfl | rfl | rfl | rfl <;> omega
  · rw [e3.2.1 r]
    exact c5 r
  · rw [e3.1 0 k (fun z => by omega), y_get.1, if_neg (fun z => h1 z.2), y_get.1, if_neg (fun z => h1 z.2)]
    exact sc3 k h1 h2 h3
/-- a part -/
theorem m_tpart {i cc : Nat} (hF : 1200 ≤ F) (hL : L ≤ 4000) (h : r_rs b L M sd i cc V) (hk6 : r_tK b L i ≤ 6) : r_po b L M sd i cc V (fX12_tellPart F V) (r_part (r_tK b L) i) := by
  obtain ⟨h1, h12, hkt, hcc, hnr, htb, hcn, h80⟩ := id h
  have hs := h1.2.2.1
  have hsd := hs.2
  have lt := r_ms_lt h1
  have h7 : ∀ k, r_tK b L i = k → fX12_tellPart F V = fX12_tellPart_b31 F V (nI k) := by
    intro k hk
    rw [fX12_tellPart, h1.2.1.1]
    simp only [y_ck (show i < 1003 by omega) (show 1003 < 2 ^ 31 by decide), nI_clamp (show i < 2 ^ 31 by omega), m_kt h1, hk]
    have : k = 0 ∨ k = 1 ∨ k = 2 ∨ k = 3 ∨ k = 4 ∨ k = 5 ∨ k = 6 := by omega
    rcases this with rfl | rfl | rfl | rfl | rfl | rfl | rfl <;> rfl
  generalize hk : r_tK b L i = k at hk6
  rw [h7 k hk, fX12_tellPart_b31]
  have hcnk := hcn k (by omega)
  have full := m_full (F := F) (s := k) (m := r_max k) (by omega) hs.1 hs.2 (htb.1.1 k (by omega)) (by rw [if_neg (show ¬ k = 8 by omega)]; rfl) (by have := r_cn_le (K := r_tK b L) (w := k) i; omega)
  have hcnk : r_cn (r_tK b L) k i ≤ r_max k := hcnk
  have erm : r_room k = r_max k := r_room_max ⟨k, by omega⟩
  rw [full, y_bd]
  by_cases qf : r_cn (r_tK b L) k i = r_max k
  · rw [if_pos qf, if_neg (by decide), show (2 : Int32) = nI 2 from rfl, m_fail h1, y_bd]
    have hme := m_fail_me h1 (f := 2) (Or.inr rfl)
    obtain ⟨V2, d1, d2⟩ := m_b45_x (F := F) (nI k) _ (r_me_mf hme hs)
    have er : r_part (r_tK b L) i = .error (2, i) := by
      unfold r_part r_newo
      rw [hk, erm, if_neg (by omega)]; rfl
    rw [er]
    exact ⟨V2, d1, r_me_trans hme d2⟩
  have hn : r_cn (r_tK b L) k i < r_max k := by omega
  rw [if_neg qf, if_pos rfl, fX12_tellPart_b45]
  have er : r_part (r_tK b L) i = r_b (r_pass i) fun j => r_b (r_need (r_tK b L) 27 j) fun j =>
      if k = 0 ∨ k = 1 ∨ k = 6 then r_b (r_need (r_tK b L) 28 j) (r_need (r_tK b L) 29)
      else if k = 2 ∨ k = 3 then r_b (r_need (r_tK b L) 27 j) (r_need (r_tK b L) 29)
      else if k = 5 then r_b (r_need (r_tK b L) 27 j) fun j => if r_tK b L j = 8 then r_b (r_pass j) fun j => r_b (r_need (r_tK b L) 27 j) (r_need (r_tK b L) 29) else r_need (r_tK b L) 29 j
      else r_need (r_tK b L) 29 j := by
    unfold r_part r_newo
    rw [hk, erm, if_pos hn]
  rw [er]
  by_cases hi : i < 1000
  rotate_left
  · rw [m_next_e h1 hi, y_bd]
    have hme := m_fail_me h1 (f := 2) (Or.inr rfl)
    unfold r_pass
    rw [if_neg hi, if_neg (r_mf_ne (r_me_mf hme hs)).1]
    exact ⟨_, rfl, hme⟩
  obtain ⟨n1, n2⟩ := m_nextq (F := F) h1 (by omega) (by omega) (by omega) (by omega) hi
  have e19 : zI (zsI V 0 11 (nI (i + 1))) 0 19 = nI sd := hs.1
  have e11 : zI (zsI V 0 11 (nI (i + 1))) 0 11 = nI (i + 1) := rfl
  have e8 : zA (zsI V 0 11 (nI (i + 1))) 8 (9 * sd + k) = nI (r_cn (r_tK b L) k i) := htb.1.1 k (by omega)
  unfold r_pass
  rw [if_pos hi, n1, y_bd, if_pos (show zI (zsI V 0 11 (nI (i + 1))) 0 13 ≤ 0 by rw [n2.2.1.2.1]; decide), e19, show (9 : Int32) = nI 9 from rfl, pk_mul, nI_add, y_ck (by omega) (by decide), y_let, nI_clamp (by omega), e8, e11]
  have ne : ∀ a c : Nat, a ≤ 6 → c ≤ 6 → ¬ a = c → ¬ nI a = nI c := fun a c ha hc hne z => hne ((nI_eq (by omega) (by omega)).mp z)
  have h0 : k = 0 ∨ k = 1 ∨ k = 2 ∨ k = 3 ∨ k = 4 ∨ k = 5 ∨ k = 6 := by omega
  rcases h0 with rfl | rfl | rfl | rfl | rfl | rfl | rfl
  · exact m_num hF hL h hk (Or.inl rfl) hn hi
  · exact m_num hF hL h hk (Or.inr (Or.inl rfl)) hn hi
  · exact m_apart1 hF hL h hk hn hi
  · exact m_lamp1 hF hL h hk hn hi
  · exact m_place hF hL h hk hn hi
  · exact m_way1 hF hL h hk hn hi
  · exact m_num hF hL h hk (Or.inr (Or.inr rfl)) hn hi
end
