/-! ===== parts in the reference: apart, way ===== -/
section
variable {F : Nat} {b : Nat → Nat} {L M sd : Nat} {V : zV}
/-- two names -/
theorem m_two {i s k : Nat} {V1 : zV} (hF : 1200 ≤ F) (hL : L ≤ 4000) (m1 : r_mr b L M sd (i + 1) V1) (hK : r_tK b L i = k) (hk : (k = 2 ∧ s = 1) ∨ (k = 5 ∧ s = 4)) :
    match r_b (r_need (r_tK b L) 27 (i + 1)) (r_need (r_tK b L) 27) with
      | .error (f, j) => ∃ V2 V3 x y, fX12_namedNext F V1 (nI s) = some (x, V2) ∧ fX12_namedNext F V2 (nI s) = some (y, V3) ∧ r_me b L sd f j V1 V3
      | .ok e => e = i + 3 ∧ ∃ V2 V3, fX12_namedNext F V1 (nI s) = some (nI (r_nq b L (i + 1)), V2) ∧ fX12_namedNext F V2 (nI s) = some (nI (r_nq b L (i + 2)), V3) ∧ zI V2 0 11 = nI (i + 2) ∧ r_tK b L (i + 1) = 27 ∧ r_tK b L (i + 2) = 27 ∧ r_ms b L M sd (i + 3) (r_tl b L (i + 2)) (fun a k => r_wp b L (i + 2) a k ∨ (r_lk (r_tl b L (i + 2)) (r_tW b L (i + 2)) s = none ∧ a = i + 2 ∧ k = 4)) V3 ∧
        r_fx sd V1 V3 ∧ (∀ r, zA V3 r = zA V1 r) ∧ (∀ r, zB V3 r = zB V1 r) ∧ (∀ k, ¬ k = 11 → ¬ k = 15 → ¬ k = 16 → zI V3 0 k = zI V1 0 k) ∧ r_ro (r_tK b L) (i + 2) = s := by
  have hs := m1.2.2.1
  have hs7 : s < 7 := by omega
  have hw2 := m_nn (F := F) (by omega) hL m1 (fun a k z => z.1) (s := s) (by omega)
  have hro1 : r_ro (r_tK b L) (i + 1) = s := by
    unfold r_ro
    rw [show i + 1 - 1 = i by omega, hK]
    rcases hk with ⟨rfl, rfl⟩ | ⟨rfl, rfl⟩ <;> rfl
  cases hp2 : r_need (r_tK b L) 27 (i + 1) with
  | error z =>
    rw [hp2] at hw2
    obtain ⟨V2, x, b1, b2⟩ := hw2
    have hmf := r_me_mf b2 hs
    obtain ⟨V3, c1, c2⟩ := m_nn_x (F := F) (nI s) hmf
    exact ⟨V2, V3, x, 0, b1, c1, r_me_trans b2 c2⟩
  | ok i2 =>
  rw [hp2] at hw2
  obtain ⟨V2, b1, b2, b3⟩ := hw2
  obtain ⟨k27, rfl, hi998⟩ := r_need_ok hp2
  obtain ⟨u1, u2⟩ := r_use (b := b) (L := L) (i := i + 1) k27 hro1 hs7 (by rw [show i + 1 - 1 = i by omega]; omega)
  have m2 : r_mr b L M sd (i + 1 + 1) V2 := r_mr_P b2 u1.symm u2
  have hw3 := m_nn (F := F) (by omega) hL m2 (fun a k z => z.1) (s := s) (by omega)
  have hro2 : r_ro (r_tK b L) (i + 1 + 1) = s := by
    unfold r_ro
    rw [show i + 1 + 1 - 1 = i + 1 by omega, show i + 1 + 1 - 2 = i by omega, k27, hK]
    rcases hk with ⟨rfl, rfl⟩ | ⟨rfl, rfl⟩ <;> rfl
  show match r_need (r_tK b L) 27 (i + 1 + 1) with
      | .error (f, j) => _
      | .ok e => _
  have fx2 : r_fx sd V1 V2 := r_fx_trans (r_fx_I (k := 11) r_fx_refl (show 11 ∈ r_sc by decide)) (r_sw_fx b3)
  cases hp3 : r_need (r_tK b L) 27 (i + 1 + 1) with
  | error z =>
    rw [hp3] at hw3
    obtain ⟨V3, x, c1, c2⟩ := hw3
    exact ⟨V2, V3, _, x, b1, c1, r_me_pre fx2 c2⟩
  | ok i3 =>
  rw [hp3] at hw3
  obtain ⟨V3, c1, c2, c3⟩ := hw3
  obtain ⟨k27b, rfl, hi997⟩ := r_need_ok hp3
  have e1 : r_nq b L (i + 1) = (r_lk (r_tl b L (i + 1)) (r_tW b L (i + 1)) s).getD 0 := by unfold r_nq; rw [hro1]
  have e2 : r_nq b L (i + 2) = (r_lk (r_tl b L (i + 1 + 1)) (r_tW b L (i + 1 + 1)) s).getD 0 := by unfold r_nq; rw [show i + 2 = i + 1 + 1 from rfl, hro2]
  refine ⟨rfl, V2, V3, by rw [e1]; exact b1, by rw [e2]; exact c1, m2.2.1.1, k27, k27b, c2, r_fx_trans fx2 (r_fx_trans (r_fx_I (k := 11) r_fx_refl (show 11 ∈ r_sc by decide)) (r_sw_fx c3)), fun r => ?_, fun r => ?_, fun k h1 h2 h3 => ?_, hro2⟩
  · rw [c3.2.1 r]
    show zA V2 r = _
    rw [b3.2.1 r]; rfl
  · rw [c3.2.2.1 r]
    show zB V2 r = _
    rw [b3.2.2.1 r]; rfl
  · rw [c3.1 0 k (fun z => by omega), y_get.1, if_neg (fun z => h1 z.2), b3.1 0 k (fun z => by omega), y_get.1, if_neg (fun z => h1 z.2)]
theorem m_apart1 {i cc : Nat} (hF : 1200 ≤ F) (hL : L ≤ 4000) (h : r_rs b L M sd i cc V) (hK : r_tK b L i = 2) (hn : r_cn (r_tK b L) 2 i < r_max 2) (hi : i < 1000) :
    r_po b L M sd i cc V (zbd (fX12_namedNext F (zsI V 0 11 (nI (i + 1))) 1) fun q72 => zbd (fX12_namedNext F q72.2 1) fun q74 => zbd (fX12_must F q74.2 4) fun q76 => if (zI q76 0 13) ≤ 0 then (zchk (zix (nI (i + 1)) 1003) <| zchk (zix (zI q72.2 0 11) 1003) <| if (lg_cmp (zB q76 6 (nI (i + 1)).toNatClampNeg) (zB q76 6 ((zI q72.2 0 11)).toNatClampNeg)) = 0 then (zbd (fX12_wrong F q76 5 (zI q72.2 0 11)) fun q82 => fX12_tellPart_b293 F q82 (nI 2) (nI (r_cn (r_tK b L) 2 i)) q72.1 q74.1) else fX12_tellPart_b293 F q76 (nI 2) (nI (r_cn (r_tK b L) 2 i)) q72.1 q74.1) else some q76) (r_b (r_need (r_tK b L) 27 (i + 1)) fun j => r_b (r_need (r_tK b L) 27 j) (r_need (r_tK b L) 29)) := by
  obtain ⟨h1, h12, hkt, hcc, hnr, htb, hcn, h80⟩ := id h
  have hs := h1.2.2.1
  have hsd := hs.2
  have m1 := r_rs_1 h (by omega) hi
  have fx1 : r_fx sd V (zsI V 0 11 (nI (i + 1))) := r_fx_I r_fx_refl (by decide)
  have hn8 : r_cn (r_tK b L) 2 i < 8 := hn
  have hw := m_two (F := F) hF hL m1 hK (Or.inl ⟨rfl, rfl⟩)
  have er : (r_b (r_need (r_tK b L) 27 (i + 1)) fun j => r_b (r_need (r_tK b L) 27 j) (r_need (r_tK b L) 29)) = r_b (r_b (r_need (r_tK b L) 27 (i + 1)) (r_need (r_tK b L) 27)) (r_need (r_tK b L) 29) := (r_b_assoc _ _ _).symm
  rw [er]
  cases hp : r_b (r_need (r_tK b L) 27 (i + 1)) (r_need (r_tK b L) 27) with
  | error z =>
    rw [hp] at hw
    obtain ⟨V2, V3, x, y, b1, c1, d1⟩ := hw
    have hme : r_me b L sd z.1 z.2 V V3 := r_me_pre fx1 d1
    have hmf3 := r_me_mf hme hs
    obtain ⟨V4, g1, g2⟩ := m_must_x (F := F) (4 : Int32) V3 hmf3
    have g1 : fX12_must F V3 4 = some V4 := g1
    have b1 : fX12_namedNext F (zsI V 0 11 (nI (i + 1))) 1 = some (x, V2) := b1
    have c1 : fX12_namedNext F V2 1 = some (y, V3) := c1
    rw [b1, y_bd]
    dsimp only
    rw [c1, y_bd]
    dsimp only
    rw [g1, y_bd, if_neg (r_mf_ne (r_mx_mf hmf3 g2)).1]
    exact ⟨V4, rfl, r_me_trans hme g2⟩
  | ok i3 =>
  rw [hp] at hw
  obtain ⟨rfl, V2, V3, b1, c1, c2, k27, k27b, c3, c4, c5, c6, c7, hro2⟩ := hw
  have b1 : fX12_namedNext F (zsI V 0 11 (nI (i + 1))) 1 = some (nI (r_nq b L (i + 1)), V2) := b1
  have c1 : fX12_namedNext F V2 1 = some (nI (r_nq b L (i + 2)), V3) := c1
  have hw4 := m_must (F := F) c3 (k := 29) (x := 4) (by decide) rfl
  have fx3 : r_fx sd V V3 := r_fx_trans fx1 c4
  rw [b1, y_bd]
  dsimp only
  rw [c1, y_bd]
  dsimp only
  show r_po b L M sd i cc V _ (r_need (r_tK b L) 29 (i + 3))
  cases hp4 : r_need (r_tK b L) 29 (i + 3) with
  | error z =>
    rw [hp4] at hw4
    obtain ⟨V4, d1, d2⟩ := hw4
    have hme : r_me b L sd z.1 z.2 V V4 := r_me_pre fx3 d2
    rw [d1, y_bd, if_neg (r_mf_ne (r_me_mf hme hs)).1]
    exact ⟨V4, rfl, hme⟩
  | ok e =>
  rw [hp4] at hw4
  obtain ⟨d1, d2, -⟩ := hw4
  obtain ⟨k29, rfl, hi996⟩ := r_need_ok hp4
  have lt4 := r_ms_lt d2
  generalize hV4 : zsI V3 0 11 (nI (i + 3 + 1)) = V4 at d1 d2
  have fx4 : r_fx sd V V4 := by rw [← hV4]; exact r_fx_I fx3 (by decide)
  have row4 : ∀ r, zA V4 r = zA V r := fun r => by rw [← hV4]; exact c5 r
  have sc4 : ∀ k, ¬ k = 11 → ¬ k = 15 → ¬ k = 16 → zI V4 0 k = zI V 0 k := fun k hk h15 h16 => by
    rw [← hV4, y_get.1, if_neg (fun z => hk z.2), c7 k hk h15 h16, y_get.1, if_neg (fun z => hk z.2)]
  have same := m_same (i := i + 1) (j := i + 2) d2 (by omega) (by omega) k27 k27b
  obtain ⟨x1, x2⟩ := r_second (b := b) (L := L) (j := i + 2) k27b hro2 (by decide) (by rw [show i + 2 - 1 = i + 1 by omega]; exact k27) (by rw [show i + 2 - 2 = i by omega]; exact Or.inl hK)
  rw [show i + 2 - 1 = i + 1 by omega] at x2
  obtain ⟨u5, u6⟩ := r_quiet (b := b) (L := L) (i := i + 3) (by omega) (by omega)
  have hin : ∀ a, i < a → a < i + 3 + 1 → r_tK b L a = 27 ∨ r_tK b L a = 28 ∨ r_tK b L a = 29 ∨ r_tK b L a = 8 := by
    intro a h1 h2
    have : a = i + 1 ∨ a = i + 2 ∨ a = i + 3 := by omega
    rcases this with rfl | rfl | rfl <;> omega
  have fin : ∀ V5, r_mr b L M sd (i + 3 + 1) V5 → r_fx sd V V5 → (∀ r, zA V5 r = zA V r) → (∀ k, ¬ k = 11 → ¬ k = 15 → ¬ k = 16 → zI V5 0 k = zI V 0 k) → r_po b L M sd i cc V (fX12_tellPart_b293 F V5 (nI 2) (nI (r_cn (r_tK b L) 2 i)) (nI (r_nq b L (i + 1))) (nI (r_nq b L (i + 2)))) (.ok (i + 3 + 1)) := by
    intro V5 m5 fx5 row5 sc5
    have e19 : zI V5 0 19 = nI sd := m5.2.2.1.1
    have e19' : ∀ f, zI (zsA V5 14 f) 0 19 = nI sd := fun _ => e19
    have e15 : ∀ f, zA (zsA V5 14 f) 15 = zA V5 15 := fun _ => rfl
    rw [fX12_tellPart_b293]
    simp only [e19, e19', e15, show (8 : Int32) = nI 8 from rfl, pk_mul, nI_add, y_ck (show 8 * sd + r_cn (r_tK b L) 2 i < 16 by omega) (show 16 < 2 ^ 31 by decide), y_let, nI_clamp (show 8 * sd + r_cn (r_tK b L) 2 i < 2 ^ 31 by omega)]
    have fx6 : r_fx sd V5 (zsA (zsA V5 14 (upd (zA V5 14) (8 * sd + r_cn (r_tK b L) 2 i) (nI (r_nq b L (i + 1))))) 15 (upd (zA V5 15) (8 * sd + r_cn (r_tK b L) 2 i) (nI (r_nq b L (i + 2))))) :=
      r_fx_H (V' := zsA V5 14 (upd (zA V5 14) (8 * sd + r_cn (r_tK b L) 2 i) (nI (r_nq b L (i + 1))))) (k := r_cn (r_tK b L) 2 i) (r_fx_H (k := r_cn (r_tK b L) 2 i) r_fx_refl (by decide) (by rw [show r_hs 14 = 8 from rfl, Nat.mul_comm]) hn8) (by decide) (by rw [show r_hs 15 = 8 from rfl, Nat.mul_comm]) hn8
    have m6 := r_ms_eq m5 fx6 m5.2.1.1 m5.2.1.2.1 m5.2.1.2.2 rfl rfl rfl rfl rfl rfl
    have rowE : ∀ r, zA (zsA (zsA V5 14 (upd (zA V5 14) (8 * sd + r_cn (r_tK b L) 2 i) (nI (r_nq b L (i + 1))))) 15 (upd (zA V5 15) (8 * sd + r_cn (r_tK b L) 2 i) (nI (r_nq b L (i + 2))))) r = if r = 15 then upd (zA V5 15) (8 * sd + r_cn (r_tK b L) 2 i) (nI (r_nq b L (i + 2))) else if r = 14 then upd (zA V5 14) (8 * sd + r_cn (r_tK b L) 2 i) (nI (r_nq b L (i + 1))) else zA V5 r := fun _ => rfl
    obtain ⟨V', q1, q2, q3⟩ := m_partfin (F := F) h hK (by omega) hn (by omega) hin m6 (r_fx_trans fx5 fx6) (fun w hw => sc5 w (by omega) (by omega) (by omega)) (fun r hr hr2 => by
      rw [rowE, if_neg (fun z => hr2 (by subst z; exact ⟨by decide, by decide, rfl⟩)), if_neg (fun z => hr2 (by subst z; exact ⟨by decide, by decide, rfl⟩)), row5]) (fun r h1 h2 hr => by
      have : ∀ r : Fin 23, 12 ≤ r.1 → r_kr r.1 = 2 → r.1 = 14 ∨ r.1 = 15 := by decide +kernel
      have er := this ⟨r, by omega⟩ h1 hr
      dsimp only at er
      rcases er with rfl | rfl
      · refine ⟨fun m hm => ?_, ?_⟩
        · rw [rowE, if_neg (by decide), if_pos rfl, y_upd, if_neg (by rw [show sd * r_hs 14 = 8 * sd from Nat.mul_comm _ _] at hm; exact hm), row5]
        · rw [rowE, if_neg (by decide), if_pos rfl, y_upd, if_pos (by rw [show sd * r_hs 14 = 8 * sd from Nat.mul_comm _ _])]
          unfold r_val
          rw [if_pos (by decide)]
      · refine ⟨fun m hm => ?_, ?_⟩
        · rw [rowE, if_pos rfl, y_upd, if_neg (by rw [show sd * r_hs 15 = 8 * sd from Nat.mul_comm _ _] at hm; exact hm), row5]
        · rw [rowE, if_pos rfl, y_upd, if_pos (by rw [show sd * r_hs 15 = 8 * sd from Nat.mul_comm _ _])]
          unfold r_val
          rw [if_neg (by decide), if_pos (by decide)])
    exact ⟨V', q1, q2, q3, by omega, hin⟩
  rw [d1, y_bd, if_pos (show zI V4 0 13 ≤ 0 by rw [d2.2.1.2.1]; decide), c2, y_ck (by omega) (by decide), y_ck (by omega) (by decide), nI_clamp (by omega), nI_clamp (by omega)]
  by_cases qs : r_tW b L (i + 2) = r_tW b L (i + 1)
  · obtain ⟨V5, p1, p2, p3⟩ := m_wrong (F := F) hL d2 (fun a k z => z.elim (fun z => by have := z.1; omega) (fun z => by omega)) (j := i + 2) (k := 5) (by omega) (by decide) (by decide)
    have p1 : fX12_wrong F V4 5 (nI (i + 2)) = some V5 := p1
    rw [if_pos (same.mpr qs), p1, y_bd]
    have m5 : r_mr b L M sd (i + 3 + 1) V5 := r_mr_P (r_ms_tl p2 x1.symm fun a k => (x2 a k).trans ⟨fun z => z.imp id fun z => z.2, fun z => z.imp id fun z => ⟨qs, z⟩⟩) u5.symm u6
    exact fin V5 m5 (r_fx_trans fx4 (r_sw_fx p3)) (fun r => (p3.2.1 r).trans (row4 r)) (fun k h1 h2 h3 => (p3.1 0 k (fun z => by omega)).trans (sc4 k h1 h2 h3))
  · rw [if_neg (fun z => qs (same.mp z))]
    have m5 : r_mr b L M sd (i + 3 + 1) V4 := r_mr_P (r_ms_tl d2 x1.symm fun a k => (x2 a k).trans ⟨fun z => z.elim id fun z => absurd z.1 qs, Or.inl⟩) u5.symm u6
    exact fin V4 m5 fx4 row4 sc4
end
