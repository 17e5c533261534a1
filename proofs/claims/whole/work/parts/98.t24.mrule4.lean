/-! ===== a RULE in the reference, put together ===== -/
section
variable {F : Nat} {b : Nat → Nat} {L M sd : Nat} {V : zV}
theorem r_mC_same {cr cm : Nat} {V' : zV} {vars : Nat → Int32} {left ip : Int32} (hs : ∀ r, (r = 27 ∨ r = 28 ∨ r = 29 ∨ r = 30) → ∀ k, k < 400 * sd + cr → zA V' r k = zA V r k) (hc : ∀ k, k < 1200 * sd + cm → zA V' 37 k = zA V 37 k ∧ zA V' 38 k = zA V 38 k) (hsd : sd ≤ 1) (hcm : cm ≤ 1200) : ∀ (n k : Nat), k + n ≤ cr → (∀ j, k ≤ j → j < k + n → r_mkh sd cm V (400 * sd + j)) → y_mC V' vars left ip n (400 * sd + k) = y_mC V vars left ip n (400 * sd + k) := by
  intro n
  induction n with
  | zero => intro k _ _; rfl
  | succ n ih =>
    intro k hk hm
    obtain ⟨a, c, d, s, h1, h2, h3, h4, h5, h6, h7, h8, h9⟩ := hm k (Nat.le_refl _) (by omega)
    have e := fun r hr => hs r hr (400 * sd + k) (by omega)
    have e1 : ∀ a c, c ≤ 1200 * sd + cm → y_mE V' vars left ip a c = y_mE V vars left ip a c := fun a c hc' => r_mE_same fun j hj => hc j (by omega)
    rw [y_mC, y_mC, e 28 (by omega), e 29 (by omega), e 30 (by omega), e 27 (by omega), h5, h6, h7, nI_clamp (by omega), nI_clamp (by omega), nI_clamp (by omega), e1 _ _ (by omega), e1 _ _ (by omega), show 400 * sd + k + 1 = 400 * sd + (k + 1) by omega, ih (k + 1) (by omega) fun j h1 h2 => hm j (by omega) (by omega)]
theorem r_cs_same {i e cr cr' cm : Nat} {V' : zV} (h : r_cs b L sd i e cr cr' cm V) (hcr : cr ≤ cr') (hs : ∀ r, (r = 27 ∨ r = 28 ∨ r = 29 ∨ r = 30) → ∀ k, k < 400 * sd + cr' → zA V' r k = zA V r k) (hc : ∀ k, k < 1200 * sd + cm → zA V' 37 k = zA V 37 k ∧ zA V' 38 k = zA V 38 k) (hsd : sd ≤ 1) (hcm : cm ≤ 1200) : r_cs b L sd i e cr cr' cm V' := by
  refine ⟨fun k h1 h2 => r_mkh_gg (h.1 k h1 h2) fun r hr => hs r hr _ (by omega), fun E T hT hE hfol vars left ip n hn => ?_⟩
  obtain ⟨x, x1, x2⟩ := h.2 E T hT hE hfol vars left ip n hn
  exact ⟨x, x1, by rw [r_mC_same hs hc hsd hcm (cr' - cr) cr (by omega) fun j h1 h2 => h.1 j h1 (by omega)]; exact x2⟩
theorem r_cs_cm {i e cr cr' cm cm' : Nat} (h : r_cs b L sd i e cr cr' cm V) (hc : cm ≤ cm') : r_cs b L sd i e cr cr' cm' V := by
  refine ⟨fun k h1 h2 => ?_, h.2⟩
  obtain ⟨a, c, d, s, g1, g2, g3, g4, g5⟩ := h.1 k h1 h2
  exact ⟨a, c, d, s, g1, g2, g3, by omega, g5⟩
theorem r_al_cm {i s cm cm' : Nat} (h : r_al b L sd i s cm V) (hc : cm ≤ cm') : r_al b L sd i s cm' V := by
  refine ⟨fun m h1 h2 h3 => ?_, h.2⟩
  obtain ⟨e, e1, e2, e3, e4⟩ := h.1 m h1 h2 h3
  exact ⟨e, e1, e2, e3, r_ac_cm e4 hc⟩
theorem m_trule {i cc : Nat} (hF : 1200 ≤ F) (hL : L ≤ 4000) (h : r_mr b L M sd i V) (hK : r_tK b L i = 11) (h12 : zI V 0 12 = 0) (hk : r_kt sd (r_nr (r_tK b L) i) (r_na (r_tK b L) i) (r_cn (r_tK b L) 18 i) cc V) (hcc : cc ≤ i) (hnr : 3 * r_nr (r_tK b L) i ≤ i) (h8 : zA V 8 (9 * sd + 8) = nI (r_cn (r_tK b L) 11 i)) (hn80 : r_cn (r_tK b L) 11 i ≤ 80) (h16 : ∀ s c, r_lk (r_tl b L i) s 6 = some c → c < 16)
    (hpre : 0 < r_cn (r_tK b L) 11 i → zA V 25 (81 * sd + r_cn (r_tK b L) 11 i) = nI (400 * sd + r_nr (r_tK b L) i) ∧ zA V 26 (81 * sd + r_cn (r_tK b L) 11 i) = nI (1000 * sd + r_na (r_tK b L) i)) :
    match r_rule (r_tK b L) i with
      | .error (f, j) => ∃ V', fX12_tellRule F V = some V' ∧ r_me b L sd f j V V'
      | .ok e => ∃ V' cc' c, fX12_tellRule F V = some V' ∧ r_mr b L M sd e V' ∧ zI V' 0 12 = 0 ∧ r_gr sd (r_cn (r_tK b L) 11 i) (r_nr (r_tK b L) i) (r_na (r_tK b L) i) (r_cn (r_tK b L) 18 i) cc V V' ∧ r_kt sd (r_nr (r_tK b L) e) (r_na (r_tK b L) e) (r_cn (r_tK b L) 18 e) cc' V' ∧ cc ≤ cc' ∧ cc' ≤ e ∧ 3 * r_nr (r_tK b L) e ≤ e ∧ zA V' 8 (9 * sd + 8) = nI (r_cn (r_tK b L) 11 e) ∧ r_tl b L e = r_tl b L i ∧ r_sh (r_tK b L) i c (e - 1) ∧ r_ru b L sd i c (e - 1) cc' V' ∧
        zA V' 25 (81 * sd + r_cn (r_tK b L) 11 e) = nI (400 * sd + r_nr (r_tK b L) e) ∧ zA V' 26 (81 * sd + r_cn (r_tK b L) 11 e) = nI (1000 * sd + r_na (r_tK b L) e) ∧ (0 < r_cn (r_tK b L) 11 i → zA V' 25 (81 * sd + r_cn (r_tK b L) 11 i) = zA V 25 (81 * sd + r_cn (r_tK b L) 11 i) ∧ zA V' 26 (81 * sd + r_cn (r_tK b L) 11 i) = zA V 26 (81 * sd + r_cn (r_tK b L) 11 i)) ∧ i < e ∧ r_cn (r_tK b L) 11 e = r_cn (r_tK b L) 11 i + 1 := by
  have lt := r_ms_lt h
  have hs := h.2.2.1
  have hsd := hs.2
  by_cases qn : r_cn (r_tK b L) 11 i < 80
  rotate_left
  · -- no more room
    have e80 : r_cn (r_tK b L) 11 i = 80 := by omega
    have full := m_full (F := F) (s := 8) (m := 80) (by decide) hs.1 hs.2 h8 rfl (by omega)
    have full : fX12_isFull F V 8 = some (if r_cn (r_tK b L) 11 i = 80 then 1 else 0) := full
    have hme := m_fail_me h (f := 2) (Or.inr rfl)
    obtain ⟨V2, d1, d2⟩ := m_b23_x (F := F) _ (r_me_mf hme hs)
    have er : r_rule (r_tK b L) i = .error (2, i) := by
      unfold r_rule r_newo
      rw [if_neg qn]; rfl
    rw [er]
    refine ⟨V2, ?_, r_me_trans hme d2⟩
    rw [fX12_tellRule, m_is h (k := 11) (x := 31) (by decide) rfl, y_bd, if_pos hK, if_neg (by decide), full, y_bd, if_pos e80, if_neg (by decide), show (2 : Int32) = nI 2 from rfl, m_fail h, y_bd, d1]
  obtain ⟨V1, a1, a2⟩ := m_rule1 (F := F) hF hL h hK h12 hk h8 qn
  have er : r_rule (r_tK b L) i = r_b (r_b (r_pass i) fun j => if r_tK b L j = 12 ∨ r_tK b L j = 13 then r_pass j else r_need (r_tK b L) 27 j) fun j => r_b (if r_tK b L j = 14 then r_b (r_pass j) (r_cnd (r_tK b L) 1001) else .ok j) fun j => r_b (r_need (r_tK b L) 30 j) fun j => r_b (r_act (r_tK b L) j) (r_actsS (r_tK b L) 13 1) := by
    unfold r_rule r_newo
    rw [if_pos qn, r_b_assoc]
  rw [er]
  cases hx1 : (r_b (r_pass i) fun j => if r_tK b L j = 12 ∨ r_tK b L j = 13 then r_pass j else r_need (r_tK b L) 27 j) with
  | error z =>
    rw [hx1] at a2
    by_cases qi : i < 1000
    · obtain ⟨V2, d1, d2⟩ := m_b120_x (F := F) (n := r_cn (r_tK b L) 11 i) (by omega) qn V1 (r_me_mf a2 hs)
      rw [if_pos ⟨hK, qi⟩] at a1
      exact ⟨V2, a1.trans d1, r_me_trans a2 d2⟩
    · rw [if_neg (fun z => qi z.2)] at a1
      exact ⟨V1, a1, a2⟩
  | ok e1 =>
    rw [hx1] at a2
    obtain ⟨rfl, m1, g12, hk1, f1, r24, r8, r25, r26, tl1⟩ := a2
    have hi2 : i < 1000 ∧ (r_tK b L (i + 1) = 12 ∨ r_tK b L (i + 1) = 13 ∨ r_tK b L (i + 1) = 27) := by
      obtain ⟨j, h1, h2⟩ := r_b_ok hx1
      obtain ⟨rfl, h3⟩ := r_pass_ok h1
      refine ⟨h3, ?_⟩
      split at h2
      · omega
      · exact Or.inr (Or.inr (r_need_ok h2).1)
    rw [if_pos ⟨hK, hi2.1⟩] at a1
    have e1nr : r_nr (r_tK b L) (i + 2) = r_nr (r_tK b L) i := r_nr_same (by omega) fun a h1 h2 => by
      have : a = i ∨ a = i + 1 := by omega
      rcases this with rfl | rfl <;> omega
    have e1na : r_na (r_tK b L) (i + 2) = r_na (r_tK b L) i := r_na_same (by omega) fun a h1 h2 => by
      have : a = i ∨ a = i + 1 := by omega
      rcases this with rfl | rfl <;> omega
    have e1cs : r_cn (r_tK b L) 18 (i + 2) = r_cn (r_tK b L) 18 i := r_cn_eq (by omega) fun a h1 h2 => by
      have : a = i ∨ a = i + 1 := by omega
      rcases this with rfl | rfl <;> omega
    rw [a1]
    obtain ⟨V2, b1, b2⟩ := m_rule2 (F := F) (n := r_cn (r_tK b L) 11 i) hF hL m1 g12 (by rw [e1nr, e1na, e1cs]; exact hk1) (by omega) (by omega) (by omega) qn (by rw [tl1]; exact h16)
    rw [b1]
    show match r_b (if r_tK b L (i + 2) = 14 then r_b (r_pass (i + 2)) (r_cnd (r_tK b L) 1001) else .ok (i + 2)) fun j => r_b (r_need (r_tK b L) 30 j) fun j => r_b (r_act (r_tK b L) j) (r_actsS (r_tK b L) 13 1) with
      | .error (f, j) => ∃ V', fX12_tellRule_b175 F V2 (nI (r_cn (r_tK b L) 11 i)) = some V' ∧ r_me b L sd f j V V'
      | .ok e => _
    cases hx2 : (if r_tK b L (i + 2) = 14 then r_b (r_pass (i + 2)) (r_cnd (r_tK b L) 1001) else .ok (i + 2) : r_r) with
    | error z =>
      rw [hx2] at b2
      have hme := r_me_pre f1.1 b2
      obtain ⟨V3, d1, d2⟩ := m_b175_x (F := F) (n := r_cn (r_tK b L) 11 i) (by omega) qn V2 (r_me_mf hme hs)
      exact ⟨V3, d1, r_me_trans hme d2⟩
    | ok c =>
      rw [hx2] at b2
      obtain ⟨c0, m2, p12, f2, q25, q24, q8, tl2, cc2, hk2, hc1, hc2, hc3, hcs, hcn⟩ := b2
      have hcond : ∀ a, i + 2 ≤ a → a < c → r_ek (r_tK b L a) ∨ (37 ≤ r_tK b L a ∧ r_tK b L a ≤ 40) ∨ r_tK b L a = 15 ∨ r_tK b L a = 14 := by
        intro a h1 h2
        by_cases q14 : r_tK b L (i + 2) = 14
        · rw [if_pos q14] at hx2
          obtain ⟨j, h3, h4⟩ := r_b_ok hx2
          obtain ⟨rfl, h5⟩ := r_pass_ok h3
          obtain ⟨l1, l2⟩ := r_cnd_in (b := b) (L := L) 1001 (i + 2 + 1) c (by omega) (by omega) h4 (r_pv_of (by omega))
          by_cases qa : a = i + 2
          · subst qa; exact Or.inr (Or.inr (Or.inr q14))
          · rcases l2 a (by omega) h2 with z | z | z
            · exact Or.inl z
            · exact Or.inr (Or.inl z)
            · exact Or.inr (Or.inr (Or.inl z))
        · have := hcn q14; omega
      have e2na : r_na (r_tK b L) c = r_na (r_tK b L) i := (r_na_same c0 fun a h1 h2 => by have := hcond a h1 h2; unfold r_ek at this; omega).trans e1na
      have e2cs : r_cn (r_tK b L) 18 c = r_cn (r_tK b L) 18 i := (r_cn_eq c0 fun a h1 h2 => by have := hcond a h1 h2; unfold r_ek at this; omega).trans e1cs
      have m3 := m_rule3 (F := F) hF hL m2 p12 hk2 hc2 qn (by rw [q8, r8]; exact h8) (by rw [tl2, tl1]; exact h16)
      show match r_b (r_need (r_tK b L) 30 c) fun j => r_b (r_act (r_tK b L) j) (r_actsS (r_tK b L) 13 1) with
        | .error (f, j) => ∃ V', fX12_tellRule_b175 F V2 (nI (r_cn (r_tK b L) 11 i)) = some V' ∧ r_me b L sd f j V V'
        | .ok e => _
      cases hx3 : (r_b (r_need (r_tK b L) 30 c) fun j => r_b (r_act (r_tK b L) j) (r_actsS (r_tK b L) 13 1)) with
      | error z =>
        rw [hx3] at m3
        obtain ⟨V3, d1, d2⟩ := m3
        exact ⟨V3, d1, r_me_pre f1.1 (r_me_pre f2.1 d2)⟩
      | ok e =>
        rw [hx3] at m3
        obtain ⟨V3, d1, k30, hce, k29, m4, s12, fx3, z1, z2, z3, z4, z5, z6, z7, z8, z9, z10, z11, tl3, nr3, cc3, hk3, hc4, hc5, hal⟩ := m3
        have f3 : r_gr sd (r_cn (r_tK b L) 11 i) (r_nr (r_tK b L) c) (r_na (r_tK b L) c) (r_cn (r_tK b L) 18 c) cc2 V2 V3 :=
          ⟨fx3, z1, fun r h1 h2 => z2 r h1 fun z => h2 ((show ∀ r ∈ [8, 25, 26], r ∈ [8, 24, 25, 26] by decide) r z), z3, z4, z5, fun k _ => by rw [z2 24 (by decide) (by decide)], fun r hr k hk => by
            rcases hr with rfl | rfl
            · exact z7 k (by omega)
            · exact z9 k (by omega) (by omega)⟩
        rw [e1nr, e1na, e1cs] at f2
        have f23 := r_gr_trans f1 f2 (Nat.le_refl _) (Nat.le_refl _) (Nat.le_refl _) (Nat.le_refl _) (Nat.le_refl _)
        have hnrc : r_nr (r_tK b L) i ≤ r_nr (r_tK b L) c := by
          have : ∀ j, i ≤ j → r_nr (r_tK b L) i ≤ r_nr (r_tK b L) j := by
            intro j hj
            induction j with
            | zero => have : i = 0 := by omega
                      rw [this]; exact Nat.le_refl _
            | succ j ih =>
              by_cases q : i = j + 1
              · rw [q]; exact Nat.le_refl _
              · have := ih (by omega)
                rw [r_nr]; omega
          exact this c (by omega)
        have fall := r_gr_trans f23 f3 (Nat.le_refl _) hnrc (by omega) (by omega) hc1
        have hrule : r_rule (r_tK b L) i = .ok e := by
          rw [er, hx1]
          show r_b (if r_tK b L (i + 2) = 14 then r_b (r_pass (i + 2)) (r_cnd (r_tK b L) 1001) else .ok (i + 2)) _ = _
          rw [hx2]
          exact hx3
        obtain ⟨c', sh, he0⟩ := r_rule_sh hK hrule
        have ecc : c' = c := by
          obtain ⟨s1, s2, s3, s4, s5, s6, s7, s8, s9, s10, s11, s12⟩ := sh
          rcases Nat.lt_trichotomy c c' with q | q | q
          · exfalso
            rcases s3 with s3 | s3
            · by_cases qc : c = i + 2
              · rw [qc] at k30; omega
              · have := s10 c (by omega) q
                unfold r_ek at this; omega
            · omega
          · exact q.symm
          · exfalso
            have := s11 c q (by omega)
            unfold r_ek at this; omega
        subst ecc
        have hcn11 : r_cn (r_tK b L) 11 e = r_cn (r_tK b L) 11 i + 1 := by
          obtain ⟨s1, s2, s3, s4, s5, s6, s7, s8, s9, s10, s11, s12⟩ := sh
          rw [r_cn_eq (i := i + 1) (by omega) fun a h1 h2 => ?_, r_cn_succ hK]
          by_cases q1 : a = i + 1
          · subst q1; omega
          by_cases q2 : a < c'
          · have := hcond a (by omega) q2
            unfold r_ek at this; omega
          by_cases q3 : a = c'
          · subst q3; omega
          by_cases q4 : a = e - 1
          · subst q4; omega
          · have := s11 a (by omega) (by omega)
            unfold r_ek at this; omega
        have hnae : r_na (r_tK b L) (e - 1) = r_na (r_tK b L) e := by
          have : e = (e - 1) + 1 := by omega
          rw [this, r_na, if_neg (by omega)]; rfl
        have hnre : r_nr (r_tK b L) (e - 1) = r_nr (r_tK b L) e := by
          have : e = (e - 1) + 1 := by omega
          rw [this, r_nr, if_neg (by omega)]; rfl
        have v25 : zA V3 25 (81 * sd + r_cn (r_tK b L) 11 i) = nI (400 * sd + r_nr (r_tK b L) i) := by rw [z7 _ (by omega), q25, e1nr]
        have v26 : zA V3 26 (81 * sd + r_cn (r_tK b L) 11 i) = nI (1000 * sd + r_na (r_tK b L) i) := by rw [z10, e2na]
        refine ⟨V3, cc3, c', d1, m4, s12, fall, hk3, by omega, hc5, by omega, by rw [hcn11]; exact z6, tl3.trans (tl2.trans tl1), sh, ⟨?_, ⟨v25, ?_⟩, ⟨v26, ?_⟩, fun q14 => ?_, fun q14 => ?_, hal⟩, ?_, ?_, fun h0 => ?_, by omega, hcn11⟩
        · rw [z2 24 (by decide) (by decide), q24, r24]
        · rw [z8, hnre, nr3]
        · rw [z11, hnae]
        · have := hcs q14
          rw [e1nr] at this
          rw [hnre, nr3]
          exact r_cs_cm (r_cs_same this hnrc (fun r hr k hk => z4 r k (Or.inl ⟨hr, hk⟩)) (fun k hk => ⟨z4 37 k (Or.inr (Or.inr (Or.inr ⟨Or.inl rfl, hk⟩))), z4 38 k (Or.inr (Or.inr (Or.inr ⟨Or.inr rfl, hk⟩)))⟩) hsd (by have := (r_ms_lt m2).2.1; omega)) hc4
        · have := hcn q14
          rw [hnre, nr3, this, e1nr]
        · rw [hcn11, ← Nat.add_assoc, z8, nr3]
        · rw [hcn11, ← Nat.add_assoc, z11]
        · obtain ⟨h1, h2⟩ := hpre h0
          exact ⟨by rw [v25, h1], by rw [v26, h2]⟩
end
