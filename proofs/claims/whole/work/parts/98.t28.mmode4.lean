/-! ===== MODES in the reference, put together ===== -/
section
variable {F : Nat} {b : Nat → Nat} {L M sd : Nat} {V : zV}
/-- the mode behind its head -/
theorem m_headfin {i e0 cc : Nat} {V' : zV} (hF : 1200 ≤ F) (hL : L ≤ 4000) (h : r_rs b L M sd i cc V) (hK : r_tK b L i = 7) (hn7 : r_cn (r_tK b L) 7 i < 12) (hie : i < e0) (hin : ∀ a, i < a → a < e0 → r_tK b L a = 27 ∨ r_tK b L a = 28 ∨ r_tK b L a = 9) (hm : r_mr b L M sd e0 V') (hfx : r_fx sd V V') (hsc : ∀ k, k = 12 ∨ k = 41 ∨ k = 46 ∨ k = 51 ∨ k = 54 → zI V' 0 k = zI V 0 k) (hrow : ∀ r, r ∉ [10, 11, 21, 22] → zA V' r = zA V r)
    (h21 : (∀ m, ¬ m = 12 * sd + r_cn (r_tK b L) 7 i → zA V' 21 m = zA V 21 m) ∧ zA V' 21 (12 * sd + r_cn (r_tK b L) 7 i) = r_val b L 21 i) (h22 : (∀ m, ¬ m = 12 * sd + r_cn (r_tK b L) 7 i → zA V' 22 m = zA V 22 m) ∧ zA V' 22 (12 * sd + r_cn (r_tK b L) 7 i) = r_val b L 22 i) :
    match r_b (r_need (r_tK b L) 29 e0) fun j => r_b (r_rules (r_tK b L) 1001 j) (r_need (r_tK b L) 10) with
      | .error (f, j) => ∃ V2, fX12_tellMode_b169 F V' = some V2 ∧ r_me b L sd f j V V2
      | .ok e => ∃ V2 cc', fX12_tellMode_b169 F V' = some V2 ∧ cc ≤ cc' ∧ r_rs b L M sd e cc' V2 ∧ r_fx sd V V2 ∧ (∀ a, i < a → a < e → 8 ≤ r_tK b L a) ∧ i < e ∧ zA V2 23 (13 * sd + r_cn (r_tK b L) 7 e) = nI (r_cn (r_tK b L) 11 e) := by
  obtain ⟨h1, h12, hk, hcc, hnr, htb, hcn, h80⟩ := id h
  have hs := h1.2.2.1
  have hsd := hs.2
  have lt := r_ms_lt hm
  have mm := m_b169 (F := F) (b := b) (L := L) (M := M) (sd := sd) (V := V') (i := i) (e0 := e0) (cc := cc) (n7 := r_cn (r_tK b L) 7 i) hF hL hn7 hm (by rw [hrow 8 (by decide)]; exact htb.1.1 7 (by omega)) (by rw [hrow 8 (by decide)]; exact htb.1.2) (fun V1 e1 he1 k29 h999 hV1 m1 => by
    subst he1
    have hin2 : ∀ a, i < a → a < e0 + 1 → 8 ≤ r_tK b L a ∧ ¬ r_tK b L a = 11 ∧ ¬ (16 ≤ r_tK b L a ∧ r_tK b L a ≤ 24) ∧ ¬ (37 ≤ r_tK b L a ∧ r_tK b L a ≤ 40) ∧ ¬ r_tK b L a = 18 := by
      intro a h1 h2
      by_cases q : a = e0
      · subst q; omega
      · rcases hin a h1 (by omega) with z | z | z <;> omega
    have enr : r_nr (r_tK b L) (e0 + 1) = r_nr (r_tK b L) i := r_nr_same (by omega) fun a h1 h2 => by
      by_cases q : a = i
      · subst q; omega
      · exact (hin2 a (by omega) h2).2.2.2.1
    have ena : r_na (r_tK b L) (e0 + 1) = r_na (r_tK b L) i := r_na_same (by omega) fun a h1 h2 => by
      by_cases q : a = i
      · subst q; omega
      · exact (hin2 a (by omega) h2).2.2.1
    have ecs : r_cn (r_tK b L) 18 (e0 + 1) = r_cn (r_tK b L) 18 i := r_cn_eq (by omega) fun a h1 h2 => by
      by_cases q : a = i
      · subst q; omega
      · exact (hin2 a (by omega) h2).2.2.2.2
    have e11 : r_cn (r_tK b L) 11 (e0 + 1) = r_cn (r_tK b L) 11 i := r_cn_eq (by omega) fun a h1 h2 => by
      by_cases q : a = i
      · subst q; omega
      · exact (hin2 a (by omega) h2).2.1
    have rowV1 : ∀ r, ¬ r = 8 → ¬ r = 23 → zA V1 r = zA V' r := by
      intro r h1 h2
      rw [hV1]
      show (if r = 8 then _ else if r = 23 then _ else zA V' r) = _
      rw [if_neg h1, if_neg h2]
    have scV1 : ∀ k, ¬ k = 11 → zI V1 0 k = zI V' 0 k := by
      intro k hk
      rw [hV1]
      show zI (zsI V' 0 11 _) 0 k = _
      rw [y_get.1, if_neg (fun z => hk z.2)]
    refine ⟨m1, (scV1 12 (by decide)).trans ((hsc 12 (by omega)).trans h12), ?_, by omega, by omega, ?_, fun k hk => ?_, by omega⟩
    · rw [enr, ena, ecs]
      exact ⟨(scV1 41 (by decide)).trans ((hsc 41 (by omega)).trans hk.1), (scV1 46 (by decide)).trans ((hsc 46 (by omega)).trans hk.2.1), (scV1 51 (by decide)).trans ((hsc 51 (by omega)).trans hk.2.2.1), (scV1 54 (by decide)).trans ((hsc 54 (by omega)).trans hk.2.2.2)⟩
    · refine r_tb_step (V := V) hK (by decide) (fun a h1 h2 => ⟨(hin2 a h1 h2).1, (hin2 a h1 h2).2.1⟩) (by omega) enr ena htb (fun r h1 h2 => ⟨fun hr => ?_, fun hr => ?_⟩) ⟨fun _ => ⟨fun m hm => ?_, ?_⟩, fun z => absurd rfl z⟩ (fun r h1 h2 => ?_) ⟨fun m hm => ?_, ?_⟩ (by have := (r_ms_lt h1).2.1; omega) hsd
      · have hr2 : r = 21 ∨ r = 22 := by
          unfold r_kr at hr
          by_cases q : r = 21
          · exact Or.inl q
          · right
            repeat' split at hr
            all_goals omega
        rcases hr2 with rfl | rfl
        · rw [rowV1 21 (by decide) (by decide), show sd * r_hs 21 = 12 * sd from Nat.mul_comm _ _]; exact h21
        · rw [rowV1 22 (by decide) (by decide), show sd * r_hs 22 = 12 * sd from Nat.mul_comm _ _]; exact h22
      · have hr2 : ¬ r = 21 ∧ ¬ r = 22 := by
          refine ⟨fun z => hr (by subst z; rfl), fun z => hr (by subst z; rfl)⟩
        rw [rowV1 r (by omega) (by omega), hrow r (by simp; omega)]
      · rw [hV1]
        show upd (zA V' 23) (13 * sd + r_cn (r_tK b L) 7 i) _ m = _
        rw [y_upd, if_neg hm, hrow 23 (by decide)]
      · rw [hV1]
        show upd (zA V' 23) (13 * sd + r_cn (r_tK b L) 7 i) _ _ = _
        rw [y_upd, if_pos rfl]
      · rw [rowV1 r (by omega) (by omega), hrow r (by simp; omega)]
      · rw [hV1]
        show upd (zA V' 8) (9 * sd + 7) _ m = _
        rw [y_upd, if_neg hm, hrow 8 (by decide)]
      · rw [hV1]
        show upd (zA V' 8) (9 * sd + 7) _ _ = _
        rw [y_upd, if_pos rfl]
    · by_cases q : k = 7
      · subst q
        rw [r_cn_eq (i := i + 1) (by omega) fun a h1 h2 => by have := (hin2 a (by omega) h2).1; omega, r_cn_succ hK]
        simp
        omega
      · rw [r_cn_eq (i := i) (by omega) fun a h1 h2 => by
          by_cases q2 : a = i
          · subst q2; omega
          · have := (hin2 a (by omega) h2).1; omega]
        exact hcn k hk)
  cases hx : (r_b (r_need (r_tK b L) 29 e0) fun j => r_b (r_rules (r_tK b L) 1001 j) (r_need (r_tK b L) 10)) with
  | error z =>
    rw [hx] at mm
    obtain ⟨V2, d1, d2⟩ := mm
    exact ⟨V2, d1, r_me_pre hfx d2⟩
  | ok e =>
    rw [hx] at mm
    obtain ⟨V3, V2, c2, d1, k29, hle, hc2, k10, rs2, hV3, m3, fx3, kin⟩ := mm
    obtain ⟨p1, p12, pk, pcc, pnr, ptb, pcn, p80⟩ := rs2
    have cnk : ∀ w, ¬ w = 10 → r_cn (r_tK b L) w e = r_cn (r_tK b L) w (e - 1) := fun w hw => r_cn_eq (by omega) fun a h1 h2 => by
      have : a = e - 1 := by omega
      subst this; omega
    have enr : r_nr (r_tK b L) e = r_nr (r_tK b L) (e - 1) := r_nr_same (by omega) fun a h1 h2 => by
      have : a = e - 1 := by omega
      subst this; omega
    have ena : r_na (r_tK b L) e = r_na (r_tK b L) (e - 1) := r_na_same (by omega) fun a h1 h2 => by
      have : a = e - 1 := by omega
      subst this; omega
    have hkin : ∀ a, i < a → a < e → 8 ≤ r_tK b L a := by
      intro a h1 h2
      by_cases q : a < e0
      · rcases hin a h1 q with z | z | z <;> omega
      · exact kin a (by omega) h2
    have rowV3 : ∀ r, ¬ r = 23 → zA V3 r = zA V2 r := by
      intro r h1
      rw [hV3]
      show (if r = 23 then _ else zA V2 r) = _
      rw [if_neg h1]
    have scV3 : ∀ k, ¬ k = 11 → zI V3 0 k = zI V2 0 k := by
      intro k hk
      rw [hV3]
      show zI (zsI V2 0 11 _) 0 k = _
      rw [y_get.1, if_neg (fun z => hk z.2)]
    have c7e : r_cn (r_tK b L) 7 e = r_cn (r_tK b L) 7 i + 1 := by
      rw [r_cn_eq (i := i + 1) (by omega) fun a h1 h2 => by have := hkin a (by omega) h2; omega, r_cn_succ hK]
    obtain ⟨⟨t1, t2⟩, t3, t4, t5, t6⟩ := ptb
    refine ⟨V3, c2, d1, hc2, ⟨m3, (scV3 12 (by decide)).trans p12, ?_, by omega, by omega, ⟨⟨fun k hk => ?_, ?_⟩, fun r h1 h2 j hj hkj => ?_, fun j hj hkj => ?_, fun j hj hkj => ?_, fun h0 => ?_⟩, fun k hk => ?_, ?_⟩, r_fx_trans hfx fx3, hkin, by omega, ?_⟩
    · rw [enr, ena, cnk 18 (by decide)]
      exact ⟨(scV3 41 (by decide)).trans pk.1, (scV3 46 (by decide)).trans pk.2.1, (scV3 51 (by decide)).trans pk.2.2.1, (scV3 54 (by decide)).trans pk.2.2.2⟩
    · rw [rowV3 8 (by decide), cnk k (by omega)]; exact t1 k hk
    · rw [rowV3 8 (by decide), cnk 11 (by decide)]; exact t2
    · rw [rowV3 r (by omega)]
      refine t3 r h1 h2 j ?_ hkj
      have hr7 : r_kr r ≤ 7 := by
        unfold r_kr
        repeat' split
        all_goals omega
      by_cases q : j = e - 1
      · subst q; omega
      · omega
    · have hj2 : j < e - 1 := by
        by_cases q : j = e - 1
        · subst q; omega
        · omega
      have hlt : r_cn (r_tK b L) 7 j < r_cn (r_tK b L) 7 e := r_cn_lt hj hkj
      rw [hV3]
      show upd (zA V2 23) (13 * sd + r_cn (r_tK b L) 7 i + 1) _ _ = _
      rw [y_upd, if_neg (by omega)]
      exact t4 j hj2 hkj
    · have hj2 : j < e - 1 := by
        by_cases q : j = e - 1
        · subst q; omega
        · omega
      obtain ⟨c, s, s1, s2, s3⟩ := t5 j hj2 hkj
      refine ⟨c, s, s1, by omega, r_ru_same (cr := r_nr (r_tK b L) s) (ca := r_na (r_tK b L) s) (cs := r_cn (r_tK b L) 18 s) (cc := c2) s3 (by rw [rowV3 24 (by decide)]) (fun r hr k _ => by rw [rowV3 r (by omega)]) (fun r k hb => ?_) (Nat.le_refl _) (Nat.le_refl _) (Nat.le_refl _) (Nat.le_refl _) (by have := s1.2.2.2; omega) hsd (by have := (r_ms_lt m3).2.1; omega)⟩
      unfold r_gb at hb
      rw [rowV3 r (by omega)]
    · rw [cnk 11 (by decide)] at h0 ⊢
      rw [enr, ena, rowV3 25 (by decide), rowV3 26 (by decide)]
      exact t6 h0
    · rw [cnk k (by omega)]; exact pcn k hk
    · rw [cnk 11 (by decide)]; exact p80
    · rw [hV3, c7e, cnk 11 (by decide), ← Nat.add_assoc]
      show upd (zA V2 23) (13 * sd + r_cn (r_tK b L) 7 i + 1) _ _ = _
      rw [y_upd, if_pos rfl]
theorem m_mb23_x : r_xg sd (fX12_tellMode_b23 F) := by
  intro V h
  obtain ⟨V1, a1, a2⟩ := m_must_x (F := F) (28 : Int32) V h
  have h1 := r_mx_mf h a2
  obtain ⟨V2, b1, b2⟩ := m_must_x (F := F) (1 : Int32) V1 h1
  have h2 := r_mx_mf h1 b2
  obtain ⟨V3, c1, c2⟩ := m_must_x (F := F) (2 : Int32) V2 h2
  have h3 := r_mx_mf h2 c2
  have a1 : fX12_must F V 28 = some V1 := a1
  have b1 : fX12_must F V1 1 = some V2 := b1
  have c1 : fX12_must F V2 2 = some V3 := c1
  rw [fX12_tellMode_b23, a1, y_bd, b1, y_bd, c1, y_bd, if_neg (r_mf_ne h3).1]
  exact ⟨V3, rfl, r_mx_trans a2 (r_mx_trans b2 c2)⟩
theorem r_tV_lt {j : Nat} (h : r_tK b L j = 28) : r_tV b L j < 100000 := by
  obtain ⟨t1, t2, t3, t4⟩ := r_kd_28 (show r_kd b L (r_tS b L j) = 28 from h)
  have := r_pk_lt (B := 10) (f := fun c => c - 48) (by decide) (r_tW b L j) 0 0 (fun c hc => by
    obtain ⟨i, h1, h2, rfl⟩ := r_str_mem hc
    have := r_te_dg t1 t2 t3 h1 h2
    unfold r_dg at this
    have := of_decide_eq_true this
    omega) (by decide)
  have hl : (r_tW b L j).length ≤ 5 := by unfold r_tW; rw [r_str_len]; exact t4
  have h2 : 10 ^ (0 + (r_tW b L j).length) ≤ 10 ^ 5 := Nat.pow_le_pow_right (by decide) (by omega)
  have e : (10 : Nat) ^ 5 = 100000 := by decide
  unfold r_tV r_dec
  omega
end
