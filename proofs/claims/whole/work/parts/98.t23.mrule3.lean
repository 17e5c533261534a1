/-! ===== a RULE in the reference: the whole ===== -/
section
variable {F : Nat} {b : Nat → Nat} {L M sd : Nat} {V : zV}
theorem r_mr_gr {i n cr ca cs cc : Nat} {V' : zV} (h : r_mr b L M sd i V) (f : r_gr sd n cr ca cs cc V V') (h11 : zI V' 0 11 = zI V 0 11) (h13 : zI V' 0 13 = zI V 0 13) (h15 : zI V' 0 15 = zI V 0 15) (h16 : zI V' 0 16 = zI V 0 16) : r_mr b L M sd i V' :=
  r_ms_eq h f.1 (h11.trans h.2.1.1) (h13.trans h.2.1.2.1) h.2.1.2.2 h15 h16 (f.2.1 22 (by decide)) (f.2.2.2.1 9) (f.2.2.1 10 (by decide) (by decide)) (f.2.2.1 11 (by decide) (by decide))
theorem r_kt_gr {n cr ca cs cc cr' ca' cs' cc' : Nat} {V' : zV} (h : r_kt sd cr' ca' cs' cc' V) (e : ∀ k, k = 41 ∨ k = 46 ∨ k = 51 ∨ k = 54 → zI V' 0 k = zI V 0 k) : r_kt sd cr' ca' cs' cc' V' :=
  ⟨(e 41 (by omega)).trans h.1, (e 46 (by omega)).trans h.2.1, (e 51 (by omega)).trans h.2.2.1, (e 54 (by omega)).trans h.2.2.2⟩
/-- up to the event -/
theorem m_rule1 {i cr ca cs cc : Nat} (hF : 1200 ≤ F) (hL : L ≤ 4000) (h : r_mr b L M sd i V) (hK : r_tK b L i = 11) (h12 : zI V 0 12 = 0) (hk : r_kt sd cr ca cs cc V) (h8 : zA V 8 (9 * sd + 8) = nI (r_cn (r_tK b L) 11 i)) (hn : r_cn (r_tK b L) 11 i < 80) :
    ∃ V', fX12_tellRule F V = (if r_tK b L i = 11 ∧ i < 1000 then fX12_tellRule_b120 F V' (nI (r_cn (r_tK b L) 11 i)) else some V') ∧ match r_b (r_pass i) fun j => if r_tK b L j = 12 ∨ r_tK b L j = 13 then r_pass j else r_need (r_tK b L) 27 j with
      | .error (f, j) => r_me b L sd f j V V'
      | .ok e => e = i + 2 ∧ r_mr b L M sd (i + 2) V' ∧ zI V' 0 12 = 0 ∧ r_kt sd cr ca cs cc V' ∧ r_gr sd (r_cn (r_tK b L) 11 i) cr ca cs cc V V' ∧ zA V' 24 (80 * sd + r_cn (r_tK b L) 11 i) = r_ev b L i ∧ zA V' 8 = zA V 8 ∧ zA V' 25 = zA V 25 ∧ zA V' 26 = zA V 26 ∧ r_tl b L (i + 2) = r_tl b L i := by
  have lt := r_ms_lt h
  have hs := h.2.2.1
  have full := m_full (F := F) (s := 8) (m := 80) (by decide) hs.1 hs.2 h8 rfl (by omega)
  have full : fX12_isFull F V 8 = some (if r_cn (r_tK b L) 11 i = 80 then 1 else 0) := full
  have hmust := m_must (F := F) h (k := 11) (x := 31) (by decide) rfl
  rw [fX12_tellRule, m_is h (k := 11) (x := 31) (by decide) rfl, y_bd, if_pos hK, if_neg (by decide), full, y_bd, if_neg (show ¬ r_cn (r_tK b L) 11 i = 80 by omega), if_pos rfl, fX12_tellRule_b23]
  unfold r_need at hmust
  rw [if_pos hK] at hmust
  unfold r_pass at hmust ⊢
  by_cases qi : i < 1000
  rotate_left
  · rw [if_neg qi] at hmust
    simp only [if_neg qi, if_neg (show ¬ (r_tK b L i = 11 ∧ i < 1000) from fun z => qi z.2)]
    obtain ⟨V1, a1, a2⟩ := hmust
    rw [a1, y_bd, if_neg (r_mf_ne (r_me_mf a2 hs)).1]
    exact ⟨V1, rfl, a2⟩
  rw [if_pos qi] at hmust
  simp only [if_pos qi, if_pos (show r_tK b L i = 11 ∧ i < 1000 from ⟨hK, qi⟩)]
  obtain ⟨a1, a2, -⟩ := hmust
  obtain ⟨u1, u2⟩ := r_quiet (b := b) (L := L) (i := i) (by omega) (by omega)
  have m1 : r_mr b L M sd (i + 1) (zsI V 0 11 (nI (i + 1))) := r_mr_P a2 u1.symm u2
  have lt1 := r_ms_lt m1
  have e19 : zI (zsI V 0 11 (nI (i + 1))) 0 19 = nI sd := hs.1
  have e8 : zA (zsI V 0 11 (nI (i + 1))) 8 (9 * sd + 8) = nI (r_cn (r_tK b L) 11 i) := h8
  have hsd := hs.2
  rw [a1, y_bd, if_pos (show zI (zsI V 0 11 (nI (i + 1))) 0 13 ≤ 0 by rw [m1.2.1.2.1]; decide), e19, show (9 : Int32) = nI 9 from rfl, show (8 : Int32) = nI 8 from rfl, pk_mul, nI_add, y_ck (by omega) (by decide), y_let, nI_clamp (by omega), e8, show (80 : Int32) = nI 80 from rfl, pk_mul, nI_add, y_let, m_is m1 (k := 12) (x := 32) (by decide) rfl, y_bd]
  -- the event is laid
  have f2 : ∀ x : Int32, r_gr sd (r_cn (r_tK b L) 11 i) cr ca cs cc V (zsA (zsI V 0 11 (nI (i + 1))) 24 (upd (zA (zsI V 0 11 (nI (i + 1))) 24) (80 * sd + r_cn (r_tK b L) 11 i) x)) := fun x =>
    r_gr_H (k := r_cn (r_tK b L) 11 i) (r_gr_gg (r_gg_I r_gg_refl (by decide))) (Or.inl rfl) (by rw [show r_hs 24 = 80 from rfl, Nat.mul_comm]) hn (Nat.le_refl _)
  have m2 : ∀ x : Int32, r_mr b L M sd (i + 1) (zsA (zsI V 0 11 (nI (i + 1))) 24 (upd (zA (zsI V 0 11 (nI (i + 1))) 24) (80 * sd + r_cn (r_tK b L) 11 i) x)) := fun x =>
    r_mr_gr (n := r_cn (r_tK b L) 11 i) (cr := cr) (ca := ca) (cs := cs) (cc := cc) m1 (r_gr_H (k := r_cn (r_tK b L) 11 i) r_gr_refl (Or.inl rfl) (by rw [show r_hs 24 = 80 from rfl, Nat.mul_comm]) hn (Nat.le_refl _)) rfl rfl rfl rfl
  -- 'begin' and 'stop'
  have word : ∀ x : Int32, (r_tK b L (i + 1) = 12 ∨ r_tK b L (i + 1) = 13) → x = r_ev b L i → ∃ V', fX12_tellRule_b102 F (zsA (zsI V 0 11 (nI (i + 1))) 24 (upd (zA (zsI V 0 11 (nI (i + 1))) 24) (80 * sd + r_cn (r_tK b L) 11 i) x)) (nI (r_cn (r_tK b L) 11 i)) = fX12_tellRule_b120 F V' (nI (r_cn (r_tK b L) 11 i)) ∧ match r_pass (i + 1) with
      | .error (f, j) => r_me b L sd f j V V'
      | .ok e => e = i + 2 ∧ r_mr b L M sd (i + 2) V' ∧ zI V' 0 12 = 0 ∧ r_kt sd cr ca cs cc V' ∧ r_gr sd (r_cn (r_tK b L) 11 i) cr ca cs cc V V' ∧ zA V' 24 (80 * sd + r_cn (r_tK b L) 11 i) = r_ev b L i ∧ zA V' 8 = zA V 8 ∧ zA V' 25 = zA V 25 ∧ zA V' 26 = zA V 26 ∧ r_tl b L (i + 2) = r_tl b L i := by
    intro x hw hx
    unfold r_pass
    by_cases qj : i + 1 < 1000
    rotate_left
    · rw [fX12_tellRule_b102, m_next_e (m2 x) qj, y_bd, if_neg qj]
      exact ⟨_, rfl, r_me_pre (f2 x).1 (m_fail_me (m2 x) (f := 2) (Or.inr rfl))⟩
    · obtain ⟨n1, n2⟩ := m_nextq (F := F) (m2 x) (by omega) (by omega) (by omega) (by omega) qj
      rw [fX12_tellRule_b102, n1, y_bd, if_pos qj]
      refine ⟨_, rfl, rfl, n2, h12, hk, r_gr_trans (f2 x) (r_gr_gg (r_gg_I r_gg_refl (by decide))) (Nat.le_refl _) (Nat.le_refl _) (Nat.le_refl _) (Nat.le_refl _) (Nat.le_refl _), ?_, rfl, rfl, rfl, (r_tl_same (fun z => by omega)).trans u1⟩
      show upd (zA V 24) (80 * sd + r_cn (r_tK b L) 11 i) x (80 * sd + r_cn (r_tK b L) 11 i) = _
      rw [y_upd, if_pos rfl]; exact hx
  have b83 : ∀ x : Int32, (r_tK b L (i + 1) = 12 → x = -1) → (r_tK b L (i + 1) = 13 → x = -2) → ∃ V', fX12_tellRule_b83 F (zsI V 0 11 (nI (i + 1))) (nI (r_cn (r_tK b L) 11 i)) (nI (80 * sd + r_cn (r_tK b L) 11 i)) (nI (80 * sd + r_cn (r_tK b L) 11 i)) x = fX12_tellRule_b120 F V' (nI (r_cn (r_tK b L) 11 i)) ∧ match (if r_tK b L (i + 1) = 12 ∨ r_tK b L (i + 1) = 13 then r_pass (i + 1) else r_need (r_tK b L) 27 (i + 1) : r_r) with
      | .error (f, j) => r_me b L sd f j V V'
      | .ok e => e = i + 2 ∧ r_mr b L M sd (i + 2) V' ∧ zI V' 0 12 = 0 ∧ r_kt sd cr ca cs cc V' ∧ r_gr sd (r_cn (r_tK b L) 11 i) cr ca cs cc V V' ∧ zA V' 24 (80 * sd + r_cn (r_tK b L) 11 i) = r_ev b L i ∧ zA V' 8 = zA V 8 ∧ zA V' 25 = zA V 25 ∧ zA V' 26 = zA V 26 ∧ r_tl b L (i + 2) = r_tl b L i := by
    intro x hx1 hx2
    rw [fX12_tellRule_b83]
    simp only [y_ck (show 80 * sd + r_cn (r_tK b L) 11 i < 160 by omega) (show 160 < 2 ^ 31 by decide), y_let, nI_clamp (show 80 * sd + r_cn (r_tK b L) 11 i < 2 ^ 31 by omega)]
    rw [m_is (m2 x) (k := 12) (x := 32) (by decide) rfl, y_bd]
    by_cases q12 : r_tK b L (i + 1) = 12
    · rw [if_pos q12, if_neg (by decide), if_pos (Or.inl q12)]
      exact word x (Or.inl q12) (by rw [hx1 q12]; unfold r_ev; rw [if_pos q12])
    rw [if_neg q12, if_pos rfl, m_is (m2 x) (k := 13) (x := 33) (by decide) rfl, y_bd]
    by_cases q13 : r_tK b L (i + 1) = 13
    · rw [if_pos q13, if_neg (by decide), if_pos (Or.inr q13)]
      exact word x (Or.inr q13) (by rw [hx2 q13]; unfold r_ev; rw [if_neg q12, if_pos q13])
    rw [if_neg q13, if_pos rfl, if_neg (fun z => z.elim q12 q13)]
    have nn := m_nn (F := F) (by omega) hL (m2 x) (fun j k z => z.1) (s := 0) (by omega)
    cases hn2 : r_need (r_tK b L) 27 (i + 1) with
    | error e =>
      rw [hn2] at nn
      obtain ⟨V3, y, d1, d2⟩ := nn
      have d1 : fX12_namedNext F (zsA (zsI V 0 11 (nI (i + 1))) 24 (upd (zA (zsI V 0 11 (nI (i + 1))) 24) (80 * sd + r_cn (r_tK b L) 11 i) x)) 0 = some (y, V3) := d1
      have hme := r_me_pre (f2 x).1 d2
      rw [d1, y_bd]
      refine ⟨_, rfl, r_me_trans hme ⟨r_fx_H (k := r_cn (r_tK b L) 11 i) r_fx_refl (by decide) (by rw [show r_hs 24 = 80 from rfl, Nat.mul_comm]) hn, rfl, rfl, (r_me_mf hme hs).2.1⟩⟩
    | ok e =>
      rw [hn2] at nn
      obtain ⟨V3, d1, d2, d3⟩ := nn
      obtain ⟨k27, rfl, -⟩ := r_need_ok hn2
      have d1 : fX12_namedNext F (zsA (zsI V 0 11 (nI (i + 1))) 24 (upd (zA (zsI V 0 11 (nI (i + 1))) 24) (80 * sd + r_cn (r_tK b L) 11 i) x)) 0 = some (nI ((r_lk (r_tl b L (i + 1)) (r_tW b L (i + 1)) 0).getD 0), V3) := d1
      have hro : r_ro (r_tK b L) (i + 1) = 0 := by unfold r_ro; rw [show i + 1 - 1 = i by omega, hK]; rfl
      obtain ⟨w1, w2⟩ := r_use (b := b) (L := L) (i := i + 1) k27 hro (by decide) (by rw [show i + 1 - 1 = i by omega]; omega)
      have m3 : r_mr b L M sd (i + 1 + 1) V3 := r_mr_P d2 w1.symm w2
      have f3 : r_gr sd (r_cn (r_tK b L) 11 i) cr ca cs cc V V3 := r_gr_trans (r_gr_trans (f2 x) (r_gr_gg (r_gg_I r_gg_refl (show 11 ∈ r_gs by decide))) (Nat.le_refl _) (Nat.le_refl _) (Nat.le_refl _) (Nat.le_refl _) (Nat.le_refl _)) (r_gr_gg (r_gg_sw d3)) (Nat.le_refl _) (Nat.le_refl _) (Nat.le_refl _) (Nat.le_refl _) (Nat.le_refl _)
      have sc : ∀ k, ¬ k = 15 → ¬ k = 16 → ¬ k = 11 → zI V3 0 k = zI V 0 k := fun k h1 h2 h3 => (d3.1 0 k fun z => z.2.elim h1 h2).trans (by
        rw [y_get.1, if_neg (fun z => h3 z.2)]
        show zI (zsI V 0 11 (nI (i + 1))) 0 k = zI V 0 k
        rw [y_get.1, if_neg (fun z => h3 z.2)])
      rw [d1, y_bd]
      refine ⟨_, rfl, rfl, r_mr_gr (n := r_cn (r_tK b L) 11 i) (cr := cr) (ca := ca) (cs := cs) (cc := cc) m3 (r_gr_H (k := r_cn (r_tK b L) 11 i) r_gr_refl (Or.inl rfl) (by rw [show r_hs 24 = 80 from rfl, Nat.mul_comm]) hn (Nat.le_refl _)) rfl rfl rfl rfl, (sc 12 (by decide) (by decide) (by decide)).trans h12, ⟨(sc 41 (by decide) (by decide) (by decide)).trans hk.1, (sc 46 (by decide) (by decide) (by decide)).trans hk.2.1, (sc 51 (by decide) (by decide) (by decide)).trans hk.2.2.1, (sc 54 (by decide) (by decide) (by decide)).trans hk.2.2.2⟩, r_gr_H (k := r_cn (r_tK b L) 11 i) f3 (Or.inl rfl) (by rw [show r_hs 24 = 80 from rfl, Nat.mul_comm]) hn (Nat.le_refl _), ?_, d3.2.1 8, d3.2.1 25, d3.2.1 26, w1.trans u1⟩
      show upd (zA V3 24) (80 * sd + r_cn (r_tK b L) 11 i) _ (80 * sd + r_cn (r_tK b L) 11 i) = _
      rw [y_upd, if_pos rfl]
      unfold r_ev
      rw [if_neg q12, if_neg q13]
  show ∃ V', _ ∧ match (if r_tK b L (i + 1) = 12 ∨ r_tK b L (i + 1) = 13 then r_pass (i + 1) else r_need (r_tK b L) 27 (i + 1) : r_r) with
      | .error (f, j) => r_me b L sd f j V V'
      | .ok e => _
  by_cases q12 : r_tK b L (i + 1) = 12
  · obtain ⟨V', g1, g2⟩ := b83 (-1) (fun _ => rfl) (fun z => by omega)
    rw [if_pos q12, if_neg (show ¬ (1 : Int32) = 0 by decide)]
    exact ⟨V', g1, g2⟩
  · obtain ⟨V', g1, g2⟩ := b83 (-2) (fun z => absurd z q12) (fun _ => rfl)
    rw [if_neg q12, if_pos rfl]
    exact ⟨V', g1, g2⟩
/-- the COND -/
theorem m_rule2 {i cc n : Nat} (hF : 1200 ≤ F) (hL : L ≤ 4000) (h : r_mr b L M sd i V) (h12 : zI V 0 12 = 0) (hk : r_kt sd (r_nr (r_tK b L) i) (r_na (r_tK b L) i) (r_cn (r_tK b L) 18 i) cc V) (hcc : cc ≤ i) (hnr : 3 * r_nr (r_tK b L) i ≤ i) (hi0 : 0 < i) (hn : n < 80) (h16 : ∀ s c, r_lk (r_tl b L i) s 6 = some c → c < 16) :
    ∃ V', fX12_tellRule_b120 F V (nI n) = fX12_tellRule_b175 F V' (nI n) ∧ match (if r_tK b L i = 14 then r_b (r_pass i) (r_cnd (r_tK b L) 1001) else .ok i : r_r) with
      | .error (f, j) => r_me b L sd f j V V'
      | .ok c => i ≤ c ∧ r_mr b L M sd c V' ∧ zI V' 0 12 = 0 ∧ r_gr sd n (r_nr (r_tK b L) i) (r_na (r_tK b L) i) (r_cn (r_tK b L) 18 i) cc V V' ∧ zA V' 25 (81 * sd + n) = nI (400 * sd + r_nr (r_tK b L) i) ∧ zA V' 24 = zA V 24 ∧ zA V' 8 = zA V 8 ∧ r_tl b L c = r_tl b L i ∧
        ∃ cc', r_kt sd (r_nr (r_tK b L) c) (r_na (r_tK b L) c) (r_cn (r_tK b L) 18 c) cc' V' ∧ cc ≤ cc' ∧ cc' ≤ c ∧ 3 * r_nr (r_tK b L) c ≤ c ∧ (r_tK b L i = 14 → r_cs b L sd (i + 1) c (r_nr (r_tK b L) i) (r_nr (r_tK b L) c) cc' V') ∧ (¬ r_tK b L i = 14 → c = i) := by
  have lt := r_ms_lt h
  have hs := h.2.2.1
  have hsd := hs.2
  have f1 : r_gr sd n (r_nr (r_tK b L) i) (r_na (r_tK b L) i) (r_cn (r_tK b L) 18 i) cc V (zsA V 25 (upd (zA V 25) (81 * sd + n) (nI (400 * sd + r_nr (r_tK b L) i)))) := r_gr_H (k := n) r_gr_refl (Or.inr (Or.inl rfl)) (by rw [show r_hs 25 = 81 from rfl, Nat.mul_comm]) (by show n < 81; omega) (Nat.le_refl _)
  have m1 : r_mr b L M sd i (zsA V 25 (upd (zA V 25) (81 * sd + n) (nI (400 * sd + r_nr (r_tK b L) i)))) := r_mr_gr h f1 rfl rfl rfl rfl
  have e25 : zA (zsA V 25 (upd (zA V 25) (81 * sd + n) (nI (400 * sd + r_nr (r_tK b L) i)))) 25 (81 * sd + n) = nI (400 * sd + r_nr (r_tK b L) i) := by
    show upd (zA V 25) (81 * sd + n) _ (81 * sd + n) = _
    rw [y_upd, if_pos rfl]
  rw [fX12_tellRule_b120, hs.1, show (81 : Int32) = nI 81 from rfl, pk_mul, nI_add, y_ck (by omega) (by decide), y_let, nI_clamp (by omega), hk.1, m_is m1 (k := 14) (x := 34) (by decide) rfl, y_bd]
  by_cases q14 : r_tK b L i = 14
  rotate_left
  · rw [if_neg q14, if_pos rfl, if_neg q14]
    exact ⟨_, rfl, Nat.le_refl _, m1, h12, f1, e25, rfl, rfl, rfl, cc, hk, Nat.le_refl _, hcc, hnr, fun z => absurd z q14, fun _ => rfl⟩
  rw [if_pos q14, if_neg (by decide), if_pos q14]
  unfold r_pass
  by_cases qi : i < 1000
  rotate_left
  · rw [m_next_e m1 qi, y_bd, if_neg qi]
    have hme := r_me_pre f1.1 (m_fail_me m1 (f := 2) (Or.inr rfl))
    have h1 := r_me_mf hme hs
    obtain ⟨V2, d1, d2⟩ := m_rel_x (F := F) (by omega) _ h1
    obtain ⟨F', rfl⟩ : ∃ F', F = F' + 1 := ⟨F - 1, by omega⟩
    refine ⟨V2, ?_, r_me_trans hme d2⟩
    rw [d1, y_bd, fX12_tellRule_l155, m_is_x (r_mx_mf h1 d2), y_bd, if_pos rfl]
  obtain ⟨n1, n2⟩ := m_nextq (F := F) m1 (by omega) (by omega) (by omega) (by omega) qi
  have htl : r_tl b L (i + 1) = r_tl b L i := r_tl_same (fun z => by omega)
  have hnr1 : r_nr (r_tK b L) (i + 1) = r_nr (r_tK b L) i := by rw [r_nr, if_neg (by omega)]; rfl
  have hna1 : r_na (r_tK b L) (i + 1) = r_na (r_tK b L) i := by rw [r_na, if_neg (by omega)]; rfl
  have hcs1 : r_cn (r_tK b L) 18 (i + 1) = r_cn (r_tK b L) 18 i := r_cn_same (by omega)
  rw [n1, y_bd, if_pos qi]
  obtain ⟨V2, d1, d2⟩ := m_cnd (F := F) (x1 := nI n) hF hL 1001 F (i + 1) (r_nr (r_tK b L) i) (r_na (r_tK b L) i) (r_cn (r_tK b L) 18 i) cc (zsI (zsA V 25 (upd (zA V 25) (81 * sd + n) (nI (400 * sd + r_nr (r_tK b L) i)))) 0 11 (nI (i + 1))) (by omega) (by omega) n2 h12 hk (by omega) (by omega) (r_pv_of (by omega)) (by rw [htl]; exact h16)
  refine ⟨V2, d1, ?_⟩
  show match r_cnd (r_tK b L) 1001 (i + 1) with
    | .error (f, j) => r_me b L sd f j V V2
    | .ok c => _
  cases hx : r_cnd (r_tK b L) 1001 (i + 1) with
  | error e =>
    rw [hx] at d2
    exact r_me_pre (r_fx_I (k := 11) f1.1 (by decide)) d2
  | ok c =>
    rw [hx] at d2
    obtain ⟨g1, g2, g3, cr', cc', g4, g5, g6, g7, g8, g9, g10, g11, g12⟩ := d2
    obtain ⟨l1, l2⟩ := r_cnd_in (b := b) (L := L) 1001 (i + 1) c (by omega) (by omega) hx (r_pv_of (by omega))
    have ec : cr' = r_nr (r_tK b L) c := by omega
    have ena : r_na (r_tK b L) c = r_na (r_tK b L) i := (r_na_same (by omega) fun a h1 h2 => by have := l2 a h1 h2; unfold r_ek at this; omega).trans hna1
    have ecs : r_cn (r_tK b L) 18 c = r_cn (r_tK b L) 18 i := (r_cn_eq (by omega) fun a h1 h2 => by have := l2 a h1 h2; unfold r_ek at this; omega).trans hcs1
    subst ec
    refine ⟨by omega, g1, g2, r_gr_trans (r_gr_trans f1 (r_gr_gg (r_gg_I r_gg_refl (show 11 ∈ r_gs by decide))) (Nat.le_refl _) (Nat.le_refl _) (Nat.le_refl _) (Nat.le_refl _) (Nat.le_refl _)) (r_gr_gg g3) (Nat.le_refl _) (Nat.le_refl _) (Nat.le_refl _) (Nat.le_refl _) (Nat.le_refl _), ?_, ?_, ?_, g11.trans htl, cc', by rw [ena, ecs]; exact g4, g7, g8, g6, fun _ => g9, fun z => absurd q14 z⟩
    · rw [g3.2.2.1 25 (by decide)]; exact e25
    · rw [g3.2.2.1 24 (by decide)]; rfl
    · rw [g3.2.2.1 8 (by decide)]; rfl
/-- the colon, the ACTS, the semicolon -/
theorem m_rule3 {i cc n : Nat} (hF : 1200 ≤ F) (hL : L ≤ 4000) (h : r_mr b L M sd i V) (h12 : zI V 0 12 = 0) (hk : r_kt sd (r_nr (r_tK b L) i) (r_na (r_tK b L) i) (r_cn (r_tK b L) 18 i) cc V) (hcc : cc ≤ i) (hn : n < 80) (h8 : zA V 8 (9 * sd + 8) = nI n) (h16 : ∀ s c, r_lk (r_tl b L i) s 6 = some c → c < 16) :
    match r_b (r_need (r_tK b L) 30 i) fun j => r_b (r_act (r_tK b L) j) (r_actsS (r_tK b L) 13 1) with
      | .error (f, j) => ∃ V', fX12_tellRule_b175 F V (nI n) = some V' ∧ r_me b L sd f j V V'
      | .ok e => ∃ V', fX12_tellRule_b175 F V (nI n) = some V' ∧ r_tK b L i = 30 ∧ i + 2 < e ∧ r_tK b L (e - 1) = 29 ∧ r_mr b L M sd e V' ∧ zI V' 0 12 = 0 ∧ r_fx sd V V' ∧ (∀ k, k ∉ r_gs → zI V' 0 k = zI V 0 k) ∧ (∀ r, r ∉ r_ga → r ∉ [8, 25, 26] → zA V' r = zA V r) ∧ (∀ r, zB V' r = zB V r) ∧ (∀ r k, r_gb sd (r_nr (r_tK b L) i) (r_na (r_tK b L) i) (r_cn (r_tK b L) 18 i) cc r k → zA V' r k = zA V r k) ∧
        (∀ k, ¬ k = 9 * sd + 8 → zA V' 8 k = zA V 8 k) ∧ zA V' 8 (9 * sd + 8) = nI (n + 1) ∧ (∀ k, ¬ k = 81 * sd + n + 1 → zA V' 25 k = zA V 25 k) ∧ zA V' 25 (81 * sd + n + 1) = nI (400 * sd + r_nr (r_tK b L) i) ∧ (∀ k, ¬ k = 81 * sd + n → ¬ k = 81 * sd + n + 1 → zA V' 26 k = zA V 26 k) ∧ zA V' 26 (81 * sd + n) = nI (1000 * sd + r_na (r_tK b L) i) ∧ zA V' 26 (81 * sd + n + 1) = nI (1000 * sd + r_na (r_tK b L) e) ∧
        r_tl b L e = r_tl b L i ∧ r_nr (r_tK b L) e = r_nr (r_tK b L) i ∧ ∃ cc', r_kt sd (r_nr (r_tK b L) e) (r_na (r_tK b L) e) (r_cn (r_tK b L) 18 e) cc' V' ∧ cc ≤ cc' ∧ cc' ≤ e ∧ r_al b L sd (i + 1) (e - 1) cc' V' := by
  have lt := r_ms_lt h
  have hs := h.2.2.1
  have hsd := hs.2
  have hh1 : 81 * sd + n + 1 = sd * r_hs 25 + (n + 1) := by rw [show r_hs 25 = 81 from rfl]; omega
  have hh2 : 81 * sd + n = sd * r_hs 26 + n := by rw [show r_hs 26 = 81 from rfl]; omega
  have hh3 : 81 * sd + n + 1 = sd * r_hs 26 + (n + 1) := by rw [show r_hs 26 = 81 from rfl]; omega
  -- row 25
  have fx1 : r_fx sd V (zsA V 25 (upd (zA V 25) (81 * sd + n + 1) (nI (400 * sd + r_nr (r_tK b L) i)))) := r_fx_H r_fx_refl (by decide) hh1 (by show n + 1 < 81; omega)
  have m1 : r_mr b L M sd i (zsA V 25 (upd (zA V 25) (81 * sd + n + 1) (nI (400 * sd + r_nr (r_tK b L) i)))) := r_ms_eq h fx1 h.2.1.1 h.2.1.2.1 h.2.1.2.2 rfl rfl rfl rfl rfl rfl
  have hmust := m_must (F := F) m1 (k := 30) (x := 5) (by decide) rfl
  have b175 : fX12_tellRule_b175 F V (nI n) = zbd (fX12_must F (zsA V 25 (upd (zA V 25) (81 * sd + n + 1) (nI (400 * sd + r_nr (r_tK b L) i)))) 5) fun q30 => zchk (zix (((81 : Int32) * (zI q30 0 19)) + nI n) 162) <| zlet (zsA q30 26 (upd (zA q30 26) ((((81 : Int32) * (zI q30 0 19)) + nI n)).toNatClampNeg (zI q30 0 46))) fun V7_33 => fX12_tellRule_l223 F F V7_33 (nI n) (0 : Int32) (1 : Int32) := by
    rw [fX12_tellRule_b175, hs.1, show (81 : Int32) = nI 81 from rfl, pk_mul, nI_add, nI_1, y_ck (by omega) (by decide), y_let, nI_clamp (by omega), hk.1]
  rw [b175]
  cases hn30 : r_need (r_tK b L) 30 i with
  | error e =>
    rw [hn30] at hmust
    obtain ⟨V2, a1, a2⟩ := hmust
    have hme := r_me_pre fx1 a2
    have h2 := r_me_mf hme hs
    have x3 : r_mx sd V2 (zsA V2 26 (upd (zA V2 26) (81 * sd + n) (zI V2 0 46))) := ⟨r_fx_H r_fx_refl (by decide) hh2 (by show n < 81; omega), rfl, rfl, h2.2.1⟩
    have h3 := r_mx_mf h2 x3
    obtain ⟨V4, d1, d2⟩ := m_b301_x (F := F) (nI n) _ h3
    obtain ⟨F', rfl⟩ : ∃ F', F = F' + 1 := ⟨F - 1, by omega⟩
    refine ⟨V4, ?_, r_me_trans hme (r_mx_trans x3 d2)⟩
    rw [a1, y_bd, h2.2.2.1, show (81 : Int32) = nI 81 from rfl, pk_mul, nI_add, y_ck (by omega) (by decide), y_let, nI_clamp (by omega), fX12_tellRule_l223, if_neg (by decide), if_neg (r_mf_ne h3).2]
    exact d1
  | ok j =>
    rw [hn30] at hmust
    obtain ⟨a1, a2, a3⟩ := hmust
    obtain ⟨k30, rfl, hi999⟩ := r_need_ok hn30
    obtain ⟨u1, u2⟩ := r_quiet (b := b) (L := L) (i := i) (by omega) (by omega)
    have m2 : r_mr b L M sd (i + 1) (zsI (zsA V 25 (upd (zA V 25) (81 * sd + n + 1) (nI (400 * sd + r_nr (r_tK b L) i)))) 0 11 (nI (i + 1))) := r_mr_P a2 u1.symm u2
    have hnr1 : r_nr (r_tK b L) (i + 1) = r_nr (r_tK b L) i := by rw [r_nr, if_neg (by omega)]; rfl
    have hna1 : r_na (r_tK b L) (i + 1) = r_na (r_tK b L) i := by rw [r_na, if_neg (by omega)]; rfl
    have hcs1 : r_cn (r_tK b L) 18 (i + 1) = r_cn (r_tK b L) 18 i := r_cn_same (by omega)
    generalize hV3 : zsA (zsI (zsA V 25 (upd (zA V 25) (81 * sd + n + 1) (nI (400 * sd + r_nr (r_tK b L) i)))) 0 11 (nI (i + 1))) 26 (upd (zA V 26) (81 * sd + n) (nI (1000 * sd + r_na (r_tK b L) i))) = V3
    have fx3 : r_fx sd V V3 := by rw [← hV3]; exact r_fx_H (r_fx_I fx1 (by decide)) (by decide) hh2 (by show n < 81; omega)
    have m3 : r_mr b L M sd (i + 1) V3 := by
      rw [← hV3]
      exact r_ms_eq m2 (r_fx_H r_fx_refl (by decide) hh2 (by show n < 81; omega)) rfl m2.2.1.2.1 m2.2.1.2.2 rfl rfl rfl rfl rfl rfl
    have b1 : (zbd (fX12_must F (zsA V 25 (upd (zA V 25) (81 * sd + n + 1) (nI (400 * sd + r_nr (r_tK b L) i)))) 5) fun q30 => zchk (zix (((81 : Int32) * (zI q30 0 19)) + nI n) 162) <| zlet (zsA q30 26 (upd (zA q30 26) ((((81 : Int32) * (zI q30 0 19)) + nI n)).toNatClampNeg (zI q30 0 46))) fun V7_33 => fX12_tellRule_l223 F F V7_33 (nI n) (0 : Int32) (1 : Int32)) = fX12_tellRule_l223 F F V3 (nI n) (nI 0) 1 := by
      have e19 : zI (zsI (zsA V 25 (upd (zA V 25) (81 * sd + n + 1) (nI (400 * sd + r_nr (r_tK b L) i)))) 0 11 (nI (i + 1))) 0 19 = nI sd := hs.1
      have e46 : zI (zsI (zsA V 25 (upd (zA V 25) (81 * sd + n + 1) (nI (400 * sd + r_nr (r_tK b L) i)))) 0 11 (nI (i + 1))) 0 46 = nI (1000 * sd + r_na (r_tK b L) i) := hk.2.1
      rw [a1, y_bd, e19, show (81 : Int32) = nI 81 from rfl, pk_mul, nI_add, y_ck (by omega) (by decide), y_let, nI_clamp (by omega), e46, ← hV3]
      rfl
    have hk3 : r_kt sd (r_nr (r_tK b L) i) (r_na (r_tK b L) (i + 1)) (r_cn (r_tK b L) 18 (i + 1)) cc V3 := by
      rw [← hV3, hna1, hcs1]; exact hk
    rw [b1]
    obtain ⟨V4, d1, d2⟩ := m_actsl (F := F) (x1 := nI n) hF hL 13 0 F (i + 1) (r_nr (r_tK b L) i) cc V3 (by omega) (by omega) m3 (by rw [← hV3]; exact h12) hk3 (by omega) (by omega) (by omega) (by rw [u1]; exact h16)
    rw [d1]
    rw [if_neg (show ¬ 0 = 12 by decide)] at d2
    show match r_b (r_act (r_tK b L) (i + 1)) (r_actsS (r_tK b L) 13 1) with
      | .error (f, j) => ∃ V', fX12_tellRule_b301 F V4 (nI n) = some V' ∧ r_me b L sd f j V V'
      | .ok e => _
    have eaq : r_b (r_act (r_tK b L) (i + 1)) (r_actsS (r_tK b L) 13 1) = r_b (r_b (r_act (r_tK b L) (i + 1)) (r_aq (r_tK b L) 13 1)) (r_need (r_tK b L) 29) := by
      rw [r_b_assoc]
      congr 1
      funext k
      exact r_actsS_aq 13 1 k rfl (by decide)
    rw [eaq]
    cases hx : r_b (r_act (r_tK b L) (i + 1)) (r_aq (r_tK b L) 13 1) with
    | error e =>
      rw [hx] at d2
      have hme := r_me_pre fx3 d2
      obtain ⟨V5, g1, g2⟩ := m_b301_x (F := F) (nI n) V4 (r_me_mf hme hs)
      have g1 : fX12_tellRule_b301 F V4 (nI n) = some V5 := g1
      exact ⟨V5, g1, r_me_trans hme g2⟩
    | ok s =>
      rw [hx] at d2
      obtain ⟨g1, g2, g3, c2, g4, g5, g6, g7, g8, g9, g10⟩ := d2
      have lts := r_ms_lt g1
      have hm29 := m_must (F := F) g1 (k := 29) (x := 4) (by decide) rfl
      show match r_need (r_tK b L) 29 s with
        | .error (f, j) => ∃ V', fX12_tellRule_b301 F V4 (nI n) = some V' ∧ r_me b L sd f j V V'
        | .ok e => _
      cases hn29 : r_need (r_tK b L) 29 s with
      | error e =>
        rw [hn29] at hm29
        obtain ⟨V5, p1, p2⟩ := hm29
        have hme := r_me_pre fx3 (r_me_pre g3.1 p2)
        rw [fX12_tellRule_b301, p1, y_bd, if_neg (r_mf_ne (r_me_mf hme hs)).1]
        exact ⟨V5, rfl, hme⟩
      | ok e =>
        rw [hn29] at hm29
        obtain ⟨p1, p2, p3⟩ := hm29
        obtain ⟨k29, rfl, hs999⟩ := r_need_ok hn29
        obtain ⟨w1, w2⟩ := r_quiet (b := b) (L := L) (i := s) (by omega) (by omega)
        have m5 : r_mr b L M sd (s + 1) (zsI V4 0 11 (nI (s + 1))) := r_mr_P p2 w1.symm w2
        have e19 : zI (zsI V4 0 11 (nI (s + 1))) 0 19 = nI sd := m5.2.2.1.1
        have e8 : zA (zsI V4 0 11 (nI (s + 1))) 8 (9 * sd + 8) = nI n := by
          show zA V4 8 (9 * sd + 8) = nI n
          rw [g3.2.2.1 8 (by decide), ← hV3]; exact h8
        have e46 : zI V4 0 46 = nI (1000 * sd + r_na (r_tK b L) s) := g4.2.1
        have hna2 : r_na (r_tK b L) (s + 1) = r_na (r_tK b L) s := by rw [r_na, if_neg (by omega)]; rfl
        have hnr2 : r_nr (r_tK b L) (s + 1) = r_nr (r_tK b L) i := by
          rw [r_nr, if_neg (by omega), Nat.add_zero, r_nr_same (i := i + 1) (by omega) fun a h1 h2 => by have := g10 a h1 h2; unfold r_ek at this; omega, hnr1]
        have hcs2 : r_cn (r_tK b L) 18 (s + 1) = r_cn (r_tK b L) 18 s := r_cn_same (by omega)
        have g12' : ∀ f, zI (zsA (zsI V4 0 11 (nI (s + 1))) 8 f) 0 19 = nI sd := fun _ => e19
        have g13' : ∀ f, zI (zsA (zsI V4 0 11 (nI (s + 1))) 8 f) 0 46 = nI (1000 * sd + r_na (r_tK b L) s) := fun _ => e46
        have g14' : ∀ f, zA (zsA (zsI V4 0 11 (nI (s + 1))) 8 f) 26 = zA V4 26 := fun _ => rfl
        rw [fX12_tellRule_b301, p1, y_bd, if_pos (show zI (zsI V4 0 11 (nI (s + 1))) 0 13 ≤ 0 by rw [m5.2.1.2.1]; decide)]
        simp only [e19, show (9 : Int32) = nI 9 from rfl, show (8 : Int32) = nI 8 from rfl, show (81 : Int32) = nI 81 from rfl, pk_mul, nI_add, nI_1, y_ck (show 9 * sd + 8 < 18 by omega) (show 18 < 2 ^ 31 by decide), y_ck (show 81 * sd + n + 1 < 162 by omega) (show 162 < 2 ^ 31 by decide), y_let, nI_clamp (show 9 * sd + 8 < 2 ^ 31 by omega), nI_clamp (show 81 * sd + n + 1 < 2 ^ 31 by omega), e8, g12', g13', g14']
        have fx6 : r_fx sd V (zsA (zsA (zsI V4 0 11 (nI (s + 1))) 8 (upd (zA (zsI V4 0 11 (nI (s + 1))) 8) (9 * sd + 8) (nI (n + 1)))) 26 (upd (zA V4 26) (81 * sd + n + 1) (nI (1000 * sd + r_na (r_tK b L) s)))) :=
          r_fx_H (r_fx_H (k := 8) (r_fx_trans fx3 (r_fx_I g3.1 (by decide))) (by decide) (by rw [show r_hs 8 = 9 from rfl, Nat.mul_comm]) (by decide)) (by decide) hh3 (by show n + 1 < 81; omega)
        have m6 : r_mr b L M sd (s + 1) (zsA (zsA (zsI V4 0 11 (nI (s + 1))) 8 (upd (zA (zsI V4 0 11 (nI (s + 1))) 8) (9 * sd + 8) (nI (n + 1)))) 26 (upd (zA V4 26) (81 * sd + n + 1) (nI (1000 * sd + r_na (r_tK b L) s)))) :=
          r_ms_eq m5 (r_fx_H (r_fx_H (k := 8) r_fx_refl (by decide) (by rw [show r_hs 8 = 9 from rfl, Nat.mul_comm]) (by decide)) (by decide) hh3 (by show n + 1 < 81; omega)) rfl m5.2.1.2.1 m5.2.1.2.2 rfl rfl rfl rfl rfl rfl
        have r25 : zA V4 25 = upd (zA V 25) (81 * sd + n + 1) (nI (400 * sd + r_nr (r_tK b L) i)) := by rw [g3.2.2.1 25 (by decide), ← hV3]; rfl
        have r26 : zA V4 26 = upd (zA V 26) (81 * sd + n) (nI (1000 * sd + r_na (r_tK b L) i)) := by rw [g3.2.2.1 26 (by decide), ← hV3]; rfl
        have r8 : zA V4 8 = zA V 8 := by rw [g3.2.2.1 8 (by decide), ← hV3]; rfl
        have hal : r_al b L sd (i + 1) (s + 1 - 1) c2 (zsA (zsA (zsI V4 0 11 (nI (s + 1))) 8 (upd (zA (zsI V4 0 11 (nI (s + 1))) 8) (9 * sd + 8) (nI (n + 1)))) 26 (upd (zA V4 26) (81 * sd + n + 1) (nI (1000 * sd + r_na (r_tK b L) s)))) := g7
        refine ⟨_, rfl, k30, by omega, by rw [Nat.add_sub_cancel]; exact k29, m6, g2, fx6, fun k hk' => ?_, fun r hr1 hr2 => ?_, fun r => ?_, fun r k m => ?_, fun k hk' => ?_, ?_, fun k hk' => ?_, ?_, fun k hk1 hk2 => ?_, ?_, ?_, ?_, hnr2, c2, ?_, g5, by omega, hal⟩
        · show zI (zsI V4 0 11 (nI (s + 1))) 0 k = zI V 0 k
          rw [y_get.1, if_neg (fun z => hk' (by rw [z.2]; decide)), g3.2.1 k hk', ← hV3]
          show zI (zsI (zsA V 25 _) 0 11 (nI (i + 1))) 0 k = zI V 0 k
          rw [y_get.1, if_neg (fun z => hk' (by rw [z.2]; decide))]; rfl
        · show (if r = 26 then _ else if r = 8 then _ else zA V4 r) = zA V r
          rw [if_neg (fun z => hr2 (by rw [z]; decide)), if_neg (fun z => hr2 (by rw [z]; decide)), g3.2.2.1 r hr1, ← hV3]
          show (if r = 26 then _ else if r = 25 then _ else zA V r) = zA V r
          rw [if_neg (fun z => hr2 (by rw [z]; decide)), if_neg (fun z => hr2 (by rw [z]; decide))]
        · show zB V4 r = zB V r
          rw [g3.2.2.2.1 r, ← hV3]; rfl
        · have hr : ¬ r = 26 ∧ ¬ r = 8 ∧ ¬ r = 25 := by unfold r_gb at m; omega
          show (if r = 26 then _ else if r = 8 then _ else zA V4 r) k = zA V r k
          rw [if_neg hr.1, if_neg hr.2.1, g3.2.2.2.2 r k (by rw [hna1, hcs1]; exact m), ← hV3]
          show (if r = 26 then _ else if r = 25 then _ else zA V r) k = zA V r k
          rw [if_neg hr.1, if_neg hr.2.2]
        · show upd (zA V4 8) (9 * sd + 8) _ k = _
          rw [y_upd, if_neg hk', r8]
        · show upd (zA V4 8) (9 * sd + 8) _ (9 * sd + 8) = _
          rw [y_upd, if_pos rfl]
        · show zA V4 25 k = _
          rw [r25, y_upd, if_neg hk']
        · show zA V4 25 _ = _
          rw [r25, y_upd, if_pos rfl]
        · show upd (zA V4 26) (81 * sd + n + 1) _ k = _
          rw [y_upd, if_neg hk2, r26, y_upd, if_neg hk1]
        · show upd (zA V4 26) (81 * sd + n + 1) _ (81 * sd + n) = _
          rw [y_upd, if_neg (by omega), r26, y_upd, if_pos rfl]
        · show upd (zA V4 26) (81 * sd + n + 1) _ (81 * sd + n + 1) = _
          rw [y_upd, if_pos rfl, hna2]
        · exact w1.trans (g9.trans u1)
        · rw [hnr2, hna2, hcs2]; exact g4
end
