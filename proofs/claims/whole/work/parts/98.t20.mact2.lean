/-! ===== an ACT in the reference ===== -/
section
variable {F : Nat} {b : Nat → Nat} {L M sd : Nat} {V : zV}
/-- act number a of token i, whose E ends at e -/
def r_ac (b : Nat → Nat) (L sd a i e cm : Nat) (V : zV) : Prop := zA V 31 a = nI (r_tK b L i + 19) ∧
  (r_tK b L i = 17 → zA V 32 a = nI ((r_lk (r_tl b L (i + 1)) (r_tW b L (i + 1)) 6).getD 0)) ∧
  (r_tK b L i = 20 → zA V 32 a = nI ((r_lk (r_tl b L (i + 1)) (r_tW b L (i + 1)) 1).getD 0)) ∧
  ((r_tK b L i = 16 ∨ r_tK b L i = 17) → ∃ lo hi, 1200 * sd ≤ lo ∧ lo ≤ hi ∧ hi ≤ 1200 * sd + cm ∧ zA V 33 a = nI lo ∧ zA V 34 a = nI hi ∧
    ∀ E T, r_TT b L E T → e < E → r_fol (r_tK b L e) → ∀ vars left ip, ∃ v, y_E T vars left ip (if r_tK b L i = 17 then i + 2 else i + 1) = some (v, e) ∧ y_mE V vars left ip lo hi = some v)
theorem r_quiet7 {i : Nat} (h1 : r_tK b L i = 27) (h2 : r_ro (r_tK b L) i = 7) (h3 : ¬ r_tK b L (i - 1) = 27) : r_tl b L (i + 1) = r_tl b L i ∧ ∀ j k, r_wp b L (i + 1) j k ↔ r_wp b L i j k := by
  refine ⟨r_tl_same fun z => by have := z.2; omega, fun j k => ⟨fun z => ⟨?_, z.2⟩, fun z => ⟨by have := z.1; omega, z.2⟩⟩⟩
  by_cases q : j = i
  · subst q
    exfalso
    rcases z.2 with ⟨-, z | z | z⟩ | z
    · have := z.2.1; omega
    · have := z.2.1; omega
    · exact h3 z.2.1
    · have := z.2.1; omega
  · have := z.1; omega
theorem m_b149_x (x1 x2 x3 : Int32) (h : r_mf sd V) : fX12_tellAct_b149 F V x1 x2 x3 = some V := by
  rw [fX12_tellAct_b149, if_neg (r_mf_ne h).1]
theorem m_b128_x (hF : 2 ≤ F) (x1 x2 : Int32) (h : r_mf sd V) : ∃ V', fX12_tellAct_b128 F V x1 x2 = some V' ∧ r_mx sd V V' := by
  have h145 : ∀ x3, ∃ V', fX12_tellAct_b145 F V x1 x2 x3 = some V' ∧ r_mx sd V V' := by
    intro x3
    obtain ⟨V1, a1, a2⟩ := m_exp_xx (F := F) hF V h
    rw [fX12_tellAct_b145, a1, y_bd, m_b149_x _ _ _ (r_mx_mf h a2)]
    exact ⟨V1, rfl, a2⟩
  rw [fX12_tellAct_b128]
  split
  · exact h145 _
  split
  · exact h145 _
  · rw [m_b149_x _ _ _ h]; exact ⟨V, rfl, r_mx_self h⟩
theorem m_b73_x (hF : 2 ≤ F) (x1 x2 : Int32) (hx : ¬ x1 = 37) (h : r_mf sd V) : ∃ V', fX12_tellAct_b73 F V x1 x2 = some V' ∧ r_mx sd V V' := by
  rw [fX12_tellAct_b73, if_neg hx]
  exact m_b128_x hF x1 x2 h
theorem m_act_x : r_xg sd (fX12_tellAct F) := by
  intro V h
  obtain ⟨i, hi, e⟩ := h.2.1
  obtain ⟨V1, a1, a2⟩ := m_next_x (F := F) V h
  rw [fX12_tellAct, e, y_ck (by omega) (by decide), y_let, if_neg (r_mf_ne h).2, fX12_tellAct_b34, a1, y_bd, if_neg (r_mf_ne (r_mx_mf h a2)).1]
  exact ⟨V1, rfl, a2⟩
theorem r_actk : ∀ k : Fin 43, ¬ (16 ≤ k.1 ∧ k.1 ≤ 24) → (nI (r_rk k.1) < 35 ∨ ¬ nI (r_rk k.1) ≤ 43) := by decide +kernel
theorem r_actk2 : ∀ k : Fin 43, (16 ≤ k.1 ∧ k.1 ≤ 24) → nI (r_rk k.1) = nI (k.1 + 19) := by decide +kernel
/-- the act is laid -/
theorem m_b149 {i e cr ca cs cc c1 cs1 k lo : Nat} {x2 : Int32} {V0 : zV} (hr : r_mr b L M sd e V) (h12 : zI V 0 12 = 0) (f : r_gg sd cr ca cs cc V0 V) (hk : r_kt sd cr ca cs1 c1 V) (hca : ca < 1000) (hki : r_tK b L i = k) (h1 : 16 ≤ k) (h2 : k ≤ 24) (hlo : lo ≤ c1) (hlo2 : 1200 * sd ≤ 1200 * sd + lo) (hc1 : c1 ≤ 1200)
    (hw : (k = 17 → x2 = nI ((r_lk (r_tl b L (i + 1)) (r_tW b L (i + 1)) 6).getD 0)) ∧ (k = 20 → x2 = nI ((r_lk (r_tl b L (i + 1)) (r_tW b L (i + 1)) 1).getD 0)))
    (he : (k = 16 ∨ k = 17) → ∀ E T, r_TT b L E T → e < E → r_fol (r_tK b L e) → ∀ vars left ip, ∃ v, y_E T vars left ip (if k = 17 then i + 2 else i + 1) = some (v, e) ∧ y_mE V vars left ip (1200 * sd + lo) (1200 * sd + c1) = some v) :
    ∃ V', fX12_tellAct_b149 F V (nI (k + 19)) x2 (nI (1200 * sd + lo)) = some V' ∧ r_mr b L M sd e V' ∧ zI V' 0 12 = 0 ∧ r_gg sd cr ca cs cc V0 V' ∧ r_kt sd cr (ca + 1) cs1 c1 V' ∧ r_ac b L sd (1000 * sd + ca) i e c1 V' ∧ zA V' 35 = zA V 35 ∧ zA V' 36 = zA V 36 := by
  have hsd := hr.2.2.1.2
  obtain ⟨k1, k2, k3, k4⟩ := hk
  have g2 : ∀ f, zI (zsA V 31 f) 0 46 = nI (1000 * sd + ca) := fun _ => k2
  have g3 : ∀ f g, zI (zsA (zsA V 31 f) 32 g) 0 46 = nI (1000 * sd + ca) := fun _ _ => k2
  have g4 : ∀ f g u, zI (zsA (zsA (zsA V 31 f) 32 g) 33 u) 0 46 = nI (1000 * sd + ca) := fun _ _ _ => k2
  have g5 : ∀ f g u v, zI (zsA (zsA (zsA (zsA V 31 f) 32 g) 33 u) 34 v) 0 46 = nI (1000 * sd + ca) := fun _ _ _ _ => k2
  have g6 : ∀ f g u, zI (zsA (zsA (zsA V 31 f) 32 g) 33 u) 0 54 = nI (1200 * sd + c1) := fun _ _ _ => k4
  have g7 : ∀ f, zA (zsA V 31 f) 32 = zA V 32 := fun _ => rfl
  have g8 : ∀ f g, zA (zsA (zsA V 31 f) 32 g) 33 = zA V 33 := fun _ _ => rfl
  have g9 : ∀ f g u, zA (zsA (zsA (zsA V 31 f) 32 g) 33 u) 34 = zA V 34 := fun _ _ _ => rfl
  rw [fX12_tellAct_b149, if_pos (show zI V 0 13 ≤ 0 by rw [hr.2.1.2.1]; decide)]
  simp only [k2, g2, g3, g4, g5, g6, g7, g8, g9, y_let, y_ck (show 1000 * sd + ca < 2000 by omega) (show 2000 < 2 ^ 31 by decide), nI_clamp (show 1000 * sd + ca < 2 ^ 31 by omega), nI_1]
  have hb : ∀ r, (r = 31 ∨ r = 32 ∨ r = 33 ∨ r = 34) → ¬ r_gb sd cr ca cs cc r (1000 * sd + ca) := by
    intro r hr z
    unfold r_gb at z
    omega
  have hh : ∀ r, (r = 31 ∨ r = 32 ∨ r = 33 ∨ r = 34) → 1000 * sd + ca = sd * r_hs r + ca ∧ ca < r_hs r := by
    intro r hr
    have : r_hs r = 1000 := by rcases hr with rfl | rfl | rfl | rfl <;> rfl
    rw [this]
    exact ⟨by rw [Nat.mul_comm], by omega⟩
  have w31 := r_gg_H (x := nI (k + 19)) f (r := 31) (by decide) (by decide) (hh 31 (by omega)).1 (hh 31 (by omega)).2 (hb 31 (by omega))
  have w32 := r_gg_H (x := x2) w31 (r := 32) (by decide) (by decide) (hh 32 (by omega)).1 (hh 32 (by omega)).2 (hb 32 (by omega))
  have w33 := r_gg_H (x := nI (1200 * sd + lo)) w32 (r := 33) (by decide) (by decide) (hh 33 (by omega)).1 (hh 33 (by omega)).2 (hb 33 (by omega))
  have w34 := r_gg_H (x := nI (1200 * sd + c1)) w33 (r := 34) (by decide) (by decide) (hh 34 (by omega)).1 (hh 34 (by omega)).2 (hb 34 (by omega))
  rw [g7, g8, g9] at w34
  have fx := r_fx_H (x := nI (1200 * sd + c1)) (r_fx_H (x := nI (1200 * sd + lo)) (r_fx_H (x := x2) (r_fx_H (x := nI (k + 19)) (r_fx_refl (sd := sd) (V := V)) (r := 31) (by decide) (hh 31 (by omega)).1 (hh 31 (by omega)).2) (r := 32) (by decide) (hh 32 (by omega)).1 (hh 32 (by omega)).2) (r := 33) (by decide) (hh 33 (by omega)).1 (hh 33 (by omega)).2) (r := 34) (by decide) (hh 34 (by omega)).1 (hh 34 (by omega)).2
  rw [g7, g8, g9] at fx
  refine ⟨_, rfl, ?_, h12, r_gg_I w34 (by decide), ⟨k1, rfl, k3, k4⟩, ⟨?_, fun q => ?_, fun q => ?_, fun q => ⟨1200 * sd + lo, 1200 * sd + c1, by omega, by omega, by omega, ?_, ?_, fun E T hT hE hfol vars left ip => ?_⟩⟩, rfl, rfl⟩
  · exact r_ms_eq hr (r_fx_I fx (by decide)) hr.2.1.1 hr.2.1.2.1 hr.2.1.2.2 rfl rfl rfl rfl rfl rfl
  · show upd (zA V 31) (1000 * sd + ca) _ (1000 * sd + ca) = _
    rw [y_upd, if_pos rfl, hki]
  · show upd (zA V 32) (1000 * sd + ca) _ (1000 * sd + ca) = _
    rw [y_upd, if_pos rfl]; exact hw.1 (by omega)
  · show upd (zA V 32) (1000 * sd + ca) _ (1000 * sd + ca) = _
    rw [y_upd, if_pos rfl]; exact hw.2 (by omega)
  · show upd (zA V 33) (1000 * sd + ca) _ (1000 * sd + ca) = _
    rw [y_upd, if_pos rfl]
  · show upd (zA V 34) (1000 * sd + ca) _ (1000 * sd + ca) = _
    rw [y_upd, if_pos rfl]
  · rw [hki]
    exact he (by omega) E T hT hE hfol vars left ip
theorem m_b128 {i j cr ca cs cc c1 cs1 k : Nat} {x2 : Int32} {V0 : zV} (hF : 1200 ≤ F) (hL : L ≤ 4000) (hr : r_mr b L M sd j V) (h12 : zI V 0 12 = 0) (f : r_gg sd cr ca cs cc V0 V) (hk : r_kt sd cr ca cs1 c1 V) (hca : ca < 1000) (hki : r_tK b L i = k) (h1 : 16 ≤ k) (h2 : k ≤ 24) (hc1 : c1 ≤ j) (hcc : cc ≤ c1)
    (hw : (k = 17 → x2 = nI ((r_lk (r_tl b L (i + 1)) (r_tW b L (i + 1)) 6).getD 0)) ∧ (k = 20 → x2 = nI ((r_lk (r_tl b L (i + 1)) (r_tW b L (i + 1)) 1).getD 0)))
    (hj : (k = 16 → j = i + 1) ∧ (k = 17 → j = i + 2)) (hpv : (k = 16 ∨ k = 17) → r_pv (r_tK b L) j) (h16 : ∀ s c, r_lk (r_tl b L j) s 6 = some c → c < 16) :
    r_oo b L M sd cr ca cs cc V0 (fX12_tellAct_b128 F V (nI (k + 19)) x2) (if k = 16 ∨ k = 17 then r_exp (r_tK b L) j else .ok j) fun e V' => ∃ cc', r_kt sd cr (ca + 1) cs1 cc' V' ∧ c1 ≤ cc' ∧ cc' ≤ e ∧ r_ac b L sd (1000 * sd + ca) i e cc' V' ∧ zA V' 35 = zA V 35 ∧ zA V' 36 = zA V 36 := by
  have lt := r_ms_lt hr
  have hs := hr.2.2.1
  have e145 : (k = 16 ∨ k = 17) → r_oo b L M sd cr ca cs cc V0 (fX12_tellAct_b145 F V (nI (k + 19)) x2 (nI (1200 * sd + c1))) (if k = 16 ∨ k = 17 then r_exp (r_tK b L) j else .ok j) fun e V' => ∃ cc', r_kt sd cr (ca + 1) cs1 cc' V' ∧ c1 ≤ cc' ∧ cc' ≤ e ∧ r_ac b L sd (1000 * sd + ca) i e cc' V' ∧ zA V' 35 = zA V 35 ∧ zA V' 36 = zA V 36 := by
    intro q
    rw [if_pos q]
    have ex := m_exp (F := F) hF hL hr h12 hk.2.2.2 hc1 (hpv q) h16
    rw [fX12_tellAct_b145]
    cases hsx : r_exp (r_tK b L) j with
    | error e =>
      rw [hsx] at ex
      obtain ⟨V1, a1, a2⟩ := ex
      have hme := r_me_pre f.1 a2
      rw [a1, y_bd, m_b149_x _ _ _ (r_me_mf a2 hs)]
      exact ⟨V1, rfl, hme⟩
    | ok e =>
      rw [hsx] at ex
      obtain ⟨V1, c2, a1, a2, a3, a4, a5, a6, a7, a8⟩ := ex
      have lt2 := r_ms_lt a2
      have f1 := r_gg_trans f (r_gg_ee (cr := cr) (ca := ca) (cs := cs) a7) (Nat.le_refl _) (Nat.le_refl _) (Nat.le_refl _) hcc
      have hk1 : r_kt sd cr ca cs1 c2 V1 := ⟨(a7.2.1 41 (by decide)).trans hk.1, (a7.2.1 46 (by decide)).trans hk.2.1, (a7.2.1 51 (by decide)).trans hk.2.2.1, a4⟩
      obtain ⟨V2, d1, d2, d3, d4, d5, d6, d7, d8⟩ := m_b149 (F := F) (lo := c1) (x2 := x2) a2 a3 f1 hk1 hca hki h1 h2 a5 (by omega) (by omega) hw fun _ E T hT hE hfol vars left ip => by
        have := a8 E T hT hE (by unfold r_fol at hfol; omega) vars left ip
        by_cases q17 : k = 17
        · rw [if_pos q17, ← hj.2 q17]; exact this
        · rw [if_neg q17, ← hj.1 (by omega)]; exact this
      rw [a1, y_bd, d1]
      exact ⟨V2, rfl, d2, d3, d4, c2, d5, by omega, by omega, d6, d7.trans (a7.2.2.1 35 (by decide)), d8.trans (a7.2.2.1 36 (by decide))⟩
  rw [fX12_tellAct_b128, hk.2.2.2]
  by_cases q16 : k = 16
  · rw [if_pos (show nI (k + 19) = (35 : Int32) by rw [q16]; rfl)]; exact e145 (Or.inl q16)
  rw [if_neg (show ¬ nI (k + 19) = (35 : Int32) from fun z => q16 (by have := (nI_eq (b := 35) (by omega) (by decide)).mp z; omega))]
  by_cases q17 : k = 17
  · rw [if_pos (show nI (k + 19) = (36 : Int32) by rw [q17]; rfl)]; exact e145 (Or.inr q17)
  rw [if_neg (show ¬ nI (k + 19) = (36 : Int32) from fun z => q17 (by have := (nI_eq (b := 36) (by omega) (by decide)).mp z; omega)), if_neg (show ¬ (k = 16 ∨ k = 17) from fun z => z.elim q16 q17)]
  obtain ⟨V2, d1, d2, d3, d4, d5, d6, d7, d8⟩ := m_b149 (F := F) (lo := c1) (x2 := x2) hr h12 f hk hca hki h1 h2 (Nat.le_refl _) (by omega) (by omega) hw fun z => absurd z (fun z => z.elim q16 q17)
  rw [d1]
  exact ⟨V2, rfl, d2, d3, d4, c1, d5, Nat.le_refl _, hc1, d6, d7, d8⟩
/-- an ACT; a 'start' is noted -/
def r_stt (b : Nat → Nat) (L sd ca i cs cs' : Nat) (V : zV) : Prop := if r_tK b L i = 18 then cs' = cs + 1 ∧ zA V 35 cs = nI (1000 * sd + ca) ∧ zA V 36 cs = nI (i + 1) else cs' = cs
theorem m_act {i cr ca cs cc : Nat} (hF : 1200 ≤ F) (hL : L ≤ 4000) (h : r_mr b L M sd i V) (h12 : zI V 0 12 = 0) (hk : r_kt sd cr ca cs cc V) (hca : ca ≤ i) (hcs : cs ≤ i) (hcc : cc ≤ i) (hi0 : 0 < i) (h16 : ∀ s c, r_lk (r_tl b L i) s 6 = some c → c < 16) :
    r_oo b L M sd cr ca cs cc V (fX12_tellAct F V) (r_act (r_tK b L) i) fun e V' => ∃ cc' cs', r_kt sd cr (ca + 1) cs' cc' V' ∧ cc ≤ cc' ∧ cc' ≤ e ∧ cs ≤ cs' ∧ cs' ≤ e ∧ r_ac b L sd (1000 * sd + ca) i e cc' V' ∧ r_stt b L sd ca i cs cs' V' ∧ i < e ∧ r_tl b L e = r_tl b L i := by
  have lt := r_ms_lt h
  have hs := h.2.2.1
  have kle := r_tK_le (b := b) (L := L) i
  have h13 := h.2.1.2.1
  rw [fX12_tellAct, h.2.1.1, y_ck (by omega) (by decide), y_let, nI_clamp (by omega), m_kt h, if_pos h13]
  unfold r_act
  by_cases q : 16 ≤ r_tK b L i ∧ r_tK b L i ≤ 24
  rotate_left
  · -- no act
    have hme := m_fail_me h (f := 1) (Or.inl rfl)
    have h1 := r_me_mf hme hs
    obtain ⟨V2, d1, d2⟩ := m_next_x (F := F) _ h1
    have e29 : fX12_tellAct_b29 F V (nI (r_rk (r_tK b L i))) = some V2 := by
      rw [fX12_tellAct_b29, show (1 : Int32) = nI 1 from rfl, m_fail h, y_bd, fX12_tellAct_b34, d1, y_bd, if_neg (r_mf_ne (r_mx_mf h1 d2)).1]
    rw [if_neg q]
    refine ⟨V2, ?_, r_me_trans hme d2⟩
    rcases r_actk ⟨r_tK b L i, by omega⟩ q with z | z
    · rw [if_pos z, e29]
    · rw [if_neg z, e29, ite_self]
  rw [if_pos q]
  have ek := r_actk2 ⟨r_tK b L i, by omega⟩ q
  have ek : nI (r_rk (r_tK b L i)) = nI (r_tK b L i + 19) := ek
  rw [ek, if_neg (show ¬ nI (r_tK b L i + 19) < (35 : Int32) from nI_nlt (b := 35) (by omega) (by omega)), if_pos (show nI (r_tK b L i + 19) ≤ (43 : Int32) from nI_le (b := 43) (by omega) (by decide)), fX12_tellAct_b34]
  unfold r_pass
  by_cases qi : i < 1000
  rotate_left
  · rw [m_next_e h qi, y_bd, if_neg qi]
    have hme := m_fail_me h (f := 2) (Or.inr rfl)
    rw [if_neg (r_mf_ne (r_me_mf hme hs)).1]
    exact ⟨_, rfl, hme⟩
  obtain ⟨n1, n2⟩ := m_nextq (F := F) h (by omega) (by omega) (by omega) (by omega) qi
  have htl : r_tl b L (i + 1) = r_tl b L i := r_tl_same (fun z => by omega)
  rw [n1, y_bd, if_pos qi, if_pos (show zI (zsI V 0 11 (nI (i + 1))) 0 13 ≤ 0 by rw [n2.2.1.2.1]; decide)]
  have hk1 : r_kt sd cr ca cs cc (zsI V 0 11 (nI (i + 1))) := hk
  have f1 : r_gg sd cr ca cs cc V (zsI V 0 11 (nI (i + 1))) := r_gg_I r_gg_refl (by decide)
  have ke : ∀ a : Nat, a ≤ 42 → ¬ r_tK b L i = a → ¬ nI (r_tK b L i + 19) = nI (a + 19) := fun a ha z y => z (by have := (nI_eq (by omega) (by omega)).mp y; omega)
  -- the role of a name behind the word
  have ro1 : (r_tK b L i = 17 → r_ro (r_tK b L) (i + 1) = 6) ∧ (r_tK b L i = 20 → r_ro (r_tK b L) (i + 1) = 1) ∧ (r_tK b L i = 18 → r_ro (r_tK b L) (i + 1) = 7) := by
    refine ⟨fun z => ?_, fun z => ?_, fun z => ?_⟩ <;> unfold r_ro <;> rw [show i + 1 - 1 = i by omega, z] <;> rfl
  -- behind 'set' and 'fire'
  have nm : ∀ s, s < 7 → r_ro (r_tK b L) (i + 1) = s → ¬ r_tK b L i = 27 → match r_need (r_tK b L) 27 (i + 1) with
      | .error (f, j) => ∃ V' x, fX12_namedNext F (zsI V 0 11 (nI (i + 1))) (nI s) = some (x, V') ∧ r_me b L sd f j V V'
      | .ok j => ∃ V', fX12_namedNext F (zsI V 0 11 (nI (i + 1))) (nI s) = some (nI ((r_lk (r_tl b L (i + 1)) (r_tW b L (i + 1)) s).getD 0), V') ∧ r_mr b L M sd j V' ∧ zI V' 0 12 = 0 ∧ r_gg sd cr ca cs cc V V' ∧ r_kt sd cr ca cs cc V' ∧ zA V' 35 = zA V 35 ∧ zA V' 36 = zA V 36 ∧ j = i + 2 ∧ r_tl b L j = r_tl b L i := by
    intro s hs7 hro hno
    have nn := m_nn (F := F) (by omega) hL n2 (fun j k z => z.1) (s := s) (by omega)
    cases hn : r_need (r_tK b L) 27 (i + 1) with
    | error e =>
      rw [hn] at nn
      obtain ⟨V1, x, a1, a2⟩ := nn
      exact ⟨V1, x, a1, r_me_pre f1.1 a2⟩
    | ok j =>
      rw [hn] at nn
      obtain ⟨V1, a1, a2, a3⟩ := nn
      obtain ⟨k27, rfl, -⟩ := r_need_ok hn
      obtain ⟨u1, u2⟩ := r_use (b := b) (L := L) (i := i + 1) k27 hro hs7 (by rw [show i + 1 - 1 = i by omega]; exact fun z => hno z.1)
      have fs : r_gg sd cr ca cs cc V V1 := r_gg_trans (r_gg_I f1 (k := 11) (x := nI (i + 1 + 1)) (by decide)) (r_gg_sw (cr := cr) (ca := ca) (cs := cs) (cc := cc) a3) (Nat.le_refl _) (Nat.le_refl _) (Nat.le_refl _) (Nat.le_refl _)
      have sc : ∀ k, ¬ k = 15 → ¬ k = 16 → ¬ k = 11 → zI V1 0 k = zI V 0 k := fun k h1 h2 h3 => (a3.1 0 k fun z => z.2.elim h1 h2).trans (by rw [y_get.1, if_neg (fun z => h3 z.2), y_get.1, if_neg (fun z => h3 z.2)])
      exact ⟨V1, a1, r_mr_P a2 u1.symm u2, (sc 12 (by decide) (by decide) (by decide)).trans h12, fs, ⟨(sc 41 (by decide) (by decide) (by decide)).trans hk.1, (sc 46 (by decide) (by decide) (by decide)).trans hk.2.1, (sc 51 (by decide) (by decide) (by decide)).trans hk.2.2.1, (sc 54 (by decide) (by decide) (by decide)).trans hk.2.2.2⟩, a3.2.1 35, a3.2.1 36, rfl, u1.trans htl⟩
  show r_oo b L M sd cr ca cs cc V _ (r_b (if r_tK b L i = 17 ∨ r_tK b L i = 18 ∨ r_tK b L i = 20 then r_need (r_tK b L) 27 (i + 1) else .ok (i + 1)) fun j => if r_tK b L i = 16 ∨ r_tK b L i = 17 then r_exp (r_tK b L) j else .ok j) _
  by_cases q17 : r_tK b L i = 17
  · -- set
    have nn := nm 6 (by omega) (ro1.1 q17) (by omega)
    rw [if_pos (show nI (r_tK b L i + 19) = (36 : Int32) by rw [q17]; rfl), if_pos (show r_tK b L i = 17 ∨ r_tK b L i = 18 ∨ r_tK b L i = 20 from Or.inl q17)]
    have nm6 : ∀ V x, fX12_namedNext F V 6 = some x ↔ fX12_namedNext F V (nI 6) = some x := fun _ _ => Iff.rfl
    cases hn : r_need (r_tK b L) 27 (i + 1) with
    | error e =>
      rw [hn] at nn
      obtain ⟨V1, x, a1, a2⟩ := nn
      have h1 := r_me_mf a2 hs
      obtain ⟨V2, d1, d2⟩ := m_b73_x (F := F) (by omega) (nI (r_tK b L i + 19)) x (by rw [q17]; decide) h1
      rw [show (6 : Int32) = nI 6 from rfl, a1, y_bd, fX12_tellAct_b61, if_neg (show ¬ nI (r_tK b L i + 19) = (39 : Int32) by rw [q17]; decide), d1]
      exact ⟨V2, rfl, r_me_trans a2 d2⟩
    | ok j =>
      rw [hn] at nn
      obtain ⟨V1, a1, a2, a3, a4, a5, a6, a7, rfl, a8⟩ := nn
      rw [show (6 : Int32) = nI 6 from rfl, a1, y_bd, fX12_tellAct_b61, if_neg (show ¬ nI (r_tK b L i + 19) = (39 : Int32) by rw [q17]; decide), fX12_tellAct_b73, if_neg (show ¬ nI (r_tK b L i + 19) = (37 : Int32) by rw [q17]; decide)]
      have hpv : r_pv (r_tK b L) (i + 2) := by
        have k27 := (r_need_ok hn).1
        unfold r_pv r_ro
        rw [show i + 2 - 1 = i + 1 by omega, show i + 2 - 2 = i by omega, k27, q17]
        exact ⟨rfl, by decide⟩
      have ho := m_b128 (F := F) (i := i) (k := r_tK b L i) (x2 := nI ((r_lk (r_tl b L (i + 1)) (r_tW b L (i + 1)) 6).getD 0)) hF hL a2 a3 a4 a5 (by omega) rfl (by omega) (by omega) (by omega) (Nat.le_refl _) ⟨fun _ => rfl, fun z => by omega⟩ ⟨fun z => by omega, fun _ => rfl⟩ (fun _ => hpv) (by rw [a8]; exact h16)
      show r_oo b L M sd cr ca cs cc V _ (if r_tK b L i = 16 ∨ r_tK b L i = 17 then r_exp (r_tK b L) (i + 2) else .ok (i + 2)) _
      unfold r_oo at ho ⊢
      rw [if_pos (show r_tK b L i = 16 ∨ r_tK b L i = 17 from Or.inr q17)] at ho ⊢
      cases hx : r_exp (r_tK b L) (i + 2) with
      | error e => rw [hx] at ho; exact ho
      | ok e =>
        rw [hx] at ho
        obtain ⟨V2, d1, d2, d3, d4, c2, d5, d6, d7, d8, d9, d10⟩ := ho
        have hxl := r_exp_lt hx
        have := (r_ms_lt d2).2.1
        exact ⟨V2, d1, d2, d3, d4, c2, cs, d5, d6, d7, Nat.le_refl _, by omega, d8, by unfold r_stt; rw [if_neg (by omega)], by omega, (r_exp_in hx hpv).1.trans a8⟩
  rw [if_neg (show ¬ nI (r_tK b L i + 19) = (36 : Int32) from ke 17 (by decide) q17), fX12_tellAct_b61]
  by_cases q20 : r_tK b L i = 20
  · -- fire
    have nn := nm 1 (by omega) (ro1.2.1 q20) (by omega)
    rw [if_pos (show nI (r_tK b L i + 19) = (39 : Int32) by rw [q20]; rfl), if_pos (show r_tK b L i = 17 ∨ r_tK b L i = 18 ∨ r_tK b L i = 20 from Or.inr (Or.inr q20))]
    cases hn : r_need (r_tK b L) 27 (i + 1) with
    | error e =>
      rw [hn] at nn
      obtain ⟨V1, x, a1, a2⟩ := nn
      have h1 := r_me_mf a2 hs
      obtain ⟨V2, d1, d2⟩ := m_b73_x (F := F) (by omega) (nI (r_tK b L i + 19)) x (by rw [q20]; decide) h1
      rw [show (1 : Int32) = nI 1 from rfl, a1, y_bd, d1]
      exact ⟨V2, rfl, r_me_trans a2 d2⟩
    | ok j =>
      rw [hn] at nn
      obtain ⟨V1, a1, a2, a3, a4, a5, a6, a7, rfl, a8⟩ := nn
      rw [show (1 : Int32) = nI 1 from rfl, a1, y_bd, fX12_tellAct_b73, if_neg (show ¬ nI (r_tK b L i + 19) = (37 : Int32) by rw [q20]; decide)]
      have ho := m_b128 (F := F) (i := i) (k := r_tK b L i) (x2 := nI ((r_lk (r_tl b L (i + 1)) (r_tW b L (i + 1)) 1).getD 0)) hF hL a2 a3 a4 a5 (by omega) rfl (by omega) (by omega) (by omega) (Nat.le_refl _) ⟨fun z => by omega, fun _ => rfl⟩ ⟨fun z => by omega, fun z => by omega⟩ (fun z => by omega) (by rw [a8]; exact h16)
      show r_oo b L M sd cr ca cs cc V _ (if r_tK b L i = 16 ∨ r_tK b L i = 17 then r_exp (r_tK b L) (i + 2) else .ok (i + 2)) _
      unfold r_oo at ho ⊢
      rw [if_neg (show ¬ (r_tK b L i = 16 ∨ r_tK b L i = 17) by omega)] at ho ⊢
      obtain ⟨V2, d1, d2, d3, d4, c2, d5, d6, d7, d8, d9, d10⟩ := ho
      exact ⟨V2, d1, d2, d3, d4, c2, cs, d5, d6, d7, Nat.le_refl _, by omega, d8, by unfold r_stt; rw [if_neg (by omega)], by omega, a8⟩
  rw [if_neg (show ¬ nI (r_tK b L i + 19) = (39 : Int32) from ke 20 (by decide) q20), fX12_tellAct_b73]
  by_cases q18 : r_tK b L i = 18
  · -- start
    have e51 : zI (zsI V 0 11 (nI (i + 1))) 0 51 = nI cs := hk.2.2.1
    have e11 : zI (zsI V 0 11 (nI (i + 1))) 0 11 = nI (i + 1) := rfl
    rw [if_pos (show nI (r_tK b L i + 19) = (37 : Int32) by rw [q18]; rfl), if_pos (show r_tK b L i = 17 ∨ r_tK b L i = 18 ∨ r_tK b L i = 20 from Or.inr (Or.inl q18)), e51, e11, y_ck (by omega) (by decide), y_let, nI_clamp (by omega)]
    have f2 : r_gg sd cr ca cs cc V (zsA (zsI V 0 11 (nI (i + 1))) 36 (upd (zA (zsI V 0 11 (nI (i + 1))) 36) cs (nI (i + 1)))) := r_gg_W f1 (Or.inr rfl) (Nat.le_refl _)
    have m2 : r_mr b L M sd (i + 1) (zsA (zsI V 0 11 (nI (i + 1))) 36 (upd (zA (zsI V 0 11 (nI (i + 1))) 36) cs (nI (i + 1)))) := r_mr_gg (cr := cr) (ca := ca) (cs := cs) (cc := cc) n2 (r_gg_W r_gg_refl (Or.inr rfl) (Nat.le_refl _)) rfl rfl rfl rfl
    have mm := m_must (F := F) m2 (k := 27) (x := 1) (by decide) rfl
    cases hn : r_need (r_tK b L) 27 (i + 1) with
    | error e =>
      rw [hn] at mm
      obtain ⟨V1, a1, a2⟩ := mm
      have hme := r_me_pre f2.1 a2
      rw [a1, y_bd, if_neg (r_mf_ne (r_me_mf hme hs)).1]
      exact ⟨V1, rfl, hme⟩
    | ok j =>
      rw [hn] at mm
      obtain ⟨a1, a2, a3⟩ := mm
      obtain ⟨k27, rfl, hi999⟩ := r_need_ok hn
      obtain ⟨u1, u2⟩ := r_quiet7 (b := b) (L := L) (i := i + 1) k27 (ro1.2.2 q18) (by rw [show i + 1 - 1 = i by omega]; omega)
      rw [a1, y_bd, if_pos (show zI (zsI (zsA (zsI V 0 11 (nI (i + 1))) 36 (upd (zA (zsI V 0 11 (nI (i + 1))) 36) cs (nI (i + 1)))) 0 11 (nI (i + 1 + 1))) 0 13 ≤ 0 by rw [a2.2.1.2.1]; decide)]
      have e51' : zI (zsI (zsA (zsI V 0 11 (nI (i + 1))) 36 (upd (zA (zsI V 0 11 (nI (i + 1))) 36) cs (nI (i + 1)))) 0 11 (nI (i + 1 + 1))) 0 51 = nI cs := hk.2.2.1
      have e46 : zI (zsI (zsA (zsI V 0 11 (nI (i + 1))) 36 (upd (zA (zsI V 0 11 (nI (i + 1))) 36) cs (nI (i + 1)))) 0 11 (nI (i + 1 + 1))) 0 46 = nI (1000 * sd + ca) := hk.2.1
      have e51'' : ∀ f, zI (zsA (zsI (zsA (zsI V 0 11 (nI (i + 1))) 36 (upd (zA (zsI V 0 11 (nI (i + 1))) 36) cs (nI (i + 1)))) 0 11 (nI (i + 1 + 1))) 35 f) 0 51 = nI cs := fun _ => hk.2.2.1
      simp only [e51', e46, e51'', y_let, y_ck (show cs < 1000 by omega) (show 1000 < 2 ^ 31 by decide), nI_clamp (show cs < 2 ^ 31 by omega), nI_1]
      have f3 : r_gg sd cr ca cs cc V (zsI (zsA (zsI (zsA (zsI V 0 11 (nI (i + 1))) 36 (upd (zA (zsI V 0 11 (nI (i + 1))) 36) cs (nI (i + 1)))) 0 11 (nI (i + 1 + 1))) 35 (upd (zA (zsI (zsA (zsI V 0 11 (nI (i + 1))) 36 (upd (zA (zsI V 0 11 (nI (i + 1))) 36) cs (nI (i + 1)))) 0 11 (nI (i + 1 + 1))) 35) cs (nI (1000 * sd + ca)))) 0 51 (nI (cs + 1))) := r_gg_I (r_gg_W (r_gg_I f2 (by decide)) (Or.inl rfl) (Nat.le_refl _)) (by decide)
      have m3 : r_mr b L M sd (i + 1 + 1) (zsI (zsA (zsI (zsA (zsI V 0 11 (nI (i + 1))) 36 (upd (zA (zsI V 0 11 (nI (i + 1))) 36) cs (nI (i + 1)))) 0 11 (nI (i + 1 + 1))) 35 (upd (zA (zsI (zsA (zsI V 0 11 (nI (i + 1))) 36 (upd (zA (zsI V 0 11 (nI (i + 1))) 36) cs (nI (i + 1)))) 0 11 (nI (i + 1 + 1))) 35) cs (nI (1000 * sd + ca)))) 0 51 (nI (cs + 1))) := r_mr_gg (cr := cr) (ca := ca) (cs := cs) (cc := cc) (r_mr_P a2 u1.symm u2) (r_gg_I (r_gg_W r_gg_refl (Or.inl rfl) (Nat.le_refl _)) (by decide)) rfl rfl rfl rfl
      have ho := m_b128 (F := F) (i := i) (k := r_tK b L i) (x2 := (-1 : Int32)) (cs1 := cs + 1) hF hL m3 h12 f3 ⟨hk.1, hk.2.1, rfl, hk.2.2.2⟩ (by omega) rfl (by omega) (by omega) (by omega) (Nat.le_refl _) ⟨fun z => by omega, fun z => by omega⟩ ⟨fun z => by omega, fun z => by omega⟩ (fun z => by omega) (by rw [u1, htl]; exact h16)
      show r_oo b L M sd cr ca cs cc V _ (if r_tK b L i = 16 ∨ r_tK b L i = 17 then r_exp (r_tK b L) (i + 1 + 1) else .ok (i + 1 + 1)) _
      unfold r_oo at ho ⊢
      rw [if_neg (show ¬ (r_tK b L i = 16 ∨ r_tK b L i = 17) by omega)] at ho ⊢
      obtain ⟨V2, d1, d2, d3, d4, c2, d5, d6, d7, d8, d9, d10⟩ := ho
      refine ⟨V2, d1, d2, d3, d4, c2, cs + 1, d5, d6, d7, by omega, by omega, d8, ?_, by omega, u1.trans htl⟩
      unfold r_stt
      rw [if_pos q18, d9, d10]
      refine ⟨rfl, ?_, ?_⟩
      · show upd (zA V 35) cs (nI (1000 * sd + ca)) cs = _
        rw [y_upd, if_pos rfl]
      · show upd (zA V 36) cs (nI (i + 1)) cs = _
        rw [y_upd, if_pos rfl]
  rw [if_neg (show ¬ nI (r_tK b L i + 19) = (37 : Int32) from ke 18 (by decide) q18), if_neg (show ¬ (r_tK b L i = 17 ∨ r_tK b L i = 18 ∨ r_tK b L i = 20) from fun z => by rcases z with z | z | z <;> contradiction)]
  have ho := m_b128 (F := F) (i := i) (k := r_tK b L i) (x2 := (-1 : Int32)) (cs1 := cs) hF hL n2 h12 f1 hk1 (by omega) rfl (by omega) (by omega) (by omega) (Nat.le_refl _) ⟨fun z => by omega, fun z => by omega⟩ ⟨fun _ => rfl, fun z => by omega⟩ (fun z => r_pv_of (by omega)) (by rw [htl]; exact h16)
  show r_oo b L M sd cr ca cs cc V _ (if r_tK b L i = 16 ∨ r_tK b L i = 17 then r_exp (r_tK b L) (i + 1) else .ok (i + 1)) _
  unfold r_oo at ho ⊢
  by_cases q16 : r_tK b L i = 16
  · rw [if_pos (show r_tK b L i = 16 ∨ r_tK b L i = 17 from Or.inl q16)] at ho ⊢
    cases hx : r_exp (r_tK b L) (i + 1) with
    | error e => rw [hx] at ho; exact ho
    | ok e =>
      rw [hx] at ho
      obtain ⟨V2, d1, d2, d3, d4, c2, d5, d6, d7, d8, d9, d10⟩ := ho
      have hxl := r_exp_lt hx
      exact ⟨V2, d1, d2, d3, d4, c2, cs, d5, d6, d7, Nat.le_refl _, by omega, d8, by unfold r_stt; rw [if_neg (by omega)], by omega, (r_exp_in hx (r_pv_of (by omega))).1.trans htl⟩
  · rw [if_neg (show ¬ (r_tK b L i = 16 ∨ r_tK b L i = 17) by omega)] at ho ⊢
    obtain ⟨V2, d1, d2, d3, d4, c2, d5, d6, d7, d8, d9, d10⟩ := ho
    exact ⟨V2, d1, d2, d3, d4, c2, cs, d5, d6, d7, Nat.le_refl _, by omega, d8, by unfold r_stt; rw [if_neg (by omega)], by omega, htl⟩
end
