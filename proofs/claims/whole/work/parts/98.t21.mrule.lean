/-! ===== the ACTS of a rule in the reference ===== -/
/-- further ACTS, without the semicolon -/
def r_aq (K : Nat → Nat) : Nat → Nat → Nat → r_r
  | 0, _, i => .ok i
  | n + 1, d, i => if K i = 31 then r_b (r_pass i) fun j => if d = 12 then (if 16 ≤ K j ∧ K j ≤ 24 then .error (2, j) else .error (1, j)) else r_b (r_act K j) (r_aq K n (d + 1)) else .ok i
theorem r_actsS_aq {K : Nat → Nat} : ∀ (n d i : Nat), n + d = 14 → d ≤ 12 → r_actsS K n d i = r_b (r_aq K n d i) (r_need K 29) := by
  intro n
  induction n with
  | zero => intro d i h h2; omega
  | succ n ih =>
    intro d i h h2
    rw [r_actsS, r_aq]
    by_cases q : K i = 31
    · rw [if_pos q, if_pos q, r_b_assoc]
      congr 1
      funext j
      by_cases qd : d = 12
      · rw [if_pos qd, if_pos qd]; split <;> rfl
      · rw [if_neg qd, if_neg qd, r_b_assoc]
        congr 1
        funext k
        exact ih (d + 1) k (by omega) (by omega)
    · rw [if_neg q, if_neg q]; rfl
section
variable {F : Nat} {b : Nat → Nat} {L M sd : Nat} {V : zV}
theorem r_act_in {i e : Nat} (h : r_act (r_tK b L) i = .ok e) : i < e ∧ (16 ≤ r_tK b L i ∧ r_tK b L i ≤ 24) ∧ ∀ a, i < a → a < e → r_ek (r_tK b L a) := by
  unfold r_act at h
  split at h
  · rename_i q
    obtain ⟨j, h1, h⟩ := r_b_ok h
    obtain ⟨rfl, -⟩ := r_pass_ok h1
    obtain ⟨k, h2, h⟩ := r_b_ok h
    have hk : (k = i + 2 ∧ r_tK b L (i + 1) = 27 ∧ (r_tK b L i = 17 ∨ r_tK b L i = 18 ∨ r_tK b L i = 20)) ∨ (k = i + 1 ∧ ¬ (r_tK b L i = 17 ∨ r_tK b L i = 18 ∨ r_tK b L i = 20)) := by
      split at h2
      · rename_i q2
        obtain ⟨k27, rfl, -⟩ := r_need_ok h2
        exact Or.inl ⟨rfl, k27, q2⟩
      · rename_i q2
        cases h2; exact Or.inr ⟨rfl, q2⟩
    split at h
    · rename_i q3
      have hl := r_exp_lt h
      have hp : r_pv (r_tK b L) k := by
        rcases hk with ⟨rfl, k27, q2⟩ | ⟨rfl, q2⟩
        · unfold r_pv r_ro
          rw [show i + 2 - 1 = i + 1 by omega, show i + 2 - 2 = i by omega, k27, show r_tK b L i = 17 by omega]
          exact ⟨rfl, by decide⟩
        · exact r_pv_of (by omega)
      have hin := (r_exp_in h hp).2
      refine ⟨by omega, q, fun a h3 h4 => ?_⟩
      by_cases q4 : a < k
      · have : a = i + 1 := by omega
        subst this
        unfold r_ek; omega
      · exact (hin a (by omega) h4).1
    · cases h
      refine ⟨by omega, q, fun a h3 h4 => ?_⟩
      have : a = i + 1 := by omega
      subst this
      unfold r_ek; omega
  · cases h
theorem r_ac_gg {a i e cm cr ca cs cc : Nat} {V' : zV} (h : r_ac b L sd (1000 * sd + a) i e cm V) (f : r_gg sd cr ca cs cc V V') (ha : a < ca) (hc : cm ≤ cc) : r_ac b L sd (1000 * sd + a) i e cm V' := by
  obtain ⟨h1, h2, h3, h4⟩ := h
  have s : ∀ r, (r = 31 ∨ r = 32 ∨ r = 33 ∨ r = 34) → zA V' r (1000 * sd + a) = zA V r (1000 * sd + a) := fun r hr => f.2.2.2.2 r _ (Or.inr (Or.inl ⟨hr, by omega⟩))
  refine ⟨(s 31 (by omega)).trans h1, fun q => (s 32 (by omega)).trans (h2 q), fun q => (s 32 (by omega)).trans (h3 q), fun q => ?_⟩
  obtain ⟨lo, hi, g1, g2, g3, g4, g5, g6⟩ := h4 q
  refine ⟨lo, hi, g1, g2, g3, (s 33 (by omega)).trans g4, (s 34 (by omega)).trans g5, fun E T hT hE hfol vars left ip => ?_⟩
  obtain ⟨v, v1, v2⟩ := g6 E T hT hE hfol vars left ip
  refine ⟨v, v1, ?_⟩
  rw [← v2]
  exact r_mE_same fun k hk => ⟨f.2.2.2.2 37 k (Or.inr (Or.inr (Or.inr ⟨Or.inl rfl, by omega⟩))), f.2.2.2.2 38 k (Or.inr (Or.inr (Or.inr ⟨Or.inr rfl, by omega⟩)))⟩
theorem r_ac_cm {a i e cm cm' : Nat} (h : r_ac b L sd a i e cm V) (hc : cm ≤ cm') : r_ac b L sd a i e cm' V := by
  obtain ⟨h1, h2, h3, h4⟩ := h
  refine ⟨h1, h2, h3, fun q => ?_⟩
  obtain ⟨lo, hi, g1, g2, g3, g4⟩ := h4 q
  exact ⟨lo, hi, g1, g2, by omega, g4⟩
/-- the acts from token i up to s -/
def r_al (b : Nat → Nat) (L sd i s cm : Nat) (V : zV) : Prop := (∀ m, i ≤ m → m < s → (16 ≤ r_tK b L m ∧ r_tK b L m ≤ 24) → ∃ e, m < e ∧ e ≤ s ∧ (e < s → r_fol (r_tK b L e)) ∧ r_ac b L sd (1000 * sd + r_na (r_tK b L) m) m e cm V) ∧
  ∀ m, i ≤ m → m < s → r_tK b L m = 18 → zA V 35 (r_cn (r_tK b L) 18 m) = nI (1000 * sd + r_na (r_tK b L) m) ∧ zA V 36 (r_cn (r_tK b L) 18 m) = nI (m + 1)
theorem r_na_mono {K : Nat → Nat} {i j : Nat} (h : i ≤ j) : r_na K i ≤ r_na K j := by
  induction j with
  | zero => have : i = 0 := by omega
            rw [this]; exact Nat.le_refl _
  | succ j ih =>
    by_cases q : i = j + 1
    · rw [q]; exact Nat.le_refl _
    · have := ih (by omega)
      rw [r_na]; omega
theorem r_cn_mono {K : Nat → Nat} {w i j : Nat} (h : i ≤ j) : r_cn K w i ≤ r_cn K w j := by
  induction j with
  | zero => have : i = 0 := by omega
            rw [this]; exact Nat.le_refl _
  | succ j ih =>
    by_cases q : i = j + 1
    · rw [q]; exact Nat.le_refl _
    · have := ih (by omega)
      rw [r_cn]; omega
theorem r_na_lt {K : Nat → Nat} {i j : Nat} (h : i < j) (hk : 16 ≤ K i ∧ K i ≤ 24) : r_na K i < r_na K j := by
  have := r_na_mono (K := K) (i := i + 1) (j := j) h
  rw [r_na, if_pos hk] at this
  omega
theorem r_cn_lt {K : Nat → Nat} {w i j : Nat} (h : i < j) (hk : K i = w) : r_cn K w i < r_cn K w j := by
  have := r_cn_mono (K := K) (w := w) (i := i + 1) (j := j) h
  rw [r_cn_succ hk] at this
  omega
theorem m_b301_x (x1 : Int32) : r_xg sd (fun V => fX12_tellRule_b301 F V x1) := by
  intro V h
  obtain ⟨V1, a1, a2⟩ := m_must_x (F := F) (4 : Int32) V h
  have a1 : fX12_must F V 4 = some V1 := a1
  dsimp only
  rw [fX12_tellRule_b301, a1, y_bd, if_neg (r_mf_ne (r_mx_mf h a2)).1]
  exact ⟨V1, rfl, a2⟩
/-- the ACTS of a rule: the loop -/
theorem m_actsl (hF : 1200 ≤ F) (hL : L ≤ 4000) {x1 : Int32} : ∀ (n d N i cr cc : Nat) (V : zV), n + d = 13 → n + 2 ≤ N → r_mr b L M sd i V → zI V 0 12 = 0 → r_kt sd cr (r_na (r_tK b L) i) (r_cn (r_tK b L) 18 i) cc V → cc ≤ i → 0 < i → 1 ≤ n → (∀ s c, r_lk (r_tl b L i) s 6 = some c → c < 16) →
    ∃ V', fX12_tellRule_l223 F N V x1 (nI d) 1 = fX12_tellRule_b301 F V' x1 ∧ match (if d = 12 then (if 16 ≤ r_tK b L i ∧ r_tK b L i ≤ 24 then .error (2, i) else .error (1, i)) else r_b (r_act (r_tK b L) i) (r_aq (r_tK b L) n (d + 1)) : r_r) with
      | .error (f, j) => r_me b L sd f j V V'
      | .ok s => r_mr b L M sd s V' ∧ zI V' 0 12 = 0 ∧ r_gg sd cr (r_na (r_tK b L) i) (r_cn (r_tK b L) 18 i) cc V V' ∧ ∃ cc', r_kt sd cr (r_na (r_tK b L) s) (r_cn (r_tK b L) 18 s) cc' V' ∧ cc ≤ cc' ∧ cc' ≤ s ∧ r_al b L sd i s cc' V' ∧ i < s ∧ r_tl b L s = r_tl b L i ∧ ∀ a, i ≤ a → a < s → r_ek (r_tK b L a) ∨ r_tK b L a = 31 ∨ (16 ≤ r_tK b L a ∧ r_tK b L a ≤ 24) := by
  intro n
  induction n with
  | zero => intro d N i cr cc V hd hN h h12 hk hcc hi0 hn; omega
  | succ n ih =>
    intro d N i cr cc V hd hN h h12 hk hcc hi0 hn h16
    obtain ⟨N, rfl⟩ : ∃ N', N = N' + 2 := ⟨N - 2, by omega⟩
    have lt := r_ms_lt h
    have hs := h.2.2.1
    have kle := r_tK_le (b := b) (L := L) i
    have stop : ∀ V x3, fX12_tellRule_l223 F (N + 1) V x1 x3 0 = fX12_tellRule_b301 F V x1 := by
      intro V x3
      rw [fX12_tellRule_l223, if_pos rfl]
    have fault : ∀ V x3, r_mf sd V → fX12_tellRule_l223 F (N + 1) V x1 x3 1 = fX12_tellRule_b301 F V x1 := by
      intro V x3 h
      rw [fX12_tellRule_l223, if_neg (by decide), if_neg (r_mf_ne h).2]
    -- an act at fault
    have b274x : ∀ V x3, r_mf sd V → ∃ V', fX12_tellRule_b274 F (fX12_tellRule_l223 F (N + 1)) V x1 x3 = fX12_tellRule_b301 F V' x1 ∧ r_mx sd V V' := by
      intro V x3 h
      obtain ⟨V1, a1, a2⟩ := m_act_x (F := F) V h
      have h1 := r_mx_mf h a2
      refine ⟨V1, ?_, a2⟩
      rw [fX12_tellRule_b274, a1, y_bd, m_is_x h1, y_bd, if_pos rfl, stop]
    rw [fX12_tellRule_l223, if_neg (by decide), if_pos h.2.1.2.1, h.2.1.1, y_ck (by omega) (by decide), y_ck (by omega) (by decide), nI_clamp (by omega), m_kt h]
    by_cases q : 16 ≤ r_tK b L i ∧ r_tK b L i ≤ 24
    rotate_left
    · -- no act
      have hact := m_act (F := F) hF hL h h12 hk (r_na_le i) (r_cn_le i) hcc hi0 h16
      have ea : r_act (r_tK b L) i = .error (1, i) := by unfold r_act; rw [if_neg q]
      rw [ea] at hact
      obtain ⟨V1, a1, a2⟩ := hact
      have h1 := r_me_mf a2 hs
      have e274 : fX12_tellRule_b274 F (fX12_tellRule_l223 F (N + 1)) V x1 (nI d) = fX12_tellRule_b301 F V1 x1 := by
        rw [fX12_tellRule_b274, a1, y_bd, m_is_x h1, y_bd, if_pos rfl, stop]
      refine ⟨V1, ?_, ?_⟩
      · rcases r_actk ⟨r_tK b L i, by omega⟩ q with z | z
        · rw [if_pos z]; exact e274
        · have z : ¬ nI (r_rk (r_tK b L i)) ≤ (43 : Int32) := z
          by_cases z2 : nI (r_rk (r_tK b L i)) < (35 : Int32)
          · rw [if_pos z2]; exact e274
          · rw [if_neg z2, if_pos (Int32.not_le.mp z)]; exact e274
      · by_cases qd : d = 12
        · rw [if_pos qd, if_neg q]; exact a2
        · rw [if_neg qd, ea]; exact a2
    have ek := r_actk2 ⟨r_tK b L i, by omega⟩ q
    have ek : nI (r_rk (r_tK b L i)) = nI (r_tK b L i + 19) := ek
    rw [ek, if_neg (show ¬ nI (r_tK b L i + 19) < (35 : Int32) from nI_nlt (b := 35) (by omega) (by omega)), if_neg (show ¬ (43 : Int32) < nI (r_tK b L i + 19) from nI_nlt (a := 43) (by omega) (by omega))]
    by_cases qd : d = 12
    · -- one too many
      have hme := m_fail_me h (f := 2) (Or.inr rfl)
      obtain ⟨V2, d1, d2⟩ := b274x _ (nI d) (r_me_mf hme hs)
      rw [if_pos (show nI d = (12 : Int32) by rw [qd]; rfl), show (2 : Int32) = nI 2 from rfl, m_fail h, y_bd, d1, if_pos qd, if_pos q]
      exact ⟨V2, rfl, r_me_trans hme d2⟩
    rw [if_neg (show ¬ nI d = (12 : Int32) from fun z => qd ((nI_eq (b := 12) (by omega) (by decide)).mp z)), if_neg qd, fX12_tellRule_b274]
    have hact := m_act (F := F) hF hL h h12 hk (r_na_le i) (r_cn_le i) hcc hi0 h16
    cases hx : r_act (r_tK b L) i with
    | error e =>
      rw [hx] at hact
      obtain ⟨V1, a1, a2⟩ := hact
      have h1 := r_me_mf a2 hs
      rw [a1, y_bd, m_is_x h1, y_bd, if_pos rfl, stop]
      exact ⟨V1, rfl, a2⟩
    | ok e =>
      rw [hx] at hact
      obtain ⟨V1, a1, a2, a3, a4, c1, cs1, a5, a6, a7, a8, a9, a10, a11, a12, a13⟩ := hact
      obtain ⟨i1, i2, i3⟩ := r_act_in hx
      have lt1 := r_ms_lt a2
      have hna : r_na (r_tK b L) e = r_na (r_tK b L) i + 1 := by
        rw [r_na_same (i := i + 1) (by omega) fun a h1 h2 => by have := i3 a (by omega) h2; unfold r_ek at this; omega, r_na, if_pos q]
      have hcs : cs1 = r_cn (r_tK b L) 18 e := by
        rw [r_cn_eq (i := i + 1) (by omega) fun a h1 h2 => by have := i3 a (by omega) h2; unfold r_ek at this; omega, r_cn]
        unfold r_stt at a11
        by_cases q18 : r_tK b L i = 18
        · rw [if_pos q18] at a11 ⊢; exact a11.1
        · rw [if_neg q18] at a11 ⊢; exact a11
      rw [hcs] at a5
      rw [← hna] at a5
      rw [a1, y_bd, m_is a2 (k := 31) (x := 6) (by decide) rfl, y_bd]
      show ∃ V', _ ∧ match (r_aq (r_tK b L) (n + 1) (d + 1) e) with
        | .error (f, j) => r_me b L sd f j V V'
        | .ok s => _
      rw [r_aq]
      have al1 : ∀ s, e ≤ s → (e < s → r_fol (r_tK b L e)) → r_al b L sd i e c1 V1 ∧ (∃ e', i < e' ∧ e' ≤ s ∧ (e' < s → r_fol (r_tK b L e')) ∧ r_ac b L sd (1000 * sd + r_na (r_tK b L) i) i e' c1 V1) := by
        intro s hse hfol
        refine ⟨⟨fun m h1 h2 hm => ?_, fun m h1 h2 hm => ?_⟩, e, i1, hse, hfol, a10⟩
        · by_cases qm : m = i
          · subst qm; exact ⟨e, i1, Nat.le_refl _, fun z => by omega, a10⟩
          · have := i3 m (by omega) h2; unfold r_ek at this; omega
        · by_cases qm : m = i
          · subst qm
            unfold r_stt at a11
            rw [if_pos hm] at a11
            exact a11.2
          · have := i3 m (by omega) h2; unfold r_ek at this; omega
      by_cases q31 : r_tK b L e = 31
      rotate_left
      · rw [if_neg q31, if_pos rfl, if_neg q31, stop]
        exact ⟨V1, rfl, a2, a3, a4, c1, a5, a6, a7, (al1 e (Nat.le_refl _) fun z => by omega).1, i1, a13, fun a h1 h2 => by
          by_cases qa : a = i
          · subst qa; exact Or.inr (Or.inr q)
          · exact Or.inl (i3 a (by omega) h2)⟩
      rw [if_pos q31, if_neg (by decide), if_pos q31]
      unfold r_pass
      by_cases qi : e < 1000
      rotate_left
      · rw [m_next_e a2 qi, y_bd, if_neg qi]
        have hme := r_me_pre a4.1 (m_fail_me a2 (f := 2) (Or.inr rfl))
        rw [fault _ _ (r_me_mf hme hs)]
        exact ⟨_, rfl, hme⟩
      obtain ⟨n1, n2⟩ := m_nextq (F := F) a2 (by omega) (by omega) (by omega) (by omega) qi
      have htl : r_tl b L (e + 1) = r_tl b L i := (r_tl_same (fun z => by omega)).trans a13
      have hna2 : r_na (r_tK b L) (e + 1) = r_na (r_tK b L) e := by rw [r_na, if_neg (by omega)]; rfl
      have hcs2 : r_cn (r_tK b L) 18 (e + 1) = r_cn (r_tK b L) 18 e := r_cn_same (by omega)
      rw [n1, y_bd, if_pos qi, nI_1]
      obtain ⟨V2, d1, d2⟩ := ih (d + 1) (N + 1) (e + 1) cr c1 (zsI V1 0 11 (nI (e + 1))) (by omega) (by omega) n2 a3 (by rw [hna2, hcs2]; exact a5) (by omega) (by omega) (by omega) (by rw [htl]; exact h16)
      refine ⟨V2, d1, ?_⟩
      show match (if d + 1 = 12 then (if 16 ≤ r_tK b L (e + 1) ∧ r_tK b L (e + 1) ≤ 24 then .error (2, e + 1) else .error (1, e + 1)) else r_b (r_act (r_tK b L) (e + 1)) (r_aq (r_tK b L) n (d + 1 + 1)) : r_r) with
        | .error (f, j) => r_me b L sd f j V V2
        | .ok s => _
      cases hy : (if d + 1 = 12 then (if 16 ≤ r_tK b L (e + 1) ∧ r_tK b L (e + 1) ≤ 24 then .error (2, e + 1) else .error (1, e + 1)) else r_b (r_act (r_tK b L) (e + 1)) (r_aq (r_tK b L) n (d + 1 + 1)) : r_r) with
      | error z =>
        rw [hy] at d2
        exact r_me_pre (r_fx_I (k := 11) a4.1 (by decide)) d2
      | ok s =>
        rw [hy] at d2
        obtain ⟨g1, g2, g3, c2, g4, g5, g6, ⟨g7, g8⟩, g9, g10, g11⟩ := d2
        rw [hna2, hcs2] at g3
        have f13 : r_gg sd cr (r_na (r_tK b L) e) (r_cn (r_tK b L) 18 e) c1 V1 V2 := r_gg_trans (r_gg_I r_gg_refl (by decide)) g3 (Nat.le_refl _) (Nat.le_refl _) (Nat.le_refl _) (Nat.le_refl _)
        obtain ⟨t1, e', t2, t3, t4, t5⟩ := al1 s (by omega) fun _ => by unfold r_fol; omega
        refine ⟨g1, g2, r_gg_trans a4 f13 (Nat.le_refl _) (r_na_mono (by omega)) (r_cn_mono (by omega)) a6, c2, g4, by omega, g6, ⟨fun m h1 h2 hm => ?_, fun m h1 h2 hm => ?_⟩, by omega, g10.trans htl, fun a h1 h2 => ?_⟩
        · by_cases qm : m = i
          · subst qm
            exact ⟨e', t2, t3, t4, r_ac_cm (r_ac_gg t5 f13 (r_na_lt i1 q) (Nat.le_refl _)) (by omega)⟩
          · by_cases qm2 : m < e + 1
            · exfalso
              by_cases qm3 : m = e
              · subst qm3; omega
              · have := i3 m (by omega) (by omega); unfold r_ek at this; omega
            · exact g7 m (by omega) h2 hm
        · by_cases qm : m = i
          · subst qm
            have hlt : r_cn (r_tK b L) 18 m < r_cn (r_tK b L) 18 e := r_cn_lt i1 hm
            obtain ⟨t6, t7⟩ := t1.2 m (Nat.le_refl _) i1 hm
            exact ⟨(f13.2.2.2.2 35 _ (Or.inr (Or.inr (Or.inl ⟨Or.inl rfl, hlt⟩)))).trans t6, (f13.2.2.2.2 36 _ (Or.inr (Or.inr (Or.inl ⟨Or.inr rfl, hlt⟩)))).trans t7⟩
          · by_cases qm2 : m < e + 1
            · exfalso
              by_cases qm3 : m = e
              · subst qm3; omega
              · have := i3 m (by omega) (by omega); unfold r_ek at this; omega
            · exact g8 m (by omega) h2 hm
        · by_cases qa : a = i
          · subst qa; exact Or.inr (Or.inr q)
          · by_cases qa2 : a < e
            · exact Or.inl (i3 a (by omega) qa2)
            · by_cases qa3 : a = e
              · subst qa3; exact Or.inr (Or.inl q31)
              · exact g11 a (by omega) h2
end
