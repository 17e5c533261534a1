/-! ===== CONDs and ACTS in the reference ===== -/
/-- how many acts, how many relations there are ahead of i -/
def r_na (K : Nat → Nat) : Nat → Nat
  | 0 => 0
  | i + 1 => r_na K i + (if 16 ≤ K i ∧ K i ≤ 24 then 1 else 0)
def r_nr (K : Nat → Nat) : Nat → Nat
  | 0 => 0
  | i + 1 => r_nr K i + (if 37 ≤ K i ∧ K i ≤ 40 then 1 else 0)
theorem r_na_same {K : Nat → Nat} {i j : Nat} (h : i ≤ j) (h2 : ∀ a, i ≤ a → a < j → ¬ (16 ≤ K a ∧ K a ≤ 24)) : r_na K j = r_na K i := by
  induction j with
  | zero => have : i = 0 := by omega
            rw [this]
  | succ j ih =>
    by_cases q : i = j + 1
    · rw [q]
    · rw [r_na, if_neg (h2 j (by omega) (by omega)), Nat.add_zero]
      exact ih (by omega) fun a h3 h4 => h2 a h3 (by omega)
theorem r_nr_same {K : Nat → Nat} {i j : Nat} (h : i ≤ j) (h2 : ∀ a, i ≤ a → a < j → ¬ (37 ≤ K a ∧ K a ≤ 40)) : r_nr K j = r_nr K i := by
  induction j with
  | zero => have : i = 0 := by omega
            rw [this]
  | succ j ih =>
    by_cases q : i = j + 1
    · rw [q]
    · rw [r_nr, if_neg (h2 j (by omega) (by omega)), Nat.add_zero]
      exact ih (by omega) fun a h3 h4 => h2 a h3 (by omega)
theorem r_cn_eq {K : Nat → Nat} {w i j : Nat} (h : i ≤ j) (h2 : ∀ a, i ≤ a → a < j → ¬ K a = w) : r_cn K w j = r_cn K w i := by
  induction j with
  | zero => have : i = 0 := by omega
            rw [this]
  | succ j ih =>
    by_cases q : i = j + 1
    · rw [q]
    · rw [r_cn_same (h2 j (by omega) (by omega))]
      exact ih (by omega) fun a h3 h4 => h2 a h3 (by omega)
theorem r_na_le {K : Nat → Nat} : ∀ i, r_na K i ≤ i := by
  intro i
  induction i with
  | zero => exact Nat.le_refl _
  | succ i ih => rw [r_na]; split <;> omega
theorem r_rel_in {b : Nat → Nat} {L i e : Nat} (h : r_rel (r_tK b L) i = .ok e) (hp : r_pv (r_tK b L) i) : i < e ∧ (∀ a, i ≤ a → a < e → r_ek (r_tK b L a) ∨ (37 ≤ r_tK b L a ∧ r_tK b L a ≤ 40)) ∧ r_nr (r_tK b L) e = r_nr (r_tK b L) i + 1 := by
  unfold r_rel at h
  obtain ⟨j, h1, h⟩ := r_b_ok h
  have l1 := r_exp_lt h1
  have i1 := (r_exp_in h1 hp).2
  split at h
  · rename_i q
    obtain ⟨j', h2, h⟩ := r_b_ok h
    obtain ⟨rfl, -⟩ := r_pass_ok h2
    have l2 := r_exp_lt h
    have i2 := (r_exp_in h (r_pv_of (by omega))).2
    refine ⟨by omega, fun a h3 h4 => ?_, ?_⟩
    · by_cases q1 : a < j
      · exact Or.inl (i1 a h3 q1).1
      · by_cases q2 : a = j
        · subst q2; exact Or.inr q
        · exact Or.inl (i2 a (by omega) h4).1
    · rw [r_nr_same (i := j + 1) (by omega) fun a h3 h4 => by have := (i2 a h3 h4).1; unfold r_ek at this; omega, r_nr, if_pos q, r_nr_same (i := i) (by omega) fun a h3 h4 => by have := (i1 a h3 h4).1; unfold r_ek at this; omega]
  · cases h
section
variable {F : Nat} {b : Nat → Nat} {L M sd : Nat} {V : zV}
def r_mkh (sd cm : Nat) (V : zV) (k : Nat) : Prop := ∃ a c d s, 1200 * sd ≤ a ∧ a ≤ c ∧ c ≤ d ∧ d ≤ 1200 * sd + cm ∧ zA V 28 k = nI a ∧ zA V 29 k = nI c ∧ zA V 30 k = nI d ∧ s ≤ 3 ∧ zA V 27 k = nI s
/-- the relations of a COND -/
def r_cs (b : Nat → Nat) (L sd i e cr cr' cm : Nat) (V : zV) : Prop := (∀ k, cr ≤ k → k < cr' → r_mkh sd cm V (400 * sd + k)) ∧ ∀ E T, r_TT b L E T → e < E → r_fol (r_tK b L e) → ∀ vars left ip n, 1001 ≤ n + i → ∃ x, y_C T vars left ip n i = some x ∧ y_mC V vars left ip (cr' - cr) (400 * sd + cr) = some x
theorem r_re_mkh {i e k cm cm' : Nat} (h : r_re b L sd i e k cm V) (hc : cm ≤ cm') : r_mkh sd cm' V k := by
  obtain ⟨a, c, d, s, h1, h2, h3, h4, h5, h6, h7, h8, h9, -⟩ := h
  exact ⟨a, c, d, s, h1, h2, h3, by omega, h5, h6, h7, h8, h9⟩
theorem r_mkh_gg {cm k : Nat} {V' : zV} (h : r_mkh sd cm V (400 * sd + k)) (f : ∀ r, (r = 27 ∨ r = 28 ∨ r = 29 ∨ r = 30) → zA V' r (400 * sd + k) = zA V r (400 * sd + k)) : r_mkh sd cm V' (400 * sd + k) := by
  unfold r_mkh
  rw [f 27 (by omega), f 28 (by omega), f 29 (by omega), f 30 (by omega)]
  exact h
theorem m_cnd (hF : 1200 ≤ F) (hL : L ≤ 4000) {x1 : Int32} : ∀ (n N i cr ca cs cc : Nat) (V : zV), n + 1 ≤ N → 1001 ≤ n + i → r_mr b L M sd i V → zI V 0 12 = 0 → r_kt sd cr ca cs cc V → cc ≤ i → 3 * cr ≤ i → r_pv (r_tK b L) i → (∀ s c, r_lk (r_tl b L i) s 6 = some c → c < 16) →
    ∃ V', (zbd (fX12_relation F V) fun q => fX12_tellRule_l155 F N q x1) = fX12_tellRule_b175 F V' x1 ∧ match r_cnd (r_tK b L) n i with
      | .error (f, j) => r_me b L sd f j V V'
      | .ok e => r_mr b L M sd e V' ∧ zI V' 0 12 = 0 ∧ r_gg sd cr ca cs cc V V' ∧ ∃ cr' cc', r_kt sd cr' ca cs cc' V' ∧ cr < cr' ∧ 3 * cr' ≤ e ∧ cc ≤ cc' ∧ cc' ≤ e ∧ r_cs b L sd i e cr cr' cc' V' ∧ i < e ∧ r_tl b L e = r_tl b L i ∧ cr' + r_nr (r_tK b L) i = cr + r_nr (r_tK b L) e := by
  intro n
  induction n with
  | zero =>
    intro N i cr ca cs cc V hN hi h
    have := (r_ms_lt h).2.1
    omega
  | succ n ih =>
    intro N i cr ca cs cc V hN hi h h12 hk hcc hcr hpv h16
    obtain ⟨N, rfl⟩ : ∃ N', N = N' + 1 := ⟨N - 1, by omega⟩
    have lt := r_ms_lt h
    have hsd := h.2.2.1.2
    have hr := m_rel (F := F) hF hL h h12 hk hcc (by omega) hpv h16
    rw [r_cnd]
    cases hs : r_rel (r_tK b L) i with
    | error e =>
      rw [hs] at hr
      obtain ⟨V1, a1, a2⟩ := hr
      have h1 := r_me_mf a2 h.2.2.1
      refine ⟨V1, ?_, a2⟩
      rw [a1, y_bd, fX12_tellRule_l155, m_is_x h1, y_bd, if_pos rfl]
    | ok j =>
      rw [hs] at hr
      obtain ⟨V1, a1, a2, a3, a4, c1, a5, a6, a7, a8, a9, a10⟩ := hr
      have lt1 := r_ms_lt a2
      rw [a1, y_bd, fX12_tellRule_l155, m_is a2 (k := 15) (x := 44) (by decide) rfl, y_bd]
      show ∃ V', _ ∧ match (if r_tK b L j = 15 then r_b (r_pass j) (r_cnd (r_tK b L) n) else .ok j : r_r) with
        | .error (f, j) => r_me b L sd f j V V'
        | .ok e => _
      by_cases q : r_tK b L j = 15
      rotate_left
      · -- the last one
        rw [if_neg q, if_pos rfl, if_neg q]
        refine ⟨V1, rfl, a2, a3, a4, cr + 1, c1, a5, by omega, by omega, a6, a7, ⟨fun k h1 h2 => ?_, fun E T hT hE hfol vars left ip n' hn' => ?_⟩, by omega, a10, by have := (r_rel_in hs hpv).2.2; omega⟩
        · have : k = cr := by omega
          rw [this]; exact r_re_mkh a8 (by omega)
        · obtain ⟨a, c, d, s, b1, b2, b3, b4, b5, b6, b7, b8, b9, b10⟩ := a8
          obtain ⟨x, y, j', e1, e2, e3, e4, e5⟩ := b10 E T hT hE hfol vars left ip
          obtain ⟨n', rfl⟩ : ∃ m, n' = m + 1 := ⟨n' - 1, by omega⟩
          refine ⟨y_cmp x (y_K T j') y, ?_, ?_⟩
          · rw [y_C, e1]
            dsimp only
            rw [e2]
            dsimp only
            have : ¬ y_K T j = 15 := by
              rw [(hT j hE).2.1]
              exact fun z => q ((nI_eq (b := 15) (by have := r_tK_le (b := b) (L := L) j; omega) (by decide)).mp z)
            rw [if_neg this]
            cases y_cmp x (y_K T j') y <;> rfl
          · rw [show cr + 1 - cr = 1 by omega, y_mC, b5, b6, b7, b9, nI_clamp (by omega), nI_clamp (by omega), nI_clamp (by omega), e4]
            dsimp only
            rw [e5]
            dsimp only
            rw [← e3]
            cases y_cmp x (y_K T j') y <;> rfl
      · rw [if_pos q, if_neg (by decide), if_pos q]
        unfold r_pass
        by_cases qi : j < 1000
        rotate_left
        · rw [m_next_e a2 qi, y_bd, if_neg qi]
          have hme := r_me_pre a4.1 (m_fail_me a2 (f := 2) (Or.inr rfl))
          have h1 := r_me_mf hme h.2.2.1
          obtain ⟨V2, d1, d2⟩ := m_rel_x (F := F) (by omega) _ h1
          obtain ⟨N, rfl⟩ : ∃ N', N = N' + 1 := ⟨N - 1, by omega⟩
          refine ⟨V2, ?_, r_me_trans hme d2⟩
          rw [d1, y_bd, fX12_tellRule_l155, m_is_x (r_mx_mf h1 d2), y_bd, if_pos rfl]
        obtain ⟨n1, n2⟩ := m_nextq (F := F) a2 (by omega) (by omega) (by omega) (by omega) qi
        have htl : r_tl b L (j + 1) = r_tl b L i := (r_tl_same (fun z => by omega)).trans a10
        rw [n1, y_bd, if_pos qi]
        obtain ⟨V2, d1, d2⟩ := ih N (j + 1) (cr + 1) ca cs c1 (zsI V1 0 11 (nI (j + 1))) (by omega) (by omega) n2 a3 a5 (by omega) (by omega) (r_pv_of (by omega)) (by rw [htl]; exact h16)
        refine ⟨V2, d1, ?_⟩
        show match r_cnd (r_tK b L) n (j + 1) with
          | .error (f, j) => r_me b L sd f j V V2
          | .ok e => _
        cases hs2 : r_cnd (r_tK b L) n (j + 1) with
        | error e =>
          rw [hs2] at d2
          exact r_me_pre (r_fx_I (k := 11) a4.1 (by decide)) d2
        | ok e =>
          rw [hs2] at d2
          obtain ⟨g1, g2, g3, cr', c2, g4, g5, g6, g7, g8, ⟨g9, g10⟩, g11, g12, g13⟩ := d2
          have f13 : r_gg sd (cr + 1) ca cs c1 V1 V2 := r_gg_trans (r_gg_I r_gg_refl (by decide)) g3 (Nat.le_refl _) (Nat.le_refl _) (Nat.le_refl _) (Nat.le_refl _)
          have same : ∀ r, (r = 27 ∨ r = 28 ∨ r = 29 ∨ r = 30) → zA V2 r (400 * sd + cr) = zA V1 r (400 * sd + cr) := fun r hr => f13.2.2.2.2 r _ (Or.inl ⟨hr, by omega⟩)
          refine ⟨g1, g2, r_gg_trans a4 f13 (by omega) (Nat.le_refl _) (Nat.le_refl _) a6, cr', c2, g4, by omega, g6, by omega, g8, ⟨fun k h1 h2 => ?_, fun E T hT hE hfol vars left ip n' hn' => ?_⟩, by omega, g12.trans htl, by
            have e1 := (r_rel_in hs hpv).2.2
            have e2 : r_nr (r_tK b L) (j + 1) = r_nr (r_tK b L) j := by rw [r_nr, if_neg (by omega)]; rfl
            omega⟩
          · by_cases qk : k = cr
            · subst qk
              exact r_mkh_gg (r_re_mkh a8 (by omega)) same
            · exact g9 k (by omega) h2
          · obtain ⟨a, c, d, s, b1, b2, b3, b4, b5, b6, b7, b8, b9, b10⟩ := a8
            obtain ⟨x, y, j', e1, e2, e3, e4, e5⟩ := b10 E T hT (by omega) (Or.inl q) vars left ip
            obtain ⟨n', rfl⟩ : ∃ m, n' = m + 1 := ⟨n' - 1, by omega⟩
            obtain ⟨z, z1, z2⟩ := g10 E T hT hE hfol vars left ip n' (by omega)
            have k15 : y_K T j = 15 := by rw [(hT j (by omega)).2.1, q]; rfl
            have s1 : ∀ a c, c ≤ 1200 * sd + c1 → y_mE V2 vars left ip a c = y_mE V1 vars left ip a c := fun a c hc => r_mE_same fun k hk => ⟨f13.2.2.2.2 37 k (Or.inr (Or.inr (Or.inr ⟨Or.inl rfl, by omega⟩))), f13.2.2.2.2 38 k (Or.inr (Or.inr (Or.inr ⟨Or.inr rfl, by omega⟩)))⟩
            have hd : d ≤ 1200 * sd + c1 := b4
            have em : y_mC V2 vars left ip (cr' - cr) (400 * sd + cr) = if y_cmp x (y_K T j') y = true then y_mC V2 vars left ip (cr' - (cr + 1)) (400 * sd + (cr + 1)) else some false := by
              rw [show cr' - cr = (cr' - (cr + 1)) + 1 by omega, y_mC, same 28 (by omega), same 29 (by omega), same 30 (by omega), same 27 (by omega), b5, b6, b7, b9, nI_clamp (by omega), nI_clamp (by omega), nI_clamp (by omega), s1 _ _ (by omega), e4]
              dsimp only
              rw [s1 _ _ hd, e5]
              dsimp only
              rw [← e3]; rfl
            have ec : y_C T vars left ip (n' + 1) i = if y_cmp x (y_K T j') y = true then y_C T vars left ip n' (j + 1) else some false := by
              rw [y_C, e1]
              dsimp only
              rw [e2]
              dsimp only
              rw [if_pos k15]
            rw [em, ec]
            by_cases qc : y_cmp x (y_K T j') y = true
            · rw [if_pos qc, if_pos qc]; exact ⟨z, z1, z2⟩
            · rw [if_neg qc, if_neg qc]; exact ⟨false, rfl, rfl⟩
theorem r_cnd_in {b : Nat → Nat} {L : Nat} : ∀ (n i e : Nat), 1001 ≤ n + i → i ≤ 1000 → r_cnd (r_tK b L) n i = .ok e → r_pv (r_tK b L) i → i < e ∧ ∀ a, i ≤ a → a < e → r_ek (r_tK b L a) ∨ (37 ≤ r_tK b L a ∧ r_tK b L a ≤ 40) ∨ r_tK b L a = 15 := by
  intro n
  induction n with
  | zero => intro i e h1 h2; omega
  | succ n ih =>
    intro i e h1 h2 h hp
    rw [r_cnd] at h
    obtain ⟨j, h3, h⟩ := r_b_ok h
    obtain ⟨i1, i2, i3⟩ := r_rel_in h3 hp
    split at h
    · rename_i q
      obtain ⟨j', h4, h⟩ := r_b_ok h
      obtain ⟨rfl, h5⟩ := r_pass_ok h4
      obtain ⟨i4, i5⟩ := ih (j + 1) e (by omega) (by omega) h (r_pv_of (by omega))
      refine ⟨by omega, fun a h6 h7 => ?_⟩
      by_cases q1 : a < j
      · rcases i2 a h6 q1 with z | z
        · exact Or.inl z
        · exact Or.inr (Or.inl z)
      · by_cases q2 : a = j
        · subst q2; exact Or.inr (Or.inr q)
        · exact i5 a (by omega) h7
    · cases h
      exact ⟨i1, fun a h6 h7 => by
        rcases i2 a h6 h7 with z | z
        · exact Or.inl z
        · exact Or.inr (Or.inl z)⟩
end
