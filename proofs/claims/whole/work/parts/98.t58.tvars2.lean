/-! ===== E's and CONDs of a table ===== -/
section
variable {b : Nat → Nat} {L E sd cc : Nat} {T V : zV}
theorem r_cT_name (hgr : r_gram (r_tK b L) = .ok E) (h : r_cT b L E T) (hno : r_ok0 b L E) {m : Nat} (hm : m < E) (hk : r_tK b L m = 27) (hro : r_ro (r_tK b L) m = 6) : ∃ c, c < y_many T 6 ∧ y_N T m = nI c := by
  have hg := r_gram_gf hgr
  obtain ⟨d, d1, d2, d3⟩ := r_nu_ok hno hm hk hro (by decide)
  refine ⟨d, by rw [(r_cT_cn h hg (by decide)).2]; exact d3, ?_⟩
  rw [(r_cT_TT hg h m hm).2.2 (Or.inl hk), d2]
theorem r_stop_nI {k : Nat} (hk : k ≤ 42) (h : ¬ r_ek k) : r_stop (nI k) := by
  have ne : ∀ c : Nat, c ≤ 42 → ¬ k = c → ¬ nI k = nI c := fun c hc hne z => hne ((nI_eq (by omega) (by omega)).mp z)
  unfold r_ek at h
  exact ⟨ne 32 (by decide) (by omega), ne 33 (by decide) (by omega), ne 34 (by decide) (by omega), ne 35 (by decide) (by omega), ne 28 (by decide) (by omega), ne 27 (by decide) (by omega), ne 25 (by decide) (by omega), ne 26 (by decide) (by omega), ne 36 (by decide) (by omega)⟩
theorem r_ro6 {K : Nat → Nat} {a : Nat} (h1 : 8 < K (a - 1) ∧ ¬ K (a - 1) = 11 ∧ ¬ K (a - 1) = 18 ∧ ¬ K (a - 1) = 20) (h2 : K (a - 1) = 27 → 8 < K (a - 2)) : r_ro K a = 6 := by
  unfold r_ro
  rw [if_neg (by omega), if_neg (by omega), if_neg (by omega), if_neg (by omega), if_neg (by omega)]
  by_cases q : K (a - 1) = 27
  · have := h2 q
    rw [if_pos q, if_neg (by omega), if_neg (by omega), if_neg (by omega)]
  · rw [if_neg q]
theorem r_hvC (hgr : r_gram (r_tK b L) = .ok E) (h : r_cT b L E T) (hno : r_ok0 b L E) : ∀ j c s, r_sh (r_tK b L) j c s → s < E → ∀ vars vars' left ip, (∀ x, x < y_many T 6 → vars x = vars' x) → y_cond T (r_cn (r_tK b L) 11 j) vars left ip = y_cond T (r_cn (r_tK b L) 11 j) vars' left ip := by
  intro j c s sh hs vars vars' left ip hv
  have hg := r_gram_gf hgr
  have hE := hg.1.2.1
  obtain ⟨-, e18, -⟩ := r_cT_rule hgr h sh hs
  obtain ⟨a1, a2, a3, a4, a5, a6, a7, a8, a9, a10, a11, a12⟩ := id sh
  have hM : y_many T 6 ≤ 16 := by rw [(r_cT_cn h hg (by decide)).2]; exact hg.2.2.1 6 (by decide)
  have kle := fun i => r_tK_le (b := b) (L := L) i
  unfold y_cond
  rw [e18]
  by_cases q : r_tK b L (j + 2) = 14
  · have hne : ¬ nI (j + 3) = -1 := fun z => by
      have : ¬ nI (j + 3) < 0 := nI_pos (by omega)
      rw [z] at this
      exact this (by decide)
    have hjc : j + 3 ≤ c := by
      by_cases z : j + 2 = c
      · rw [z] at q; omega
      · omega
    rw [if_pos q, if_neg hne, if_neg hne, nI_clamp (by omega)]
    have kc := r_cT_K hg h (i := c) (by omega)
    have kc1 := r_cT_K hg h (i := c + 1) (by omega)
    refine r_C_vars (i0 := j + 3) (c := c) hM hv ?_ ?_ ⟨?_, ?_⟩ (fun a x1 x2 x3 => ?_) 1000 (j + 3) (Nat.le_refl _) hjc
    · rw [kc]; exact r_stop_nI (kle c) (by unfold r_ek; omega)
    · rw [kc1]; exact r_stop_nI (kle (c + 1)) (by unfold r_ek; omega)
    · rw [kc, a7]; decide
    · rw [kc1]
      have := kle (c + 1)
      exact fun z => by have := (nI_eq (b := 15) (by omega) (by decide)).mp z; omega
    · rw [r_cT_K hg h (i := a) (by omega)] at x3
      have k27 : r_tK b L a = 27 := (nI_eq (b := 27) (by have := kle a; omega) (by decide)).mp x3
      refine r_cT_name hgr h hno (by omega) k27 (r_ro6 ?_ fun z => ?_)
      · by_cases y : a = j + 3
        · rw [show a - 1 = j + 2 by omega, q]; decide
        · have := a10 (a - 1) (by omega) (by omega); unfold r_ek at this; omega
      · by_cases y : a = j + 3
        · rw [show a - 1 = j + 2 by omega] at z; omega
        by_cases y2 : a = j + 4
        · rw [show a - 2 = j + 2 by omega, q]; decide
        · have := a10 (a - 2) (by omega) (by omega); unfold r_ek at this; omega
  · rw [if_neg q, if_pos rfl, if_pos rfl]
theorem r_hvX (hgr : r_gram (r_tK b L) = .ok E) (h : r_cT b L E T) (hno : r_ok0 b L E) : ∀ m, m < E → (r_tK b L m = 16 ∨ r_tK b L m = 17) → ∀ vars vars' left ip, (∀ x, x < y_many T 6 → vars x = vars' x) → (y_actAt T m).2.2 vars left ip = (y_actAt T m).2.2 vars' left ip := by
  intro m hm hk vars vars' left ip hv
  have hg := r_gram_gf hgr
  have hE := hg.1.2.1
  have hM : y_many T 6 ≤ 16 := by rw [(r_cT_cn h hg (by decide)).2]; exact hg.2.2.1 6 (by decide)
  have kle := fun i => r_tK_le (b := b) (L := L) i
  obtain ⟨j, c, s, sh, h1, h2, h3⟩ := r_acts_in hgr hm (by omega)
  obtain ⟨a1, a2, a3, a4, a5, a6, a7, a8, a9, a10, a11, a12⟩ := id sh
  rw [(r_actAt hg h hm).2.2]
  have ex : ∀ n i, i + n = s → m < i → (∀ a, m < a → a < i → r_ek (r_tK b L a)) → ∃ e, m < e ∧ e ≤ s ∧ i ≤ e ∧ ¬ r_ek (r_tK b L e) ∧ ∀ a, m < a → a < e → r_ek (r_tK b L a) := by
    intro n
    induction n with
    | zero => intro i hi hmi ha; exact ⟨i, hmi, by omega, Nat.le_refl _, by rw [show i = s by omega, a8]; unfold r_ek; omega, ha⟩
    | succ n ih =>
      intro i hi hmi ha
      by_cases q : r_ek (r_tK b L i)
      · obtain ⟨e, e1, e2, e3, e4, e5⟩ := ih (i + 1) (by omega) (by omega) fun a x1 x2 => by
          by_cases z : a = i
          · subst z; exact q
          · exact ha a x1 (by omega)
        exact ⟨e, e1, e2, by omega, e4, e5⟩
      · exact ⟨i, hmi, by omega, Nat.le_refl _, q, ha⟩
  obtain ⟨e, e1, e2, e3, e4, e5⟩ := ex (s - (m + 1)) (m + 1) (by omega) (by omega) fun a x1 x2 => by omega
  have st : r_stop (y_K T e) := by rw [r_cT_K hg h (by omega)]; exact r_stop_nI (kle e) e4
  have le : (if r_tK b L m = 17 then m + 2 else m + 1) ≤ e := by
    by_cases q : r_tK b L m = 17
    · rw [if_pos q]
      obtain ⟨k27, -⟩ := r_acts_nm hgr hm (by omega)
      by_cases z : e = m + 1
      · subst z; rw [k27] at e4; exact absurd (by unfold r_ek; omega) e4
      · omega
    · rw [if_neg q]; omega
  have ge : m + 1 ≤ (if r_tK b L m = 17 then m + 2 else m + 1) := by split <;> omega
  have := r_E_vars (left := left) (ip := ip) (i0 := m + 1) hM hv st (fun a x1 x2 x3 => by
    rw [r_cT_K hg h (i := a) (by omega)] at x3
    have k27 : r_tK b L a = 27 := (nI_eq (b := 27) (by have := kle a; omega) (by decide)).mp x3
    refine r_cT_name hgr h hno (by omega) k27 (r_ro6 ?_ fun z => ?_)
    · by_cases y : a = m + 1
      · rw [show a - 1 = m by omega]; omega
      · have := e5 (a - 1) (by omega) (by omega); unfold r_ek at this; omega
    · by_cases y : a = m + 1
      · rw [show a - 1 = m by omega] at z; omega
      by_cases y2 : a = m + 2
      · rw [show a - 2 = m by omega]; omega
      · have := e5 (a - 2) (by omega) (by omega); unfold r_ek at this; omega) ge le
  unfold y_X1
  rw [this.1]
end
