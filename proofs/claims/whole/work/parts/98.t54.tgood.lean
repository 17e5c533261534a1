/-! ===== a table that is told well ===== -/
section
variable {b : Nat → Nat} {L E sd cc : Nat} {T V : zV}
def r_ok0 (b : Nat → Nat) (L E : Nat) : Prop := ∀ j k, ¬ r_sP b L E (r_cn (r_tK b L) 18 E) j k
theorem r_nu_ok (hno : r_ok0 b L E) {i t : Nat} (hi : i < E) (hk : r_tK b L i = 27) (hro : r_ro (r_tK b L) i = t) (ht : t < 7) : ∃ c, r_lk (r_tl b L i) (r_tW b L i) t = some c ∧ r_nu b L E i = c ∧ c < r_cn (r_tK b L) t E := by
  cases h : r_lk (r_tl b L i) (r_tW b L i) t with
  | none => exact absurd (Or.inl ⟨hi, Or.inl ⟨hk, Or.inr (Or.inl ⟨rfl, by omega, by rw [hro]; exact h⟩)⟩⟩) (hno i 4)
  | some c =>
    refine ⟨c, rfl, ?_, ?_⟩
    · unfold r_nu
      rw [if_pos hk, if_neg (by omega), hro, if_neg (by omega), h]; rfl
    · have := r_lk_lt i h
      have := r_cn_mono (K := r_tK b L) (w := t) (i := i) (j := E) (by omega)
      omega
theorem r_nu_st (hgr : r_gram (r_tK b L) = .ok E) (hno : r_ok0 b L E) {m : Nat} (hm : m < E) (hk : r_tK b L m = 18) : r_nu b L E (m + 1) < r_cn (r_tK b L) 7 E := by
  obtain ⟨k27, hm1⟩ := r_acts_nm hgr hm (by omega)
  have hro : r_ro (r_tK b L) (m + 1) = 7 := by unfold r_ro; rw [Nat.add_sub_cancel, hk]; rfl
  cases h : r_lk (r_tl b L E) (r_tW b L (m + 1)) 7 with
  | none => exact absurd (Or.inr ⟨⟨m, hm, hk, r_cn_lt hm hk, h, rfl⟩, rfl⟩) (hno (m + 1) 4)
  | some c =>
    unfold r_nu
    rw [if_pos k27, hro, if_neg (by decide), if_pos rfl, h]
    exact r_lk_lt E h
theorem r_cT_cn (h : r_cT b L E T) (hg : r_gf (r_tK b L) E) {k : Nat} (hk : k ≤ 7) : zA T 1 k = nI (r_cn (r_tK b L) k E) ∧ y_many T k = r_cn (r_tK b L) k E := by
  have e := h.1.1 k hk
  have := r_cn_le (K := r_tK b L) (w := k) E
  have := hg.1.2.1
  refine ⟨e, ?_⟩
  unfold y_many
  rw [e, nI_clamp (by omega)]
/-- the rule of an act, in the reference's rows -/
theorem r_act_of (hgr : r_gram (r_tK b L) = .ok E) (hd : r_done b L sd E cc V) {m : Nat} (hm : m < E) (hk : 16 ≤ r_tK b L m ∧ r_tK b L m ≤ 24) : ∃ e, m < e ∧ e < E ∧ r_fol (r_tK b L e) ∧ r_ac b L sd (1000 * sd + r_na (r_tK b L) m) m e cc V := by
  obtain ⟨j, c, s, sh, h1, h2, h3⟩ := r_acts_in hgr hm hk
  have hjc : j < c := by have := sh.2.2.2.1; omega
  obtain ⟨c', s', sh', h4, h5⟩ := hd.1.2.2.2.1 j (by omega) sh.1
  obtain ⟨rfl, rfl⟩ := r_sh_one sh sh'
  obtain ⟨e, e1, e2, e3, e4⟩ := h5.2.2.2.2.2.1 m (by omega) h2 hk
  refine ⟨e, e1, by omega, ?_, e4⟩
  by_cases z : e < s
  · exact e3 z
  · have : e = s := by omega
    subst this
    rw [sh.2.2.2.2.2.2.2.1]
    exact Or.inr (Or.inl (by decide))
theorem r_cT_wt (hgr : r_gram (r_tK b L) = .ok E) (h : r_cT b L E T) (hno : r_ok0 b L E) (hd : r_done b L sd E cc V) : y_wt T := by
  have hg := r_gram_gf hgr
  have hE := hg.1.2.1
  have hsz := r_cT_sz hg h
  have hTT := r_cT_TT hg h
  intro i k hi h1 h2 hk
  have kle := r_tK_le (b := b) (L := L) i
  rw [r_cT_K hg h (by omega)] at hk
  have ek : r_tK b L i = k := (nI_eq (by omega) (by omega)).mp hk
  have hiE : i < E := by
    by_cases z : i < E
    · exact z
    · have : i = E := by omega
      subst this
      have := hg.1.1; omega
  obtain ⟨e, e1, e2, e3, g1, g2, g3, g4⟩ := r_act_of hgr hd hiE (by omega)
  have yN : ∀ j, j < E → r_tK b L j = 27 → y_N T j = nI (r_nu b L E j) := fun j hj hk => (hTT j hj).2.2 (Or.inl hk)
  refine ⟨fun q vars left ip => ?_, fun q => ⟨fun vars left ip => ?_, ?_⟩, fun q => ?_, fun q => ?_⟩
  · obtain ⟨lo, hi', -, -, -, -, -, z⟩ := g4 (Or.inl (by omega))
    obtain ⟨v, v1, -⟩ := z E T hTT e2 e3 vars left ip
    rw [if_neg (by omega)] at v1
    exact ⟨_, v1⟩
  · obtain ⟨lo, hi', -, -, -, -, -, z⟩ := g4 (Or.inr (by omega))
    obtain ⟨v, v1, -⟩ := z E T hTT e2 e3 vars left ip
    rw [if_pos (by omega)] at v1
    exact ⟨_, v1⟩
  · obtain ⟨k27, hm1⟩ := r_acts_nm hgr hiE (by omega)
    have hro : r_ro (r_tK b L) (i + 1) = 6 := by unfold r_ro; rw [Nat.add_sub_cancel, ek, q]; rfl
    obtain ⟨c, c1, c2, c3⟩ := r_nu_ok hno hm1 k27 hro (by decide)
    have c16 : r_cn (r_tK b L) 6 E ≤ 16 := hg.2.2.1 6 (by decide)
    exact ⟨c, by omega, by rw [yN _ hm1 k27, c2]⟩
  · obtain ⟨k27, hm1⟩ := r_acts_nm hgr hiE (by omega)
    exact ⟨_, by rw [(r_cT_cn h hg (by decide)).2]; exact r_nu_st hgr hno hiE (by omega), yN _ hm1 k27⟩
  · obtain ⟨k27, hm1⟩ := r_acts_nm hgr hiE (by omega)
    have hro : r_ro (r_tK b L) (i + 1) = 1 := by unfold r_ro; rw [Nat.add_sub_cancel, ek, q]; rfl
    obtain ⟨c, c1, c2, c3⟩ := r_nu_ok hno hm1 k27 hro (by decide)
    exact ⟨c, by rw [(r_cT_cn h hg (by decide)).2]; exact c3, by rw [yN _ hm1 k27, c2]⟩
theorem r_cT_hd (hg : r_gf (r_tK b L) E) (h : r_cT b L E T) {m : Nat} (hm : m ≤ 12) : ∃ j, j ≤ E ∧ zA T 16 m = nI (r_cn (r_tK b L) 11 j) ∧ y_hd T m = r_cn (r_tK b L) 11 j ∧ (m < r_cn (r_tK b L) 7 E → r_tK b L j = 7 ∧ j < E ∧ r_cn (r_tK b L) 7 j = m) ∧ (r_cn (r_tK b L) 7 E ≤ m → j = E) := by
  have hE := hg.1.2.1
  have fin : ∀ j, j ≤ E → zA T 16 m = nI (r_cn (r_tK b L) 11 j) → y_hd T m = r_cn (r_tK b L) 11 j := by
    intro j hj e
    have := r_cn_le (K := r_tK b L) (w := 11) j
    unfold y_hd
    rw [e, nI_clamp (by omega)]
  by_cases q : m < r_cn (r_tK b L) 7 E
  · obtain ⟨j, j1, j2, j3⟩ := r_cn_at E m q
    have e := h.2.2.1.2.2.1 j (by omega) j2
    rw [j3] at e
    exact ⟨j, by omega, e, fin j (by omega) e, fun _ => ⟨j2, j1, j3⟩, fun z => by omega⟩
  · have e := h.2.2.2 m (by omega) hm
    exact ⟨E, Nat.le_refl _, e, fin E (Nat.le_refl _) e, fun z => absurd z q, fun _ => rfl⟩
theorem r_cT_R (hg : r_gf (r_tK b L) E) (h : r_cT b L E T) : zI T 13 3 = nI (r_cn (r_tK b L) 11 E) := by
  have hE := hg.1.2.1
  rw [h.2.2.1.1.2]
  by_cases q : min 1000 (E + 1) = E
  · rw [q]
  · rw [show min 1000 (E + 1) = E + 1 by omega, r_cn_same (by have := hg.1.1; omega)]
/-- the rule of a number -/
theorem r_rule_of (hgr : r_gram (r_tK b L) = .ok E) (hd : r_done b L sd E cc V) {r : Nat} (hr : r < r_cn (r_tK b L) 11 E) : ∃ j c s, r_sh (r_tK b L) j c s ∧ s < E ∧ r_cn (r_tK b L) 11 j = r ∧ r_ru b L sd j c s cc V := by
  obtain ⟨j, j1, j2, j3⟩ := r_cn_at E r hr
  obtain ⟨c, s, sh, hs, hru⟩ := hd.1.2.2.2.1 j j1 j2
  exact ⟨j, c, s, sh, hs, j3, hru⟩
theorem r_cT_cond (hgr : r_gram (r_tK b L) = .ok E) (h : r_cT b L E T) (hd : r_done b L sd E cc V) {j c s : Nat} (sh : r_sh (r_tK b L) j c s) (hs : s < E) (hru : r_ru b L sd j c s cc V) (vars : Nat → Int32) (left ip : Int32) :
    ∃ x, y_cond T (r_cn (r_tK b L) 11 j) vars left ip = some x ∧ y_mC V vars left ip (r_nr (r_tK b L) s - r_nr (r_tK b L) j) (400 * sd + r_nr (r_tK b L) j) = some x := by
  have hg := r_gram_gf hgr
  have hE := hg.1.2.1
  obtain ⟨-, e18, -⟩ := r_cT_rule hgr h sh hs
  have hjc : j + 2 ≤ c := sh.2.2.2.1
  have hcs : c + 1 < s := sh.2.2.2.2.1
  unfold y_cond
  rw [e18]
  by_cases q : r_tK b L (j + 2) = 14
  · have hne : ¬ nI (j + 3) = -1 := fun z => by
      have : ¬ nI (j + 3) < 0 := nI_pos (by omega)
      rw [z] at this
      exact this (by decide)
    rw [if_pos q, if_neg hne, nI_clamp (by omega)]
    obtain ⟨x, x1, x2⟩ := (hru.2.2.2.1 q).2 E T (r_cT_TT hg h) (show c < E by omega) (by rw [sh.2.2.2.2.2.2.1]; exact Or.inr (Or.inl (by decide))) vars left ip 1000 (by omega)
    exact ⟨x, x1, x2⟩
  · rw [if_neg q, if_pos rfl, hru.2.2.2.2.1 q, Nat.sub_self]
    exact ⟨true, rfl, rfl⟩
theorem r_cT_T (hgr : r_gram (r_tK b L) = .ok E) (h : r_cT b L E T) (hno : r_ok0 b L E) (hd : r_done b L sd E cc V) : y_T T := by
  have hg := r_gram_gf hgr
  have hE := hg.1.2.1
  have cn := fun k (hk : k ≤ 7) => r_cT_cn h hg hk
  have rm := fun k (hk : k ≤ 7) => hg.2.2.1 k hk
  have m7 : r_cn (r_tK b L) 7 E ≤ 12 := rm 7 (by decide)
  have m1 : r_cn (r_tK b L) 1 E ≤ 8 := rm 1 (by decide)
  have m0 : r_cn (r_tK b L) 0 E ≤ 16 := rm 0 (by decide)
  have m4 : r_cn (r_tK b L) 4 E ≤ 8 := rm 4 (by decide)
  have m5 : r_cn (r_tK b L) 5 E ≤ 24 := rm 5 (by decide)
  have hR := r_cT_R hg h
  have h80 := hd.2.2.2.2.2.1
  refine ⟨?_, ⟨?_, ?_, ?_⟩, ⟨?_, ?_, ?_, ?_, fun w hw => ?_⟩, r_cT_wt hgr h hno hd, ⟨r_cn (r_tK b L) 11 E, h80, hR, fun m hm => ?_, fun r hr => ?_⟩, fun R e3 hR80 r hr => ?_, fun i hi => ?_⟩
  · have := r_cT_sz hg h
    refine ⟨?_, by omega⟩
    rw [this]; exact h.2.2.1.1.1
  · rw [(cn 7 (by decide)).2]; exact ⟨(cn 7 (by decide)).1, m7⟩
  · rw [(cn 1 (by decide)).2]; exact ⟨(cn 1 (by decide)).1, m1⟩
  · rw [(cn 0 (by decide)).2]; exact ⟨(cn 0 (by decide)).1, m0⟩
  · rw [(cn 4 (by decide)).2]; exact (cn 4 (by decide)).1
  · rw [(cn 4 (by decide)).2]; exact m4
  · rw [(cn 5 (by decide)).2]; exact (cn 5 (by decide)).1
  · rw [(cn 5 (by decide)).2]; exact m5
  · rw [(cn 5 (by decide)).2] at hw
    obtain ⟨j, j1, j2, j3⟩ := r_cn_at E w hw
    obtain ⟨e, p1, p2, p3, p4, p5, p6, p7⟩ := (r_shp hgr j1).1 (by omega)
    obtain ⟨p8, -⟩ := p6 j2
    have hj1 := (hg.2.1 j j1 (by omega)).2.1
    have hj2 : j + 2 < E := by
      by_cases z : j + 2 = E
      · have := hg.1.1; rw [z] at p8; omega
      · omega
    obtain ⟨c, c1, c2, c3⟩ := r_nu_ok hno hj1 p3 (t := 4) (by unfold r_ro; rw [Nat.add_sub_cancel, j2]; rfl) (by decide)
    obtain ⟨d, d1, d2, d3⟩ := r_nu_ok hno hj2 p8 (t := 4) (by unfold r_ro; rw [show j + 2 - 1 = j + 1 by omega, p3, show j + 2 - 2 = j by omega, j2]; rfl) (by decide)
    have v6 := h.1.2.1 6 (by decide) j j1 j2
    have v7 := h.1.2.1 7 (by decide) j j1 j2
    rw [(cn 4 (by decide)).2]
    refine ⟨c, d, c3, d3, ?_, ?_⟩
    · have : zA T 6 (r_cn (r_tK b L) 5 j) = nI (r_nu b L E (j + 1)) := v6
      rw [← j3, this, c2]
    · have : zA T 7 (r_cn (r_tK b L) 5 j) = nI (r_nu b L E (j + 2)) := v7
      rw [← j3, this, d2]
  · obtain ⟨j, j1, j2, j3, -⟩ := r_cT_hd hg h hm
    have := r_cn_mono (K := r_tK b L) (w := 11) j1
    rw [j3]
    exact ⟨j2, this⟩
  · obtain ⟨j, c, s, sh, hs, rfl, hru⟩ := r_rule_of hgr hd hr
    refine ⟨fun vars left ip => ?_, ?_⟩
    · obtain ⟨x, x1, -⟩ := r_cT_cond hgr h hd sh hs hru vars left ip
      exact ⟨x, x1⟩
    · rw [(r_cT_rule hgr h sh hs).2.1]
      by_cases q : r_tK b L (j + 2) = 14
      · rw [if_pos q]
        have h1 := sh.2.2.2.1
        have h2 := sh.2.2.2.2.1
        exact Or.inr ⟨j + 3, by omega, rfl⟩
      · rw [if_neg q]; exact Or.inl rfl
  · rw [hR] at e3
    have : r_cn (r_tK b L) 11 E = R := (nI_eq (by omega) (by omega)).mp e3
    obtain ⟨j, c, s, sh, hs, rfl, hru⟩ := r_rule_of hgr hd (r := r) (by omega)
    have hcs : c + 1 < s := sh.2.2.2.2.1
    exact ⟨c + 1, by omega, (r_cT_rule hgr h sh hs).2.2.1⟩
  · rw [(cn 7 (by decide)).2] at hi ⊢
    rw [h.2.1 i hi]
    exact y_is_ok _ i hi
end
