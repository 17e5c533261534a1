/-! ===== a table that is told well, further ===== -/
section
variable {b : Nat → Nat} {L E sd cc : Nat} {T V : zV}
theorem r_cT_ra (hgr : r_gram (r_tK b L) = .ok E) (h : r_cT b L E T) {j c s : Nat} (sh : r_sh (r_tK b L) j c s) (hs : s < E) :
    (y_ra T (r_cn (r_tK b L) 11 j)).length = r_na (r_tK b L) s - r_na (r_tK b L) j ∧ (∀ k x, (y_ra T (r_cn (r_tK b L) 11 j))[k]? = some x → ∃ m, c < m ∧ m < s ∧ (16 ≤ r_tK b L m ∧ r_tK b L m ≤ 24) ∧ r_na (r_tK b L) m = r_na (r_tK b L) j + k ∧ x = y_actAt T m) ∧
    ∀ m, c < m → m < s → (16 ≤ r_tK b L m ∧ r_tK b L m ≤ 24) → y_actAt T m ∈ y_ra T (r_cn (r_tK b L) 11 j) := by
  have hg := r_gram_gf hgr
  have hE := hg.1.2.1
  obtain ⟨-, -, e19, -⟩ := r_cT_rule hgr h sh hs
  obtain ⟨a1, a2, a3, a4, a5, a6, a7, a8, a9, a10, a11, a12⟩ := id sh
  have ena : r_na (r_tK b L) (c + 1) = r_na (r_tK b L) j := r_na_same (by omega) fun a h1 h2 => by
    by_cases q : a = j
    · subst q; omega
    · have := r_sh_in sh (m := a) (by omega) (by omega)
      unfold r_ek at this
      omega
  unfold y_ra
  rw [e19, nI_clamp (by omega)]
  obtain ⟨g1, g2, g3⟩ := r_acts_list hg h hs a8 1001 (c + 1) (by omega) (by omega) fun m h1 h2 => by
    have := a11 m (by omega) h2; unfold r_ek at this; omega
  rw [ena] at g1 g2
  exact ⟨g1, fun k x hx => by
    obtain ⟨m, m1, m2, m3, m4, m5⟩ := g2 k x hx
    exact ⟨m, by omega, m2, m3, m4, m5⟩, fun m h1 h2 h3 => g3 m (by omega) h2 h3⟩
theorem r_actAt (hg : r_gf (r_tK b L) E) (h : r_cT b L E T) {m : Nat} (hm : m < E) : (y_actAt T m).1 = r_tK b L m ∧ (r_tK b L (m + 1) = 27 → m + 1 < E → (y_actAt T m).2.1 = r_nu b L E (m + 1)) ∧ (y_actAt T m).2.2 = y_X1 T (if r_tK b L m = 17 then m + 2 else m + 1) := by
  have kle := r_tK_le (b := b) (L := L) m
  have hE := hg.1.2.1
  have eK := r_cT_K hg h (i := m) (by omega)
  unfold y_actAt
  refine ⟨?_, fun k27 h1 => ?_, ?_⟩
  · show (y_K T m).toNatClampNeg = _
    rw [eK, nI_clamp (by omega)]
  · show (y_N T (m + 1)).toNatClampNeg = _
    rw [(r_cT_TT hg h (m + 1) h1).2.2 (Or.inl k27), nI_clamp (r_nu_lt (by omega) hE)]
  · show y_X1 T (if y_K T m = 17 then m + 2 else m + 1) = _
    rw [eK]
    by_cases q : r_tK b L m = 17
    · rw [if_pos q, if_pos (show nI (r_tK b L m) = (17 : Int32) by rw [q]; rfl)]
    · rw [if_neg q, if_neg (show ¬ nI (r_tK b L m) = (17 : Int32) from fun z => q ((nI_eq (b := 17) (by omega) (by decide)).mp z))]
theorem r_cT_ax (hgr : r_gram (r_tK b L) = .ok E) (h : r_cT b L E T) (hno : r_ok0 b L E) (hd : r_done b L sd E cc V) : y_ax T := by
  have hg := r_gram_gf hgr
  have hE := hg.1.2.1
  intro R e3 r hr
  obtain ⟨e3, hR80⟩ := e3
  have h80 := hd.2.2.2.2.2.1
  rw [r_cT_R hg h] at e3
  have hr' : r < r_cn (r_tK b L) 11 E := by
    have : r_cn (r_tK b L) 11 E = R := (nI_eq (by omega) (by omega)).mp e3
    omega
  obtain ⟨j, c, s, sh, hs, rfl, hru⟩ := r_rule_of hgr hd hr'
  obtain ⟨g1, g2, g3⟩ := r_cT_ra hgr h sh hs
  obtain ⟨a1, a2, a3, a4, a5, a6, a7, a8, a9, a10, a11, a12⟩ := id sh
  refine ⟨fun z => ?_, fun x hx => ?_⟩
  · have := g3 (c + 1) (by omega) (by omega) a9
    rw [z] at this
    cases this
  · obtain ⟨k, hk, hkx⟩ := List.mem_iff_getElem?.mp hx |>.imp fun k hk => (⟨hk, trivial⟩ : _ ∧ True)
    obtain ⟨m, m1, m2, m3, m4, rfl⟩ := g2 k x hk
    obtain ⟨q1, q2, q3⟩ := r_actAt hg h (m := m) (by omega)
    rw [q1]
    refine ⟨fun z => ?_, fun z => ?_⟩
    · obtain ⟨k27, hm1⟩ := r_acts_nm hgr (m := m) (by omega) (by omega)
      rw [q2 k27 hm1, (r_cT_cn h hg (by decide)).2]
      exact r_nu_st hgr hno (by omega) z
    · obtain ⟨k27, hm1⟩ := r_acts_nm hgr (m := m) (by omega) (by omega)
      have hro : r_ro (r_tK b L) (m + 1) = 1 := by unfold r_ro; rw [Nat.add_sub_cancel, z]; rfl
      obtain ⟨d, d1, d2, d3⟩ := r_nu_ok hno hm1 k27 hro (by decide)
      rw [q2 k27 hm1, (r_cT_cn h hg (by decide)).2, d2]
      exact d3
theorem r_cT_mo (hg : r_gf (r_tK b L) E) (h : r_cT b L E T) : ∀ m, m < y_many T 7 → y_hd T m ≤ y_hd T (m + 1) := by
  intro m hm
  have c7 := r_cT_cn h hg (k := 7) (by decide)
  have m7 : r_cn (r_tK b L) 7 E ≤ 12 := hg.2.2.1 7 (by decide)
  rw [c7.2] at hm
  obtain ⟨j, j1, j2, j3, j4, j5⟩ := r_cT_hd hg h (m := m) (by omega)
  obtain ⟨i, i1, i2, i3, i4, i5⟩ := r_cT_hd hg h (m := m + 1) (by omega)
  rw [j3, i3]
  obtain ⟨k1, k2, k3⟩ := j4 hm
  refine r_cn_mono ?_
  by_cases q : m + 1 < r_cn (r_tK b L) 7 E
  · obtain ⟨l1, l2, l3⟩ := i4 q
    by_cases z : j ≤ i
    · exact z
    · have := r_cn_mono (K := r_tK b L) (w := 7) (i := i) (j := j) (by omega)
      omega
  · rw [i5 (by omega)]; exact j1
theorem r_cT_tm (hgr : r_gram (r_tK b L) = .ok E) (h : r_cT b L E T) : y_tm T := by
  have hg := r_gram_gf hgr
  have hE := hg.1.2.1
  intro m hm
  rw [(r_cT_cn h hg (by decide)).2] at hm
  obtain ⟨j, j1, j2, j3⟩ := r_cn_at E m hm
  have v := h.1.2.1 11 (by decide) j j1 j2
  have v : zA T 11 (r_cn (r_tK b L) 7 j) = r_v4 b L E 11 j := v
  rw [← j3, v]
  unfold r_v4
  rw [if_neg (by decide), if_neg (by decide), if_pos rfl]
  by_cases q : r_tK b L (j + 3) = 9
  · rw [if_pos q]; exact ⟨_, r_nu_lt (by omega) hE, rfl⟩
  · rw [if_neg q]; exact ⟨0, by decide, rfl⟩
theorem r_cT_to (hg : r_gf (r_tK b L) E) (h : r_cT b L E T) : y_to T := by
  intro i hi
  have c7 := r_cT_cn h hg (k := 7) (by decide)
  rw [c7.2] at hi ⊢
  exact h.2.1 i hi
theorem r_cT_pw (hgr : r_gram (r_tK b L) = .ok E) (h : r_cT b L E T) (hd : r_done b L sd E cc V) : y_pw T := by
  have hg := r_gram_gf hgr
  have hE := hg.1.2.1
  intro R e3 hR80 r hr
  have h80 := hd.2.2.2.2.2.1
  rw [r_cT_R hg h] at e3
  have hr' : r < r_cn (r_tK b L) 11 E := by
    have : r_cn (r_tK b L) 11 E = R := (nI_eq (by omega) (by omega)).mp e3
    omega
  obtain ⟨j, c, s, sh, hs, rfl, hru⟩ := r_rule_of hgr hd hr'
  obtain ⟨g1, g2, g3⟩ := r_cT_ra hgr h sh hs
  obtain ⟨-, -, -, e20, e21⟩ := r_cT_rule hgr h sh hs
  have mem : ∀ x, x ∈ y_ra T (r_cn (r_tK b L) 11 j) → ∃ m, c < m ∧ m < s ∧ x.1 = r_tK b L m := by
    intro x hx
    obtain ⟨k, hk⟩ := List.mem_iff_getElem?.mp hx
    obtain ⟨m, m1, m2, m3, m4, rfl⟩ := g2 k x hk
    exact ⟨m, m1, m2, (r_actAt hg h (m := m) (by omega)).1⟩
  rw [e20, e21]
  unfold y_pay y_hol
  rw [List.any_eq_false, List.any_eq_false]
  refine ⟨⟨fun z x hx y => ?_, fun z m m1 m2 m3 => ?_⟩, ⟨fun z x hx y => ?_, fun z m m1 m2 m3 => ?_⟩⟩
  · obtain ⟨m, m1, m2, m3⟩ := mem x hx
    rw [decide_eq_true_eq, m3] at y
    exact z m m1 m2 y
  · have := z _ (g3 m m1 m2 (by omega))
    rw [decide_eq_true_eq, (r_actAt hg h (m := m) (by omega)).1] at this
    exact this m3
  · obtain ⟨m, m1, m2, m3⟩ := mem x hx
    rw [decide_eq_true_eq, m3] at y
    exact z m m1 m2 y
  · have := z _ (g3 m m1 m2 (by omega))
    rw [decide_eq_true_eq, (r_actAt hg h (m := m) (by omega)).1] at this
    exact this m3
end
