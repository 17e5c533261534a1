/-! ===== what leads to what: by tokens and by the table ===== -/
def y_ldp (T : zV) (f t : Nat) : Prop := ∃ m, m < y_many T 7 ∧ ∃ r, r ∈ y_rs T m ∧ ((f = 2 * m ∧ zA T 17 r = -1) ∨ (f = 2 * m + 1 ∧ zA T 17 r = -2)) ∧ ∃ x, x ∈ y_ra T r ∧ ((x.1 = 18 ∧ t = 2 * x.2.1) ∨ (x.1 = 19 ∧ t = 2 * m + 1))
theorem y_rs_in {T : zV} {m r : Nat} : r ∈ y_rs T m ↔ y_hd T m ≤ r ∧ r < y_hd T (m + 1) := by
  unfold y_rs
  rw [List.mem_range'_1]
  omega
section
variable {b : Nat → Nat} {L E : Nat} {T : zV}
theorem r_hd_at (hg : r_gf (r_tK b L) E) (h : r_cT b L E T) {md : Nat} (hm : md < r_cn (r_tK b L) 7 E) : ∃ a, a < E ∧ r_tK b L a = 7 ∧ r_cn (r_tK b L) 7 a = md ∧ y_hd T md = r_cn (r_tK b L) 11 a := by
  have hE := hg.1.2.1
  obtain ⟨a, a1, a2, a3⟩ := r_cn_at E md hm
  refine ⟨a, a1, a2, a3, ?_⟩
  have := h.2.2.1.2.2.1 a (by omega) a2
  unfold y_hd
  rw [← a3, this, nI_clamp (by have := r_cn_le (K := r_tK b L) (w := 11) a; omega)]
theorem r_hd_iff (hg : r_gf (r_tK b L) E) (h : r_cT b L E T) {md j : Nat} (hm : md < r_cn (r_tK b L) 7 E) (hj : j < E) (hk : r_tK b L j = 11) : (y_hd T md ≤ r_cn (r_tK b L) 11 j ∧ r_cn (r_tK b L) 11 j < y_hd T (md + 1)) ↔ r_cn (r_tK b L) 7 j = md + 1 := by
  have hE := hg.1.2.1
  obtain ⟨a, a1, a2, a3, a4⟩ := r_hd_at hg h hm
  have ne : ∀ a, r_tK b L a = 7 → ¬ a = j := fun a h7 z => by subst z; omega
  have side : ∀ a, r_tK b L a = 7 → (r_cn (r_tK b L) 11 a ≤ r_cn (r_tK b L) 11 j ↔ a < j) := by
    intro a h7
    have := ne a h7
    rcases Nat.lt_trichotomy a j with z | z | z
    · exact ⟨fun _ => z, fun _ => r_cn_mono (Nat.le_of_lt z)⟩
    · exact absurd z this
    · have := r_cn_lt (K := r_tK b L) z hk
      exact ⟨fun y => by omega, fun y => by omega⟩
  have side7 : ∀ a, r_tK b L a = 7 → (r_cn (r_tK b L) 7 a < r_cn (r_tK b L) 7 j ↔ a < j) := by
    intro a h7
    have := ne a h7
    rcases Nat.lt_trichotomy a j with z | z | z
    · exact ⟨fun _ => z, fun _ => r_cn_lt z h7⟩
    · exact absurd z this
    · have := r_cn_mono (K := r_tK b L) (w := 7) (Nat.le_of_lt z)
      exact ⟨fun y => by omega, fun y => by omega⟩
  rw [a4, side a a2, ← side7 a a2, a3]
  by_cases q : md + 1 < r_cn (r_tK b L) 7 E
  · obtain ⟨c, c1, c2, c3, c4⟩ := r_hd_at hg h q
    have s1 := side c c2
    have s2 := side7 c c2
    rw [c4]
    omega
  · have e : y_hd T (md + 1) = r_cn (r_tK b L) 11 E := by
      have := h.2.2.2 (md + 1) (by omega) (by have := hg.2.2.1 7 (by decide); have e12 : r_room 7 = 12 := rfl; omega)
      unfold y_hd
      rw [this, nI_clamp (by have := r_cn_le (K := r_tK b L) (w := 11) E; omega)]
    have s1 := r_cn_lt (K := r_tK b L) hj hk
    have s2 := r_cn_mono (K := r_tK b L) (w := 7) (Nat.le_of_lt hj)
    rw [e]
    omega
theorem r_sh_cn7 {K : Nat → Nat} {j c s m : Nat} (h : r_sh K j c s) (h1 : j ≤ m) (h2 : m ≤ s) : r_cn K 7 m = r_cn K 7 j := by
  refine r_cn_eq (i := j) h1 fun a b1 b2 z => ?_
  by_cases q : a = j
  · subst q; have := h.1; omega
  · have := r_sh_in h (m := a) (by omega) (by omega)
    unfold r_ek at this
    omega
theorem r_ld_iff (hgr : r_gram (r_tK b L) = .ok E) (h : r_cT b L E T) {f t : Nat} : r_ldw b L E (min 1000 (E + 1)) f t ↔ y_ldp T f t := by
  have hg := r_gram_gf hgr
  have hE := hg.1.2.1
  have h41 := hg.1.1
  have e7 := (r_cT_cn h hg (k := 7) (by decide)).2
  constructor
  · rintro ⟨m, j, m1, m2, m3, m4, m5, m6, m7⟩
    have hm : m < E := by
      by_cases z : m < E
      · exact z
      · have : m = E := by omega
        subst this; omega
    obtain ⟨c, s, sh, hs⟩ := r_rule_at hgr (show j < E by omega) m3
    obtain ⟨o1, o2⟩ := r_own hgr sh hm (Or.inr (Or.inr (by omega))) m4
    have hcm : c < m := by
      have := r_sh_in sh o1 o2
      unfold r_ek at this
      omega
    have c7 := r_sh_cn7 sh (Nat.le_of_lt o1) (by omega)
    have p7 := r_rule_mode hgr (show j < E by omega) m3
    have l7 := r_cn_mono (K := r_tK b L) (w := 7) (i := j) (j := E) (by omega)
    obtain ⟨e17, -⟩ := r_cT_rule hgr h sh hs
    obtain ⟨-, -, hra⟩ := r_cT_ra hgr h sh hs
    refine ⟨r_cn (r_tK b L) 7 m - 1, by omega, r_cn (r_tK b L) 11 j, y_rs_in.mpr ((r_hd_iff hg h (md := r_cn (r_tK b L) 7 m - 1) (by omega) (show j < E by omega) m3).mpr (by omega)), ?_, y_actAt T m, hra m hcm o2 (by omega), ?_⟩
    · rw [e17]
      unfold r_e5
      rcases m5 with z | z
      · rw [if_neg (by omega), if_pos z]
        rw [if_pos z] at m6
        exact Or.inl ⟨m6, rfl⟩
      · rw [if_neg (by omega), if_neg (by omega)]
        rw [if_neg (by omega)] at m6
        exact Or.inr ⟨m6, rfl⟩
    · obtain ⟨x1, x2, -⟩ := r_actAt hg h hm
      rw [x1]
      rcases m7 with ⟨z, y⟩ | ⟨z, y⟩
      · obtain ⟨k27, hm1⟩ := r_acts_nm hgr hm (Or.inr (Or.inl z))
        exact Or.inl ⟨z, by rw [x2 k27 hm1]; exact y⟩
      · exact Or.inr ⟨z, y⟩
  · rintro ⟨md, d1, r, d2, d3, x, d4, d5⟩
    rw [e7] at d1
    have hr := y_rs_in.mp d2
    have hrE : r < r_cn (r_tK b L) 11 E := by
      by_cases q : md + 1 < r_cn (r_tK b L) 7 E
      · obtain ⟨c, c1, c2, c3, c4⟩ := r_hd_at hg h q
        have := r_cn_mono (K := r_tK b L) (w := 11) (i := c) (j := E) (by omega)
        omega
      · have := h.2.2.2 (md + 1) (by omega) (by have := hg.2.2.1 7 (by decide); have e12 : r_room 7 = 12 := rfl; omega)
        have e : y_hd T (md + 1) = r_cn (r_tK b L) 11 E := by
          unfold y_hd
          rw [this, nI_clamp (by have := r_cn_le (K := r_tK b L) (w := 11) E; omega)]
        omega
    obtain ⟨j, j1, j2, j3⟩ := r_cn_at E r hrE
    subst j3
    obtain ⟨c, s, sh, hs⟩ := r_rule_at hgr j1 j2
    have cm := (r_hd_iff hg h d1 j1 j2).mp hr
    obtain ⟨e17, -⟩ := r_cT_rule hgr h sh hs
    obtain ⟨-, hra, -⟩ := r_cT_ra hgr h sh hs
    obtain ⟨k, hk⟩ := List.getElem?_of_mem d4
    obtain ⟨m, m1, m2, m3, m4, rfl⟩ := hra k x hk
    have hjc := sh.2.2.2.1
    have hm : m < E := by omega
    have c7 := r_sh_cn7 sh (m := m) (by omega) (by omega)
    obtain ⟨x1, x2, -⟩ := r_actAt hg h hm
    have nu0 : ∀ k : Nat, k < 2 ^ 31 → ¬ nI k = -1 ∧ ¬ nI k = -2 := fun k hk => ⟨fun z => by
      have := nI_pos (n := k) hk
      rw [z] at this
      exact this (by decide), fun z => by
      have := nI_pos (n := k) hk
      rw [z] at this
      exact this (by decide)⟩
    have hev : (r_tK b L (j + 1) = 12 ∧ f = 2 * md) ∨ (r_tK b L (j + 1) = 13 ∧ f = 2 * md + 1) := by
      rw [e17] at d3
      unfold r_e5 at d3
      by_cases q27 : r_tK b L (j + 1) = 27
      · rw [if_pos q27] at d3
        obtain ⟨n1, n2⟩ := nu0 (r_nu b L E (j + 1)) (r_nu_lt (by omega) hE)
        rcases d3 with z | z
        · exact absurd z.2 n1
        · exact absurd z.2 n2
      rw [if_neg q27] at d3
      have h3 := sh.2.1
      by_cases q12 : r_tK b L (j + 1) = 12
      · rw [if_pos q12] at d3
        rcases d3 with z | z
        · exact Or.inl ⟨q12, z.1⟩
        · exact absurd z.2 (by decide)
      · rw [if_neg q12] at d3
        rcases d3 with z | z
        · exact absurd z.2 (by decide)
        · exact Or.inr ⟨by omega, z.1⟩
    refine ⟨m, j, by omega, by omega, j2, r_sh_cn sh (by omega) (by omega), by omega, ?_, ?_⟩
    · rcases hev with ⟨z, y⟩ | ⟨z, y⟩
      · rw [if_pos z]; omega
      · rw [if_neg (by omega)]; omega
    · rw [x1] at d5
      rcases d5 with ⟨z, y⟩ | ⟨z, y⟩
      · obtain ⟨k27, hm1⟩ := r_acts_nm hgr hm (Or.inr (Or.inl z))
        rw [x2 k27 hm1] at y
        exact Or.inl ⟨z, y⟩
      · exact Or.inr ⟨z, by omega⟩
end
