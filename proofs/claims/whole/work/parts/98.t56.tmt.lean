/-! ===== the reference's rows show the table ===== -/
section
variable {b : Nat → Nat} {L E sd cc : Nat} {T V : zV}
theorem r_cT_mru (hgr : r_gram (r_tK b L) = .ok E) (h : r_cT b L E T) (hno : r_ok0 b L E) (hd : r_done b L sd E cc V) (hsd : sd ≤ 1)
    (hvC : ∀ j c s, r_sh (r_tK b L) j c s → s < E → ∀ vars vars' left ip, (∀ x, x < y_many T 6 → vars x = vars' x) → y_cond T (r_cn (r_tK b L) 11 j) vars left ip = y_cond T (r_cn (r_tK b L) 11 j) vars' left ip)
    (hvX : ∀ m, m < E → (r_tK b L m = 16 ∨ r_tK b L m = 17) → ∀ vars vars' left ip, (∀ x, x < y_many T 6 → vars x = vars' x) → (y_actAt T m).2.2 vars left ip = (y_actAt T m).2.2 vars' left ip) {r : Nat} (hr : r < r_cn (r_tK b L) 11 E) : y_mru T sd V r := by
  have hg := r_gram_gf hgr
  have hE := hg.1.2.1
  have hcc := hd.2.2.2.1
  have h80 := hd.2.2.2.2.2.1
  have hnr := hd.2.2.2.2.2.2
  obtain ⟨j, c, s, sh, hs, rfl, hru⟩ := r_rule_of hgr hd hr
  obtain ⟨a1, a2, a3, a4, a5, a6, a7, a8, a9, a10, a11, a12⟩ := id sh
  obtain ⟨e17, -⟩ := r_cT_rule hgr h sh hs
  obtain ⟨n1, n2, n3⟩ := r_cT_ra hgr h sh hs
  have mono1 := r_nr_mono (K := r_tK b L) (i := j) (j := s) (by omega)
  have mono2 := r_nr_mono (K := r_tK b L) (i := s) (j := E) (by omega)
  have mono3 := r_na_mono (K := r_tK b L) (i := j) (j := s) (by omega)
  have na := r_na_le (K := r_tK b L) s
  obtain ⟨u1, ⟨u2, u3⟩, ⟨u4, u5⟩, u6, u7, u8, u9⟩ := id hru
  refine ⟨?_, ⟨400 * sd + r_nr (r_tK b L) j, 400 * sd + r_nr (r_tK b L) s, by omega, by omega, u2, u3, fun k k1 k2 => ?_, fun vars left ip => ?_, fun vars vars' left ip hv => hvC j c s sh hs vars vars' left ip hv⟩, ⟨1000 * sd + r_na (r_tK b L) j, 1000 * sd + r_na (r_tK b L) s, by omega, by omega, u4, u5, by rw [n1]; omega, fun i x hx => ?_⟩⟩
  · rw [u1, e17]
    unfold r_ev r_e5
    have n27 : r_tK b L (j + 1) = 27 → (r_lk (r_tl b L (j + 1)) (r_tW b L (j + 1)) 0).getD 0 = r_nu b L E (j + 1) := by
      intro q
      have hro : r_ro (r_tK b L) (j + 1) = 0 := by unfold r_ro; rw [Nat.add_sub_cancel, a1]; rfl
      unfold r_nu
      rw [if_pos q, hro, if_neg (by decide), if_neg (by decide)]
    rcases a2 with q | q | q
    · rw [if_pos q, if_neg (by omega), if_pos q]
    · rw [if_neg (by omega), if_pos q, if_neg (by omega), if_neg (by omega)]
    · rw [if_neg (by omega), if_neg (by omega), if_pos q, n27 q]
  · by_cases q : r_tK b L (j + 2) = 14
    · obtain ⟨ka, kc, kd, ks, z1, z2, z3, z4, z5, z6, z7, z8, z9⟩ := (u6 q).1 (k - 400 * sd) (by omega) (by omega)
      rw [show 400 * sd + (k - 400 * sd) = k by omega] at z5 z6 z7 z9
      exact ⟨ka, kc, kd, ks, z2, z3, by omega, z5, z6, z7, z8, z9⟩
    · have := u7 q; omega
  · obtain ⟨x, x1, x2⟩ := r_cT_cond hgr h hd sh hs hru vars left ip
    rw [x1, show 400 * sd + r_nr (r_tK b L) s - (400 * sd + r_nr (r_tK b L) j) = r_nr (r_tK b L) s - r_nr (r_tK b L) j by omega]
    exact x2
  · obtain ⟨m, m1, m2, m3, m4, rfl⟩ := n2 i x hx
    obtain ⟨e, e1, e2, e3, g1, g2, g3, g4⟩ := r_act_of hgr hd (m := m) (by omega) m3
    obtain ⟨q1, q2, q3⟩ := r_actAt hg h (m := m) (by omega)
    have hst := hd.2.2.1
    rw [show 1000 * sd + r_na (r_tK b L) m = 1000 * sd + r_na (r_tK b L) j + i by omega] at g1 g2 g3 g4
    have six : r_tK b L m = 17 → r_nu b L E (m + 1) < 16 ∧ (r_lk (r_tl b L (m + 1)) (r_tW b L (m + 1)) 6).getD 0 = r_nu b L E (m + 1) := by
      intro q
      obtain ⟨k27, hm1⟩ := r_acts_nm hgr (m := m) (by omega) (by omega)
      have hro : r_ro (r_tK b L) (m + 1) = 6 := by unfold r_ro; rw [Nat.add_sub_cancel, q]; rfl
      obtain ⟨d, d1, d2, d3⟩ := r_nu_ok hno hm1 k27 hro (by decide)
      have : r_cn (r_tK b L) 6 E ≤ 16 := hg.2.2.1 6 (by decide)
      rw [d1, d2]
      exact ⟨by omega, rfl⟩
    refine ⟨by rw [q1]; exact g1, by rw [q1]; exact m3.1, by rw [q1]; exact m3.2, fun q => ?_, fun q => ?_, fun q => ?_, fun q vars vars' left ip hv => ?_⟩
    · rw [q1] at q
      obtain ⟨k27, hm1⟩ := r_acts_nm hgr (m := m) (by omega) q
      rw [q2 k27 hm1]
      rcases q with q | q | q
      · rw [g2 q, (six q).2]
      · have := hst m (by omega) q
        rw [show 1000 * sd + r_na (r_tK b L) m = 1000 * sd + r_na (r_tK b L) j + i by omega] at this
        exact this
      · rw [g3 q]
        have hro : r_ro (r_tK b L) (m + 1) = 1 := by unfold r_ro; rw [Nat.add_sub_cancel, q]; rfl
        obtain ⟨d, d1, d2, d3⟩ := r_nu_ok hno hm1 k27 hro (by decide)
        rw [d1, d2]; rfl
    · rw [q1] at q
      obtain ⟨lo, hi, z1, z2, z3, z4, z5, z6⟩ := g4 q
      refine ⟨lo, hi, z2, by omega, z4, z5, fun vars left ip => ?_⟩
      obtain ⟨v, v1, v2⟩ := z6 E T (r_cT_TT hg h) e2 e3 vars left ip
      rw [q3, v2]
      unfold y_X1
      rw [v1]
    · rw [q1] at q
      obtain ⟨k27, hm1⟩ := r_acts_nm hgr (m := m) (by omega) (by omega)
      rw [q2 k27 hm1]
      exact (six q).1
    · rw [q1] at q
      exact hvX m (by omega) q vars vars' left ip hv
end
