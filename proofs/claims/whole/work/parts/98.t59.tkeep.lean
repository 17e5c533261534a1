/-! ===== the reference's table hangs on its half only ===== -/
section
variable {b : Nat → Nat} {L E sd cc : Nat} {T V W : zV}
def r_ag (sd : Nat) (V W : zV) : Prop := zI W 0 18 = zI V 0 18 ∧ ∀ r ∈ r_hr, ∀ i, sd * r_hs r ≤ i → i < sd * r_hs r + r_hs r → zA W r i = zA V r i
theorem r_mE_ag (hW : r_ag sd V W) (hsd : sd ≤ 1) {vars : Nat → Int32} {left ip : Int32} {a c : Nat} (h1 : 1200 * sd ≤ a) (h2 : c ≤ 1200 * sd + 1200) : y_mE W vars left ip a c = y_mE V vars left ip a c := by
  have e37 : r_hs 37 = 1200 := rfl
  have e38 : r_hs 38 = 1200 := rfl
  unfold y_mE
  by_cases q : a ≤ c
  · rw [r_mx_ext _ _ _ fun j x1 x2 => ⟨hW.2 37 (by decide) j (by rw [e37]; omega) (by rw [e37]; omega), hW.2 38 (by decide) j (by rw [e38]; omega) (by rw [e38]; omega)⟩]
  · rw [show c - a = 0 by omega]; rfl
theorem r_mC_ag {cm : Nat} (hW : r_ag sd V W) (hsd : sd ≤ 1) (hcm : cm ≤ 1200) {vars : Nat → Int32} {left ip : Int32} : ∀ (n k : Nat), k + n ≤ 400 → (∀ j, k ≤ j → j < k + n → r_mkh sd cm V (400 * sd + j)) → y_mC W vars left ip n (400 * sd + k) = y_mC V vars left ip n (400 * sd + k) := by
  have e27 : ∀ r, (r = 27 ∨ r = 28 ∨ r = 29 ∨ r = 30) → r_hs r = 400 ∧ r ∈ r_hr := by
    rintro r (rfl | rfl | rfl | rfl) <;> exact ⟨rfl, by decide⟩
  intro n
  induction n with
  | zero => intro k _ _; rfl
  | succ n ih =>
    intro k hk hm
    obtain ⟨a, c, d, s, h1, h2, h3, h4, h5, h6, h7, h8, h9⟩ := hm k (Nat.le_refl _) (by omega)
    have e := fun r hr => hW.2 r (e27 r hr).2 (400 * sd + k) (by rw [(e27 r hr).1]; omega) (by rw [(e27 r hr).1]; omega)
    rw [y_mC, y_mC, e 28 (by omega), e 29 (by omega), e 30 (by omega), e 27 (by omega), h5, h6, h7, nI_clamp (by omega), nI_clamp (by omega), nI_clamp (by omega), r_mE_ag hW hsd (by omega) (by omega), r_mE_ag hW hsd (by omega) (by omega), show 400 * sd + k + 1 = 400 * sd + (k + 1) by omega, ih (k + 1) (by omega) fun j h1 h2 => hm j (by omega) (by omega)]
/-- the rule's rows, in every state that agrees on the half -/
theorem r_mru_ag (hgr : r_gram (r_tK b L) = .ok E) (h : r_cT b L E T) (hno : r_ok0 b L E) (hd : r_done b L sd E cc V) (hsd : sd ≤ 1) (hW : r_ag sd V W) {r : Nat} (hr : r < r_cn (r_tK b L) 11 E) : y_mru T sd W r := by
  have hg := r_gram_gf hgr
  have hE := hg.1.2.1
  have hcc := hd.2.2.2.1
  have h80 := hd.2.2.2.2.2.1
  have hnr := hd.2.2.2.2.2.2
  have old := r_cT_mru hgr h hno hd hsd (r_hvC hgr h hno) (r_hvX hgr h hno) hr
  obtain ⟨o1, ⟨-, -, -, -, -, -, -, -, o2⟩, -⟩ := id old
  obtain ⟨j, c, s, sh, hs, rfl, hru⟩ := r_rule_of hgr hd hr
  obtain ⟨a1, a2, a3, a4, a5, a6, a7, a8, a9, a10, a11, a12⟩ := id sh
  obtain ⟨n1, n2, n3⟩ := r_cT_ra hgr h sh hs
  have mono1 := r_nr_mono (K := r_tK b L) (i := j) (j := s) (by omega)
  have mono2 := r_nr_mono (K := r_tK b L) (i := s) (j := E) (by omega)
  have mono3 := r_na_mono (K := r_tK b L) (i := j) (j := s) (by omega)
  have na := r_na_le (K := r_tK b L) s
  obtain ⟨u1, ⟨u2, u3⟩, ⟨u4, u5⟩, u6, u7, u8, u9⟩ := id hru
  have ag : ∀ r n, r ∈ r_hr → r_hs r = n → ∀ i, n * sd ≤ i → i < n * sd + n → zA W r i = zA V r i := fun r n hr hn i x1 x2 => hW.2 r hr i (by rw [hn, Nat.mul_comm]; exact x1) (by rw [hn, Nat.mul_comm sd n]; exact x2)
  have eW : ∀ k, k < 400 → ∀ r, (r = 27 ∨ r = 28 ∨ r = 29 ∨ r = 30) → zA W r (400 * sd + k) = zA V r (400 * sd + k) := fun k hk r hr => by
    rcases hr with rfl | rfl | rfl | rfl <;> exact ag _ 400 (by decide) rfl _ (by omega) (by omega)
  refine ⟨?_, ⟨400 * sd + r_nr (r_tK b L) j, 400 * sd + r_nr (r_tK b L) s, by omega, by omega, ?_, ?_, fun k k1 k2 => ?_, fun vars left ip => ?_, o2⟩, ⟨1000 * sd + r_na (r_tK b L) j, 1000 * sd + r_na (r_tK b L) s, by omega, by omega, ?_, ?_, by rw [n1]; omega, fun i x hx => ?_⟩⟩
  · rw [ag 24 80 (by decide) rfl _ (by omega) (by omega)]; exact o1
  · rw [ag 25 81 (by decide) rfl _ (by omega) (by omega)]; exact u2
  · rw [ag 25 81 (by decide) rfl _ (by omega) (by omega)]; exact u3
  · by_cases q : r_tK b L (j + 2) = 14
    · obtain ⟨ka, kc, kd, ks, z1, z2, z3, z4, z5, z6, z7, z8, z9⟩ := (u6 q).1 (k - 400 * sd) (by omega) (by omega)
      have e := eW (k - 400 * sd) (by omega)
      rw [← e 28 (by omega)] at z5
      rw [← e 29 (by omega)] at z6
      rw [← e 30 (by omega)] at z7
      rw [← e 27 (by omega)] at z9
      rw [show 400 * sd + (k - 400 * sd) = k by omega] at z5 z6 z7 z9
      exact ⟨ka, kc, kd, ks, z2, z3, by omega, z5, z6, z7, z8, z9⟩
    · have := u7 q; omega
  · obtain ⟨x, x1, x2⟩ := r_cT_cond hgr h hd sh hs hru vars left ip
    rw [x1, show 400 * sd + r_nr (r_tK b L) s - (400 * sd + r_nr (r_tK b L) j) = r_nr (r_tK b L) s - r_nr (r_tK b L) j by omega, ← x2]
    by_cases q : r_tK b L (j + 2) = 14
    · exact r_mC_ag (cm := cc) hW hsd (by omega) _ _ (by omega) fun i x1 x2 => (u6 q).1 i (by omega) (by omega)
    · rw [u7 q, Nat.sub_self]; rfl
  · rw [ag 26 81 (by decide) rfl _ (by omega) (by omega)]; exact u4
  · rw [ag 26 81 (by decide) rfl _ (by omega) (by omega)]; exact u5
  · obtain ⟨m, m1, m2, m3, m4, rfl⟩ := n2 i x hx
    obtain ⟨e, e1, e2, e3, g1, g2, g3, g4⟩ := r_act_of hgr hd (m := m) (by omega) m3
    obtain ⟨q1, q2, q3⟩ := r_actAt hg h (m := m) (by omega)
    have lm := r_na_lt (K := r_tK b L) m2 m3
    obtain ⟨-, -, ⟨lo0, hi0, b2, b3, b4, b5, b6, old⟩⟩ := old
    have elo : lo0 = 1000 * sd + r_na (r_tK b L) j := by
      rw [u4] at b4
      exact ((nI_eq (by omega) (by omega)).mp b4).symm
    subst elo
    obtain ⟨p1, p2, p3, p4, -, p6, p7⟩ := old i _ hx
    have row : ∀ r, (r = 31 ∨ r = 32 ∨ r = 33 ∨ r = 34) → zA W r (1000 * sd + r_na (r_tK b L) j + i) = zA V r (1000 * sd + r_na (r_tK b L) j + i) := fun r hr => by
      rcases hr with rfl | rfl | rfl | rfl <;> exact ag _ 1000 (by decide) rfl _ (by omega) (by omega)
    refine ⟨by rw [row 31 (by omega)]; exact p1, p2, p3, fun q => by rw [row 32 (by omega)]; exact p4 q, fun q => ?_, p6, p7⟩
    rw [q1] at q
    rw [show 1000 * sd + r_na (r_tK b L) m = 1000 * sd + r_na (r_tK b L) j + i by omega] at g4
    obtain ⟨lo, hi, z1, z2, z3, z4, z5, z6⟩ := g4 q
    refine ⟨lo, hi, z2, by omega, by rw [row 33 (by omega)]; exact z4, by rw [row 34 (by omega)]; exact z5, fun vars left ip => ?_⟩
    obtain ⟨v, v1, v2⟩ := z6 E T (r_cT_TT hg h) e2 e3 vars left ip
    rw [q3, r_mE_ag hW hsd z1 (by omega), v2]
    unfold y_X1
    rw [v1]
end
