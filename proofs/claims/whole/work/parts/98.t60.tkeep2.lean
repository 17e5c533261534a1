/-! ===== the reference's rows show the table, in every state that agrees on the half ===== -/
section
variable {b : Nat → Nat} {L E sd cc : Nat} {T V W : zV}
theorem r_nu28 {j : Nat} (h : r_tK b L j = 28) : r_nu b L E j = r_tV b L j := by
  unfold r_nu
  rw [if_neg (by omega), if_pos h]
theorem r_nq_nu {j t : Nat} (hk : r_tK b L j = 27) (hro : r_ro (r_tK b L) j = t) (ht : t < 7) : r_nq b L j = r_nu b L E j := by
  unfold r_nq r_nu
  rw [if_pos hk, if_neg (by omega), if_neg (by omega)]
theorem r_cT_mt (hgr : r_gram (r_tK b L) = .ok E) (h : r_cT b L E T) (hno : r_ok0 b L E) (hd : r_done b L sd E cc V) (hsd : sd ≤ 1) (h18 : zI V 0 18 = nI sd) (hW : r_ag sd V W) : y_mt T sd W := by
  have hg := r_gram_gf hgr
  have hE := hg.1.2.1
  have hE41 := hg.1.1
  have h80 := hd.2.2.2.2.2.1
  have cn := fun k (hk : k ≤ 7) => r_cT_cn h hg hk
  obtain ⟨⟨⟨t1, t2⟩, t3, t4, t5, t6⟩, hhd, -⟩ := id hd
  have rm : ∀ k, k ≤ 7 → r_cn (r_tK b L) k E ≤ r_max k := hd.2.2.2.2.1
  have ag : ∀ r n, r ∈ r_hr → r_hs r = n → ∀ i, n * sd ≤ i → i < n * sd + n → zA W r i = zA V r i := fun r n hr hn i x1 x2 => hW.2 r hr i (by rw [hn, Nat.mul_comm]; exact x1) (by rw [hn, Nat.mul_comm sd n]; exact x2)
  have tB : ∀ r k n, 12 ≤ r → r ≤ 22 → r ∈ r_hr → r_kr r = k → r_hs r = n → r_max k ≤ n → k ≤ 7 → ∀ j, j < E → r_tK b L j = k → zA W r (n * sd + r_cn (r_tK b L) k j) = r_val b L r j := by
    intro r k n h1 h2 hr hk hn hmx k7 j hj hkj
    have lt := r_cn_lt (j := E) hj hkj
    have := rm k k7
    rw [ag r n hr hn _ (by omega) (by omega)]
    have := t3 r h1 h2 j hj (by rw [hk]; exact hkj)
    rw [hn, hk, Nat.mul_comm sd n] at this
    exact this
  have c4 : ∀ r, r ∈ [2, 3, 5, 6, 7, 8, 9, 10, 11] → ∀ k, r_k4 r = k → ∀ j, j < E → r_tK b L j = k → zA T r (r_cn (r_tK b L) k j) = r_v4 b L E r j := fun r hr k hk j hj hkj => by
    have := h.1.2.1 r hr j hj (by rw [hk]; exact hkj)
    rw [hk] at this; exact this
  have at' : ∀ k, k ≤ 7 → ∀ x, x < y_many T k → ∃ j, j < E ∧ r_tK b L j = k ∧ r_cn (r_tK b L) k j = x := fun k hk x hx => by
    rw [(cn k hk).2] at hx
    exact r_cn_at E x hx
  have v28 : ∀ j r4 r, j < E → (r4 = 2 ∨ r4 = 3 ∨ r4 = 9 ∨ r4 = 10) → (r = 12 ∨ r = 13 ∨ r = 20 ∨ r = 21) → r_tK b L (j + 2) = 28 → r_val b L r j = r_v4 b L E r4 j := by
    intro j r4 r hj h4 hr hk
    unfold r_val r_v4
    rw [if_neg (by omega), if_neg (by omega), if_neg (by omega), if_neg (by omega), if_neg (by omega), if_neg (by omega), if_neg (by omega), r_nu28 hk]
  have lt2 : ∀ j, j < E → r_tK b L (j + 1) = 27 → (r_tK b L (j + 2) = 28 ∨ r_tK b L (j + 2) = 27) → j + 1 < E ∧ j + 2 < E := by
    intro j hj k1 k2
    have : j + 1 ≠ E := fun z => by rw [z] at k1; omega
    have : j + 2 ≠ E := fun z => by rw [z] at k2; omega
    omega
  refine ⟨⟨hsd, hW.1.trans h18⟩, ⟨fun k hk => ?_, ?_⟩, fun m hm => ?_, fun m hm => ?_, fun R e3 hR r hr => ?_, ⟨fun x hx => ?_, fun x hx => ?_, fun x hx => ?_, fun x _ hx => ?_⟩, fun x hx => ?_, ?_⟩
  · rw [ag 8 9 (by decide) rfl _ (by omega) (by omega), t1 k (by omega), (cn k (by omega)).1]
  · rw [ag 8 9 (by decide) rfl _ (by omega) (by omega), t2, r_cT_R hg h]
  · obtain ⟨j, j1, j2, rfl⟩ := at' 7 (by decide) m hm
    obtain ⟨e, p1, p2, p3, p4, p5⟩ := (r_shp hgr j1).2 j2
    refine ⟨?_, ?_⟩
    · rw [tB 21 7 12 (by decide) (by decide) (by decide) rfl rfl (by decide) (by decide) j j1 j2, c4 10 (by decide) 7 rfl j j1 j2]
      exact v28 j 10 21 j1 (by omega) (by omega) p4
    · rw [tB 22 7 12 (by decide) (by decide) (by decide) rfl rfl (by decide) (by decide) j j1 j2, c4 11 (by decide) 7 rfl j j1 j2]
      have e1 : r_val b L 22 j = (if r_tK b L (j + 3) = 9 then nI (r_tV b L (j + 4)) else 0) := rfl
      have e2 : r_v4 b L E 11 j = (if r_tK b L (j + 3) = 9 then nI (r_nu b L E (j + 4)) else 0) := rfl
      rw [e1, e2]
      rcases p5 with ⟨q1, q2, -⟩ | ⟨q1, -⟩
      · rw [if_pos q1, if_pos q1, r_nu28 q2]
      · rw [if_neg (by omega), if_neg (by omega)]
  · obtain ⟨hm1, hm0⟩ := hm
    rw [(cn 7 (by decide)).2] at hm1 hm0
    have m12 : r_cn (r_tK b L) 7 E ≤ 12 := rm 7 (by decide)
    obtain ⟨j, j1, j2, j3, j4, j5⟩ := r_cT_hd hg h (m := m) (by omega)
    rw [ag 23 13 (by decide) rfl _ (by omega) (by omega), j2]
    by_cases q : m < r_cn (r_tK b L) 7 E
    · obtain ⟨k1, k2, k3⟩ := j4 q
      rw [← k3]
      exact t4 j k2 k1
    · have e := j5 (by omega)
      have em : m = r_cn (r_tK b L) 7 E := by omega
      rw [em, e]
      exact hhd (by omega)
  · rw [r_cT_R hg h] at e3
    have : r_cn (r_tK b L) 11 E = R := (nI_eq (by omega) (by omega)).mp e3
    exact r_mru_ag hgr h hno hd hsd hW (by omega)
  · obtain ⟨j, j1, j2, rfl⟩ := at' 0 (by decide) x hx
    obtain ⟨e, p⟩ := (r_shp hgr j1).1 (by omega)
    rw [tB 12 0 16 (by decide) (by decide) (by decide) rfl rfl (by decide) (by decide) j j1 j2, c4 2 (by decide) 0 rfl j j1 j2]
    exact v28 j 2 12 j1 (by omega) (by omega) (p.2.2.2.1 (by omega)).1
  · obtain ⟨j, j1, j2, rfl⟩ := at' 1 (by decide) x hx
    obtain ⟨e, p⟩ := (r_shp hgr j1).1 (by omega)
    rw [tB 13 1 8 (by decide) (by decide) (by decide) rfl rfl (by decide) (by decide) j j1 j2, c4 3 (by decide) 1 rfl j j1 j2]
    exact v28 j 3 13 j1 (by omega) (by omega) (p.2.2.2.1 (by omega)).1
  · obtain ⟨j, j1, j2, rfl⟩ := at' 3 (by decide) x hx
    obtain ⟨e, p⟩ := (r_shp hgr j1).1 (by omega)
    have p27 := (p.2.2.2.2.1 (Or.inr j2)).1
    rw [tB 16 3 16 (by decide) (by decide) (by decide) rfl rfl (by decide) (by decide) j j1 j2, c4 5 (by decide) 3 rfl j j1 j2]
    unfold r_val r_v4
    rw [if_neg (by decide), if_pos (by decide), if_neg (by decide), if_neg (by decide), if_neg (by decide)]
    rw [r_nq_nu (E := E) (t := 0) p27 (by unfold r_ro; rw [show j + 2 - 1 = j + 1 by omega, p.2.2.1, show j + 2 - 2 = j by omega, j2]; rfl) (by decide)]
  · obtain ⟨j, j1, j2, rfl⟩ := at' 6 (by decide) x hx
    obtain ⟨e, p⟩ := (r_shp hgr j1).1 (by omega)
    rw [tB 20 6 16 (by decide) (by decide) (by decide) rfl rfl (by decide) (by decide) j j1 j2, c4 9 (by decide) 6 rfl j j1 j2]
    exact v28 j 9 20 j1 (by omega) (by omega) (p.2.2.2.1 (by omega)).1
  · obtain ⟨j, j1, j2, rfl⟩ := at' 5 (by decide) x hx
    obtain ⟨e, p⟩ := (r_shp hgr j1).1 (by omega)
    obtain ⟨p27, p8⟩ := p.2.2.2.2.2.1 j2
    have ro1 : r_ro (r_tK b L) (j + 1) = 4 := by unfold r_ro; rw [Nat.add_sub_cancel, j2]; rfl
    have ro2 : r_ro (r_tK b L) (j + 2) = 4 := by unfold r_ro; rw [show j + 2 - 1 = j + 1 by omega, p.2.2.1, show j + 2 - 2 = j by omega, j2]; rfl
    refine ⟨?_, ?_, ?_⟩
    · rw [tB 17 5 24 (by decide) (by decide) (by decide) rfl rfl (by decide) (by decide) j j1 j2, c4 6 (by decide) 5 rfl j j1 j2]
      unfold r_val r_v4
      rw [if_pos (by decide), if_pos rfl, r_nq_nu (E := E) p.2.2.1 ro1 (by decide)]
    · rw [tB 18 5 24 (by decide) (by decide) (by decide) rfl rfl (by decide) (by decide) j j1 j2, c4 7 (by decide) 5 rfl j j1 j2]
      unfold r_val r_v4
      rw [if_neg (by decide), if_pos (by decide), if_neg (by decide), if_neg (by decide), if_neg (by decide), r_nq_nu (E := E) p27 ro2 (by decide)]
    · rw [tB 19 5 24 (by decide) (by decide) (by decide) rfl rfl (by decide) (by decide) j j1 j2, c4 8 (by decide) 5 rfl j j1 j2]
      have e1 : r_val b L 19 j = (if r_tK b L (j + 3) = 8 then nI (r_nq b L (j + 4)) else -1) := rfl
      have e2 : r_v4 b L E 8 j = (if r_tK b L (j + 3) = 8 then nI (r_nu b L E (j + 4)) else -1) := rfl
      rw [e1, e2]
      rcases p8 with ⟨q1, q2, -⟩ | ⟨q1, -⟩
      · rw [if_pos q1, if_pos q1, r_nq_nu (E := E) (t := 0) q2 (by unfold r_ro; rw [show j + 4 - 1 = j + 3 by omega, q1]; rfl) (by decide)]
      · rw [if_neg (by omega), if_neg (by omega)]
  · have m2 : r_cn (r_tK b L) 2 E ≤ 8 := rm 2 (by decide)
    have m1 : r_cn (r_tK b L) 1 E ≤ 8 := rm 1 (by decide)
    have vals : ∀ j, j < E → r_tK b L j = 2 → (r_nu b L E (j + 1) < r_cn (r_tK b L) 1 E ∧ r_nu b L E (j + 2) < r_cn (r_tK b L) 1 E) ∧ zA W 14 (8 * sd + r_cn (r_tK b L) 2 j) = nI (r_nu b L E (j + 1)) ∧ zA W 15 (8 * sd + r_cn (r_tK b L) 2 j) = nI (r_nu b L E (j + 2)) := by
      intro j j1 j2
      obtain ⟨e, p⟩ := (r_shp hgr j1).1 (by omega)
      have p27 := (p.2.2.2.2.1 (Or.inl j2)).1
      have ro1 : r_ro (r_tK b L) (j + 1) = 1 := by unfold r_ro; rw [Nat.add_sub_cancel, j2]; rfl
      have ro2 : r_ro (r_tK b L) (j + 2) = 1 := by unfold r_ro; rw [show j + 2 - 1 = j + 1 by omega, p.2.2.1, show j + 2 - 2 = j by omega, j2]; rfl
      have l2 := lt2 j j1 p.2.2.1 (Or.inr p27)
      obtain ⟨c, c1, c2, c3⟩ := r_nu_ok hno l2.1 p.2.2.1 ro1 (by decide)
      obtain ⟨d, d1, d2, d3⟩ := r_nu_ok hno l2.2 p27 ro2 (by decide)
      refine ⟨⟨by omega, by omega⟩, ?_, ?_⟩
      · rw [tB 14 2 8 (by decide) (by decide) (by decide) rfl rfl (by decide) (by decide) j j1 j2]
        unfold r_val
        rw [if_pos (by decide), r_nq_nu (E := E) p.2.2.1 ro1 (by decide)]
      · rw [tB 15 2 8 (by decide) (by decide) (by decide) rfl rfl (by decide) (by decide) j j1 j2]
        unfold r_val
        rw [if_neg (by decide), if_pos (by decide), r_nq_nu (E := E) p27 ro2 (by decide)]
    refine ⟨r_cn (r_tK b L) 2 E, m2, (cn 2 (by decide)).1, fun a ha => ?_, fun c d hc hd' => ?_⟩
    · obtain ⟨j, j1, j2, rfl⟩ := r_cn_at E a ha
      obtain ⟨⟨v1, v2⟩, v3, v4⟩ := vals j j1 j2
      rw [(cn 1 (by decide)).2]
      exact ⟨_, _, v1, v2, v3, v4⟩
    · rw [(cn 1 (by decide)).2] at hc hd'
      rw [h.1.2.2 c d (by omega) (by omega)]
      constructor
      · rintro ⟨j, j1, j2, j3⟩
        obtain ⟨⟨v1, v2⟩, v3, v4⟩ := vals j j1 j2
        refine ⟨r_cn (r_tK b L) 2 j, r_cn_lt j1 j2, ?_⟩
        rw [v3, v4]
        rcases j3 with ⟨z1, z2⟩ | ⟨z1, z2⟩
        · exact Or.inl ⟨by rw [z1], by rw [z2]⟩
        · exact Or.inr ⟨by rw [z1], by rw [z2]⟩
      · rintro ⟨a, ha, j3⟩
        obtain ⟨j, j1, j2, rfl⟩ := r_cn_at E a ha
        obtain ⟨⟨v1, v2⟩, v3, v4⟩ := vals j j1 j2
        rw [v3, v4] at j3
        refine ⟨j, j1, j2, ?_⟩
        rcases j3 with ⟨z1, z2⟩ | ⟨z1, z2⟩
        · exact Or.inl ⟨(nI_eq (by omega) (by omega)).mp z1, (nI_eq (by omega) (by omega)).mp z2⟩
        · exact Or.inr ⟨(nI_eq (by omega) (by omega)).mp z1, (nI_eq (by omega) (by omega)).mp z2⟩
end
