/-! ===== the class reads: the answer ===== -/
section
variable {F : Nat} {b : Nat → Nat} {L : Nat} {V0 V1 V2 V3 V4 : zV}
theorem c_read (hF : 4200 ≤ F) (h : r_cb b L V0) (hl : zI V0 0 1 = nI L) (hw : r_cw V1) :
    ∃ V1' V2' V3', fX11_read F V0 V1 V2 V3 V4 = fX11_read_b44 F (zsI V0 0 1 0) V1' V2' V3' V4 ∧ r_ans b L (zI V1' 0 5) (zI V1' 0 6) ∧ r_cw V1' ∧ (zI V1' 0 5 = 0 → ∃ E, r_gram (r_tK b L) = .ok E ∧ r_nv b L (E + 1) E (E + 1) V1') := by
  obtain ⟨Va, N, a1, a2, a3, a4, a5, a6⟩ := c_cut (F := F) h (by omega) hw
  have wa : zB Va 1 = zB V1 1 := a6.2.2.1 1 (by decide)
  obtain ⟨Vb, V2', b1, b2⟩ := c_check (F := F) (V2 := V2) (by omega) a3 a2 a4
  unfold fX11_read
  rw [hl, a1, y_bd, y_let, b1, y_bd]
  cases hg : r_gram (r_tK b L) with
  | error e =>
    rw [hg] at b2
    obtain ⟨rfl, c2, c3⟩ := b2
    rw [if_neg (show ¬ zI (r_blm b L e.1 e.2 Va) 0 5 = 0 from r_blm_5 c2)]
    refine ⟨_, V2', V3, rfl, ?_, fun k w hk => ?_, fun z => absurd z (r_blm_5 c2)⟩
    · unfold r_ans
      rw [hg]
      exact ⟨rfl, rfl⟩
    · show zB Va 1 k = _
      rw [wa]; exact hw k w hk
  | ok E =>
    rw [hg] at b2
    obtain ⟨rfl, c2⟩ := b2
    rw [if_pos (show zI Vb 0 5 = 0 from a4)]
    obtain ⟨Vc, V3', d1, d2, d3⟩ := c_names (F := F) (V3 := V3) (by omega) hg c2.2.2.2.2.1 a3 a2 a4 a5
    rw [d1, y_bd]
    refine ⟨Vc, V2', V3', rfl, ?_, fun k w hk => by rw [d2, wa]; exact hw k w hk, fun z => ?_⟩
    · unfold r_ans
      rw [hg]
      rcases d3 with ⟨e1, e2, e3, e4⟩ | ⟨j, k, e1, e2, e3, e4, e5, e6, e7⟩
      · exact Or.inl ⟨e2, e3, e4⟩
      · exact Or.inr ⟨j, k, e1, e2, e4, e5, e6, e7, e3⟩
    · rcases d3 with ⟨e1, e2, e3, e4⟩ | ⟨j, k, e1, e2, e3, e4, e5, e6, e7⟩
      · obtain ⟨⟨rfl, hE⟩, f2⟩ := id e1
        exact ⟨E, rfl, e1⟩
      · exfalso
        rw [e6] at z
        exact nI_ne0 (show 0 < k by omega) (by omega) z
/-- the answer and the place of a read are told by the text alone -/
theorem r_ans_one {x p x' p' : Int32} (h : r_ans b L x p) (h' : r_ans b L x' p') : x = x' ∧ p = p' := by
  unfold r_ans at h h'
  cases hg : r_gram (r_tK b L) with
  | error e =>
    rw [hg] at h h'
    exact ⟨h.1.trans h'.1.symm, h.2.trans h'.2.symm⟩
  | ok E =>
    rw [hg] at h h'
    rcases h with ⟨a1, a2, a3⟩ | ⟨j, k, a1, a2, a3, a4, a5, a6, a7⟩
    · rcases h' with ⟨d1, d2, -⟩ | ⟨j, k, d1, -⟩
      · exact ⟨a1.trans d1.symm, a2.trans d2.symm⟩
      · exact absurd d1 (a3 j k)
    · rcases h' with ⟨d1, d2, d3⟩ | ⟨j', k', d1, d2, d3, d4, d5, d6, d7⟩
      · exact absurd a1 (d3 j k)
      · have l1 := a7 j' k' d1
        have l2 := d7 j k a1
        have ej : j = j' := by omega
        have ek : k = k' := by omega
        subst ej; subst ek
        exact ⟨a5.trans d5.symm, a6.trans d6.symm⟩
end
