/-! ===== a read on both sides ===== -/
section
variable {F : Nat} {b : Nat → Nat} {L lv : Nat} {V0 V1 V2 V3 V4 V7 : zV}
theorem r_ag_trans {sd : Nat} {V W X : zV} (h : r_ag sd V W) (g : r_ag sd W X) : r_ag sd V X := ⟨g.1.trans h.1, fun r hr i h1 h2 => (g.2 r hr i h1 h2).trans (h.2 r hr i h1 h2)⟩
theorem r_ag_refl {sd : Nat} {V : zV} : r_ag sd V V := ⟨rfl, fun _ _ _ _ _ => rfl⟩
theorem r_ag_fz {V W : zV} (hlv : lv ≤ 1) (h : r_fz (1 - lv) V W) (h18 : zI W 0 18 = zI V 0 18) : r_ag lv V W := by
  refine ⟨h18, fun r hr i h1 h2 => h.2.2.2.2 r hr i ?_⟩
  rcases (show lv = 0 ∨ lv = 1 by omega) with rfl | rfl
  · left; simp at h1 h2 ⊢; omega
  · right; simp at h1 h2 ⊢; omega
theorem r_ag_fr {sd : Nat} {V W : zV} {sc : List (Nat × Nat)} {ar : List Nat} (f : y_fr sc ar V W) (h1 : (0, 18) ∉ sc) (h2 : ∀ r ∈ r_hr, r ∉ ar) : r_ag sd V W := ⟨f.1 0 18 h1, fun r hr i _ _ => congrFun (f.2.1 r (h2 r hr)) i⟩
/-- a table that lies ready on both sides -/
def r_good (lv : Nat) (T V7 : zV) : Prop := y_T T ∧ y_ax T ∧ (∀ m, m < y_many T 7 → y_hd T m ≤ y_hd T (m + 1)) ∧ y_tm T ∧ y_to T ∧ y_pw T ∧ (∀ k, k ≤ 7 → zA T 1 k = nI (y_many T k)) ∧ (y_many T 6 ≤ 16 ∧ y_many T 3 ≤ 16 ∧ y_many T 2 ≤ 8) ∧ ∀ W, r_ag lv V7 W → y_mt T lv W
theorem r_good_ag {T V W : zV} (h : r_good lv T V) (g : r_ag lv V W) : r_good lv T W :=
  ⟨h.1, h.2.1, h.2.2.1, h.2.2.2.1, h.2.2.2.2.1, h.2.2.2.2.2.1, h.2.2.2.2.2.2.1, h.2.2.2.2.2.2.2.1, fun X hX => h.2.2.2.2.2.2.2.2 X (r_ag_trans g hX)⟩
theorem b_read (hF : 4200 ≤ F) (hlv : lv ≤ 1) (h18 : zI V7 0 18 = nI lv) (hw1 : r_cw V1) (hw7 : r_mw V7) (hb : r_cb b L V0) (hl : zI V0 0 1 = nI L) (ht : r_tp b L V7) :
    ∃ a V0' V1' V2' V3' V4' V7', fX11_read F V0 V1 V2 V3 V4 = some (a, V0', V1', V2', V3', V4') ∧ fX12_read F V7 = some (a, V7') ∧ zI V0' 0 5 = zI V7' 0 17 ∧ r_cw V1' ∧ r_mw V7' ∧ r_fz (1 - lv) V7 V7' ∧ zI V0' 0 1 = 0 ∧ zI V7' 0 2 = 0 ∧ y_fr [(0, 1), (0, 5), (0, 7), (0, 9)] [] V0 V0' ∧
      ((¬ a = 0 ∧ V4' = V4 ∧ zI V0' 0 7 = zI V0 0 7 ∧ zI V0' 0 9 = zI V0 0 9 ∧ ∀ k, (k = 18 ∨ k = 20 ∨ k = 64) → zI V7' 0 k = zI V7 0 k) ∨
       (a = 0 ∧ zI V0' 0 7 = 1 ∧ zI V0' 0 9 = 0 ∧ zI V7' 0 18 = nI (1 - lv) ∧ zI V7' 0 20 = 1 ∧ zI V7' 0 64 = 0 ∧ r_good (1 - lv) V4' V7' ∧ y_rg V4')) := by
  obtain ⟨V1', V2', V3', a1, a2, a3, a4⟩ := c_read (F := F) (V2 := V2) (V3 := V3) (V4 := V4) hF hb hl hw1
  obtain ⟨V7', x, d1, d2, d3, d4, d5, d6⟩ := m_read (F := F) hF hlv h18 hw7 ht
  obtain ⟨e1, e2⟩ := r_ans_one a2 d2
  have mw : r_mw V7' := fun k w hk => by rw [d4.2.2.1 7 (by decide) (by decide)]; exact hw7 k w hk
  rw [a1]
  unfold fX11_read_b44
  rw [y_let]
  by_cases q : x = 0
  · have q0 : zI V1' 0 5 = 0 := e1.trans q
    obtain ⟨E, g1, g2⟩ := a4 q0
    obtain ⟨⟨f1, f2, f3⟩, E', cc, f4, f5⟩ := d6 q
    have eE : E = E' := by rw [g1] at f4; exact Except.ok.inj f4
    subst eE
    have hg := r_gram_gf g1
    have hno : r_ok0 b L E := by
      unfold r_ans at d2
      rw [g1] at d2
      rcases d2 with ⟨-, -, z⟩ | ⟨j, k, z1, z2, z3, z4, z5, -⟩
      · exact z
      · rw [q] at z5
        exact absurd z5.symm (nI_ne0 (by omega) (by omega))
    obtain ⟨T, t1, t2, t3⟩ := c_taketable (F := F) (T := V4) (by omega) g1 g2
    have cn := fun k (hk : k ≤ 7) => r_cT_cn t2 hg hk
    have good : r_good (1 - lv) T V7' := by
      refine ⟨r_cT_T g1 t2 hno f5, r_cT_ax g1 t2 hno f5, r_cT_mo hg t2, r_cT_tm g1 t2, r_cT_to hg t2, r_cT_pw g1 t2 f5, fun k hk => by rw [(cn k hk).2]; exact (cn k hk).1, ⟨?_, ?_, ?_⟩, fun W hW => r_cT_mt g1 t2 hno f5 (by omega) f1 hW⟩
      · rw [(cn 6 (by decide)).2]; exact hg.2.2.1 6 (by decide)
      · rw [(cn 3 (by decide)).2]; exact hg.2.2.1 3 (by decide)
      · rw [(cn 2 (by decide)).2]; exact hg.2.2.1 2 (by decide)
    have rg : y_rg T := by
      obtain ⟨W, w1, w2⟩ := t3
      exact r_cT_rg (F := F) (by omega) g1 t2 w1 w2
    rw [if_pos q0, t1, y_bd, y_let, y_let, fX11_read_b86]
    refine ⟨_, _, _, _, _, _, V7', rfl, ?_, e2, a3, mw, d4, rfl, d3, y_fr_I (y_fr_I (y_fr_I (y_fr_I y_fr_refl (by decide)) (by decide)) (by decide)) (by decide), Or.inr ⟨q0, rfl, rfl, f1, f2, f3, good, rg⟩⟩
    rw [d1, e1]
  · have q0 : ¬ zI V1' 0 5 = 0 := fun z => q (e1.symm.trans z)
    rw [if_neg q0, fX11_read_b86]
    refine ⟨_, _, _, _, _, _, V7', rfl, ?_, e2, a3, mw, d4, rfl, d3, y_fr_I (y_fr_I y_fr_refl (by decide)) (by decide), Or.inl ⟨q0, rfl, rfl, rfl, d5 q⟩⟩
    rw [d1, e1]
theorem b_place (h : zI V0 0 5 = zI V7 0 17) : fX11_place F V0 = fX12_place F V7 := by
  unfold fX11_place fX12_place
  rw [h]
end
