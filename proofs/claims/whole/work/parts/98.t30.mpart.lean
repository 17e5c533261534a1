/-! ===== parts in the reference ===== -/
section
variable {F : Nat} {b : Nat → Nat} {L M sd : Nat} {V : zV}
def r_max (k : Nat) : Nat := if k = 0 ∨ k = 3 ∨ k = 6 then 16 else if k = 1 ∨ k = 2 ∨ k = 4 then 8 else if k = 5 then 24 else 12
theorem r_room_max : ∀ k : Fin 8, r_room k.1 = r_max k.1 := by decide +kernel
/-- a part is counted -/
theorem m_partfin {i e cc k : Nat} {V' : zV} (h : r_rs b L M sd i cc V) (hK : r_tK b L i = k) (hk6 : k ≤ 6) (hn : r_cn (r_tK b L) k i < r_max k) (hie : i < e) (hin : ∀ a, i < a → a < e → r_tK b L a = 27 ∨ r_tK b L a = 28 ∨ r_tK b L a = 29 ∨ r_tK b L a = 8) (hm : r_mr b L M sd e V') (hfx : r_fx sd V V') (hsc : ∀ k, k = 12 ∨ k = 41 ∨ k = 46 ∨ k = 51 ∨ k = 54 → zI V' 0 k = zI V 0 k)
    (hrow : ∀ r, r ∉ [10, 11] → ¬ (12 ≤ r ∧ r ≤ 22 ∧ r_kr r = k) → zA V' r = zA V r) (hB : ∀ r, 12 ≤ r → r ≤ 22 → r_kr r = k → (∀ m, ¬ m = sd * r_hs r + r_cn (r_tK b L) k i → zA V' r m = zA V r m) ∧ zA V' r (sd * r_hs r + r_cn (r_tK b L) k i) = r_val b L r i) :
    ∃ V2, fX12_tellPart_b533 F V' (nI k) = some V2 ∧ r_rs b L M sd e cc V2 ∧ r_fx sd V V2 := by
  obtain ⟨h1, h12, hk, hcc, hnr, htb, hcn, h80⟩ := id h
  have hs := h1.2.2.1
  have hsd := hs.2
  have hin2 : ∀ a, i < a → a < e → 8 ≤ r_tK b L a ∧ ¬ r_tK b L a = 11 ∧ ¬ (16 ≤ r_tK b L a ∧ r_tK b L a ≤ 24) ∧ ¬ (37 ≤ r_tK b L a ∧ r_tK b L a ≤ 40) ∧ ¬ r_tK b L a = 18 := by
    intro a h1 h2
    rcases hin a h1 h2 with z | z | z | z <;> omega
  have r8 : zA V' 8 = zA V 8 := hrow 8 (by decide) (by omega)
  have e8 : zA V' 8 (9 * sd + k) = nI (r_cn (r_tK b L) k i) := by rw [r8]; exact htb.1.1 k (by omega)
  have fx2 : ∀ x : Int32, r_fx sd V' (zsA V' 8 (upd (zA V' 8) (9 * sd + k) x)) := fun x => r_fx_H (k := k) r_fx_refl (by decide) (by rw [show r_hs 8 = 9 from rfl, Nat.mul_comm]) (by show k < 9; omega)
  have b533 : fX12_tellPart_b533 F V' (nI k) = some (zsA V' 8 (upd (zA V' 8) (9 * sd + k) (nI (r_cn (r_tK b L) k i + 1)))) := by
    rw [fX12_tellPart_b533, hm.2.2.1.1]
    simp only [show (9 : Int32) = nI 9 from rfl, pk_mul, nI_add, y_ck (show 9 * sd + k < 18 by omega) (show 18 < 2 ^ 31 by decide), y_let, nI_clamp (show 9 * sd + k < 2 ^ 31 by omega), e8, nI_1]
  have enr : r_nr (r_tK b L) e = r_nr (r_tK b L) i := r_nr_same (by omega) fun a h1 h2 => by
    by_cases q : a = i
    · subst q; omega
    · exact (hin2 a (by omega) h2).2.2.2.1
  have ena : r_na (r_tK b L) e = r_na (r_tK b L) i := r_na_same (by omega) fun a h1 h2 => by
    by_cases q : a = i
    · subst q; omega
    · exact (hin2 a (by omega) h2).2.2.1
  have ecs : r_cn (r_tK b L) 18 e = r_cn (r_tK b L) 18 i := r_cn_eq (by omega) fun a h1 h2 => by
    by_cases q : a = i
    · subst q; omega
    · exact (hin2 a (by omega) h2).2.2.2.2
  have e11 : r_cn (r_tK b L) 11 e = r_cn (r_tK b L) 11 i := r_cn_eq (by omega) fun a h1 h2 => by
    by_cases q : a = i
    · subst q; omega
    · exact (hin2 a (by omega) h2).2.1
  have rowX : ∀ r, ¬ r = 8 → ∀ x : Int32, zA (zsA V' 8 (upd (zA V' 8) (9 * sd + k) x)) r = zA V' r := fun r hr x => by
    show (if r = 8 then _ else zA V' r) = _
    rw [if_neg hr]
  refine ⟨_, b533, ⟨r_ms_eq hm (fx2 _) hm.2.1.1 hm.2.1.2.1 hm.2.1.2.2 rfl rfl rfl rfl rfl rfl, (hsc 12 (by omega)).trans h12, ?_, by omega, by omega, ?_, fun w hw => ?_, by omega⟩, r_fx_trans hfx (fx2 _)⟩
  · rw [enr, ena, ecs]
    exact ⟨(hsc 41 (by omega)).trans hk.1, (hsc 46 (by omega)).trans hk.2.1, (hsc 51 (by omega)).trans hk.2.2.1, (hsc 54 (by omega)).trans hk.2.2.2⟩
  · refine r_tb_step (V := V) hK (by omega) (fun a h1 h2 => ⟨(hin2 a h1 h2).1, (hin2 a h1 h2).2.1⟩) hie enr ena htb (fun r h1 h2 => ⟨fun hr => ?_, fun hr => ?_⟩) ⟨fun z => by omega, fun _ => ?_⟩ (fun r h1 h2 => ?_) ⟨fun m hm => ?_, ?_⟩ (by have := (r_ms_lt h1).2.1; omega) hsd
    · rw [rowX r (by omega)]; exact hB r h1 h2 hr
    · rw [rowX r (by omega)]; exact hrow r (by simp; omega) (fun z => hr z.2.2)
    · rw [rowX 23 (by decide)]; exact hrow 23 (by decide) (by omega)
    · rw [rowX r (by omega)]; exact hrow r (by simp; omega) (by omega)
    · show upd (zA V' 8) (9 * sd + k) _ m = _
      rw [y_upd, if_neg hm, r8]
    · show upd (zA V' 8) (9 * sd + k) _ _ = _
      rw [y_upd, if_pos rfl]
  · by_cases q : w = k
    · subst q
      rw [r_cn_eq (i := i + 1) (by omega) fun a h1 h2 => by have := (hin2 a (by omega) h2).1; omega, r_cn_succ hK]
      unfold r_max at hn
      omega
    · rw [r_cn_eq (i := i) (by omega) fun a h1 h2 => by
        by_cases q2 : a = i
        · subst q2; omega
        · have := (hin2 a (by omega) h2).1; omega]
      exact hcn w hw
/-- the second of two names -/
theorem r_second {j s : Nat} (h1 : r_tK b L j = 27) (h2 : r_ro (r_tK b L) j = s) (hs : s < 7) (h3 : r_tK b L (j - 1) = 27) (h4 : r_tK b L (j - 2) = 2 ∨ r_tK b L (j - 2) = 5) : r_tl b L (j + 1) = r_tl b L j ∧ ∀ a k, r_wp b L (j + 1) a k ↔ ((r_wp b L j a k ∨ (r_lk (r_tl b L j) (r_tW b L j) s = none ∧ a = j ∧ k = 4)) ∨ (r_tW b L j = r_tW b L (j - 1) ∧ a = j ∧ k = 5)) := by
  refine ⟨r_tl_same fun z => by have := z.2; omega, fun a k => ⟨fun z => ?_, fun z => ?_⟩⟩
  · by_cases q : a = j
    · subst q
      rcases z.2 with ⟨-, z | z | z⟩ | z
      · have := z.2.1; omega
      · rw [h2] at z; exact Or.inl (Or.inr ⟨z.2.2, rfl, z.1⟩)
      · exact Or.inr ⟨z.2.2.2, rfl, z.1⟩
      · have := z.2.1; omega
    · exact Or.inl (Or.inl ⟨by have := z.1; omega, z.2⟩)
  · rcases z with (z | ⟨z1, rfl, rfl⟩) | ⟨z1, rfl, rfl⟩
    · exact ⟨by have := z.1; omega, z.2⟩
    · exact ⟨by omega, Or.inl ⟨h1, Or.inr (Or.inl ⟨rfl, by omega, by rw [h2]; exact z1⟩)⟩⟩
    · exact ⟨by omega, Or.inl ⟨h1, Or.inr (Or.inr ⟨rfl, h3, h4, z1⟩)⟩⟩
theorem m_b45_x (x : Int32) : r_xg sd (fun V => fX12_tellPart_b45 F V x) := by
  intro V h
  obtain ⟨V1, a1, a2⟩ := m_next_x (F := F) V h
  dsimp only
  rw [fX12_tellPart_b45, a1, y_bd, if_neg (r_mf_ne (r_mx_mf h a2)).1]
  exact ⟨V1, rfl, a2⟩
/-- names of two tokens -/
theorem m_same {i j c : Nat} {l : List r_E} {P : Nat → Nat → Prop} (h : r_ms b L M sd c l P V) (hi : i < M) (hj : j < M) (h1 : r_tK b L i = 27) (h2 : r_tK b L j = 27) : (lg_cmp (zB V 6 i) (zB V 6 j) = 0) ↔ r_tW b L j = r_tW b L i := by
  obtain ⟨a1, a2⟩ := r_tW_ok h1
  obtain ⟨b1, b2⟩ := r_tW_ok h2
  rw [(h.1.1.2 i hi).2.2.2 h1, (h.1.1.2 j hj).2.2.2 h2, lg_cmp_eq, pk_lEQ (r_pk_37 a1 a2) (r_pk_37 b1 b2), r_pk37_eq a1 b1]
  exact ⟨fun z => z.symm, fun z => z.symm⟩
/-- the room for names -/
theorem r_tl_room {i k : Nat} (hcn : ∀ w, w ≤ 7 → r_cn (r_tK b L) w i ≤ if w = 0 ∨ w = 3 ∨ w = 6 then 16 else if w = 1 ∨ w = 2 ∨ w = 4 then 8 else if w = 5 then 24 else 12) (hk : k = 0 ∨ k = 1 ∨ k = 3 ∨ k = 4 ∨ k = 6) (hn : r_cn (r_tK b L) k i < r_max k) : (r_tl b L (i + 1)).length < 76 := by
  have := r_tl_len (b := b) (L := L) (i + 1)
  rw [Nat.add_sub_cancel] at this
  have g0 := hcn 0 (by omega)
  have g1 := hcn 1 (by omega)
  have g3 := hcn 3 (by omega)
  have g4 := hcn 4 (by omega)
  have g6 := hcn 6 (by omega)
  have g7 := hcn 7 (by omega)
  simp at g0 g1 g3 g4 g6 g7
  unfold r_max at hn
  rcases hk with rfl | rfl | rfl | rfl | rfl <;> simp at hn <;> omega
end
