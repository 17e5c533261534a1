/-! ===== a new game in the reference ===== -/
section
variable {F : Nat} {T : zV} {lv : Nat} {S : y_S} {V V' : zV}
theorem y_cl0 (hw : y_ww T) : y_cl T (fun c => c ∈ [0]) := by
  intro c hc w hwm d hd
  have hw5 : w < y_many T 5 := List.mem_range.mp (List.mem_filter.mp hwm).1
  have h1 := (y_way_at hw hw5).2.2.1
  rw [List.mem_singleton] at hc
  subst hc
  exfalso
  unfold y_mv at hd
  dsimp only at hd
  rw [if_neg (by omega), if_neg (by omega), if_neg (by omega)] at hd
  cases hd
theorem y_gd0 {P : Nat} : y_gd P 0 0 := ⟨by decide, by omega, by omega, by omega, by decide⟩
theorem m_noBalls (hF : 3000 ≤ F) (hw : y_ww T) (hT : y_mt T lv V) (h61 : zI V 0 61 = 0) (h42 : ∀ l, l < 65536 → zA V 42 l = 0) :
    ∃ V', fX12_noBalls F V = some V' ∧ y_ml T 0 (if y_many T 4 = 0 then [] else [0]) V' ∧ y_fr [(0, 61), (0, 59)] [40, 41, 42] V V' := by
  have f1 : y_fr [(0, 59)] [] V (zsI V 0 59 0) := y_fr_I y_fr_refl (by decide)
  have hT1 := y_mt_fr hT f1 (by decide) (fun _ _ => List.not_mem_nil)
  have h611 : zI (zsI V 0 59 0) 0 61 = nI 0 := h61
  have h421 : ∀ l, l < 65536 → zA (zsI V 0 59 0) 42 l = 0 := h42
  have h591 : zI (zsI V 0 59 0) 0 59 = nI 0 := rfl
  have hP := hw.2.1
  rw [fX12_noBalls, y_let, show (4 : Int32) = nI 4 from rfl, m_sort hT1 (by decide), y_bd, hw.1]
  generalize zsI V 0 59 0 = V1 at f1 hT1 h611 h421 h591 ⊢
  by_cases q : y_many T 4 = 0
  · rw [q, if_pos (show nI 0 ≤ (0 : Int32) by decide), if_pos rfl]
    refine ⟨V1, rfl, ⟨⟨[], List.nodup_nil, fun c => Iff.rfl, h591, fun i c h => (by cases h)⟩, h611, h421, List.nodup_nil, fun c h => absurd h List.not_mem_nil, fun _ => rfl, fun c h => absurd h List.not_mem_nil⟩, y_fr_mono f1 (by decide) (fun _ z => absurd z List.not_mem_nil)⟩
  · rw [if_neg (show ¬ nI (y_many T 4) ≤ (0 : Int32) from nI_nle (by omega) (by omega)), if_neg q]
    have mf : y_mf (y_many T 4) 0 [] V1 := ⟨List.nodup_nil, fun c h => absurd h List.not_mem_nil, h611, fun i c h => (by cases h), fun l hl => Or.inl (h421 l hl), fun l hl => ⟨fun z => (by rw [h421 l hl] at z; exact absurd z (by decide)), fun ⟨c, h, _⟩ => absurd h List.not_mem_nil⟩⟩
    obtain ⟨V2, a1, a2, a3⟩ := m_comes (F := F) hP (by omega) mf (y_gd0 (P := y_many T 4))
    have a1' : fX12_comes F V1 0 = some V2 := a1
    have a2' : y_mf (y_many T 4) 0 [0] V2 := a2
    have hT2 := y_mt_fr hT1 a3 (by decide) (by decide)
    obtain ⟨V3, b1, b2, b3, b4, b5, b6⟩ := m_knows (F := F) hF hw (by omega) hT2 a2'
    rw [a1', y_bd, b1, y_bd]
    have gd0 : ∀ c ∈ [0], y_gd (y_many T 4) 0 c := fun c hc => by rw [List.mem_singleton.mp hc]; exact y_gd0
    have sg := y_spr_gd (T := T) (p := 0) hw 121 0 [0] (List.nodup_cons.mpr ⟨List.not_mem_nil, List.nodup_nil⟩) gd0
    exact ⟨V3, rfl, ⟨⟨y_spr T 121 0 [0], sg.1, fun c => y_spr_id (y_cl0 hw) c, b3, b4⟩, b2, b5, List.nodup_cons.mpr ⟨List.not_mem_nil, List.nodup_nil⟩, gd0, fun z => absurd z q, y_cl0 hw⟩, y_fr_trans (y_fr_mono f1 (by decide) (fun _ z => absurd z List.not_mem_nil)) (y_fr_trans (y_fr_mono a3 (by decide) (by decide)) b6)⟩
end
