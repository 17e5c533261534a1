/-! ===== the class's grammar, piece by piece ===== -/
section
variable {F : Nat} {b : Nat → Nat} {L N : Nat}
theorem r_cg_new1 {P : Nat → Prop} {w m : Nat} (hw : r_trk w) (hm : m < 1000) : r_cg b L N (fun i => P i ∧ r_tK b L i = w) (fun V1 V2 => fX2_passNewOne F V1 V2 (nI w) (nI m)) (r_newo (r_tK b L) w m) := by
  have hw27 : w < 27 := by rcases hw with h | h <;> omega
  have b45 : ∀ (V1 V2 : zV), ¬ zI V1 0 5 = 0 → r_cx V2 V2 → ∃ V2', fX2_passNewOne_b45 F V1 V2 = some (V1, V2') ∧ r_cx V2 V2' := fun V1 V2 h5 hx => (r_cg_some (r_cg_pass (F := F) (b := b) (L := L) (N := N))).2 V1 V2 h5 hx
  refine ⟨fun i V1 V2 hP h => ?_, fun V1 V2 h5 hx => ?_⟩
  · have h' := h
    obtain ⟨t, hc, h5, h1, hi, hn⟩ := h'
    have hi1 := hi.1
    have hcl := r_cn_le (K := r_tK b L) (w := w) i
    have g1 : ∀ f, zA (zsA V2 1 f) 1 = f := fun _ => rfl
    have g2 : ∀ f, zI (zsA V2 1 f) 0 1 = nI i := fun _ => h1
    have g3 : ∀ x, upd (zA V2 1) w x w = x := fun x => by rw [y_upd, if_pos rfl]
    unfold r_newo
    dsimp only
    unfold fX2_passNewOne
    rw [if_neg (nI_pos (by omega)), if_neg (show ¬ (27 : Int32) ≤ nI w from nI_ge (b := 27) hw27 (by decide))]
    simp only [y_ck hw27 (show 27 < 2 ^ 31 by decide), nI_clamp (show w < 2 ^ 31 by omega), y_let, hn w hw, g1, g3, nI_1]
    by_cases q : r_cn (r_tK b L) w i < m
    · rw [if_pos (nI_le (by omega) (by omega)), if_pos q]
      -- the token goes by
      unfold fX2_passNewOne_b45 fX2_pass r_pass
      rw [g2]
      by_cases q2 : i < 1000
      · rw [if_pos (show nI i < (1000 : Int32) from nI_lt (b := 1000) q2 (by decide)), y_let, y_bd, nI_1, if_pos q2]
        refine ⟨_, _, rfl, rfl, ⟨t, hc, h5, rfl, r_in_pass hi ?_ ?_ q2, fun w' hw' => ?_⟩, r_fq_I (r_fq_A r_fq_refl (by decide)) (by decide)⟩
        · rw [hP.2]; rcases hw with h | h <;> omega
        · rw [hP.2]; rcases hw with h | h <;> omega
        · show upd (zA V2 1) w (nI (r_cn (r_tK b L) w i + 1)) w' = _
          rw [y_upd]
          by_cases qw : w' = w
          · subst qw; rw [if_pos rfl, r_cn_succ hP.2]
          · rw [if_neg qw, hn w' hw', r_cn_same (fun z => qw (z.symm.trans hP.2))]
      · have hca : r_ca b L N i V1 (zsI V2 0 1 (nI i)) := ⟨t, hc, h5, rfl, hi, hn⟩
        have hbl := c_blame (F := F) (f := 2) hca
        rw [show zI (zsI V2 0 1 (nI i)) 0 1 = nI i from rfl] at hbl
        rw [if_neg (show ¬ nI i < (1000 : Int32) from nI_nlt (b := 1000) (by omega) (by omega)), show (2 : Int32) = nI 2 from rfl, hbl, y_bd, y_bd, if_neg q2]
        exact ⟨_, _, rfl, rfl, Or.inr rfl, hi, ⟨i, hi1, g2 _⟩, r_fq_A r_fq_refl (by decide)⟩
    · have hbl := c_blame (F := F) (f := 2) h
      rw [h1] at hbl
      rw [if_neg (nI_ge (by omega) (by omega)), if_neg q, g2, show (2 : Int32) = nI 2 from rfl, hbl, y_bd]
      obtain ⟨V2', a1, a2⟩ := b45 (r_blm b L 2 i V1) (zsA V2 1 (upd (zA V2 1) w (nI (r_cn (r_tK b L) w i + 1)))) (r_blm_5 (Or.inr rfl)) ⟨⟨i, hi1, g2 _⟩, r_fq_refl⟩
      exact ⟨_, V2', a1, rfl, Or.inr rfl, hi, r_cx_trans ⟨⟨i, hi1, g2 _⟩, r_fq_A r_fq_refl (by decide)⟩ a2⟩
  · dsimp only
    unfold fX2_passNewOne
    rw [if_neg (nI_pos (by omega)), if_neg (show ¬ (27 : Int32) ≤ nI w from nI_ge (b := 27) hw27 (by decide))]
    simp only [y_ck hw27 (show 27 < 2 ^ 31 by decide), y_let, c_blame_x h5, y_bd, ite_self]
    have hx' : r_cx V2 (zsA V2 1 (upd (zA V2 1) (nI w).toNatClampNeg (zA V2 1 (nI w).toNatClampNeg + 1))) := ⟨hx.1, r_fq_A r_fq_refl (by decide)⟩
    obtain ⟨V2', a1, a2⟩ := b45 V1 _ h5 (r_cx_self hx')
    exact ⟨V2', a1, r_cx_trans hx' a2⟩
theorem c_new_x {V1 V2 : zV} (h5 : ¬ zI V1 0 5 = 0) (hx : r_cx V2 V2) (x1 x2 : Int32) : ∃ V2', fX2_passNewOne F V1 V2 x1 x2 = some (V1, V2') ∧ r_cx V2 V2' := by
  have b45 : ∀ (V2 : zV), r_cx V2 V2 → ∃ V2', fX2_passNewOne_b45 F V1 V2 = some (V1, V2') ∧ r_cx V2 V2' := fun V2 hx => (r_cg_some (r_cg_pass (F := F) (b := fun _ => 0) (L := 0) (N := 0))).2 V1 V2 h5 hx
  unfold fX2_passNewOne
  rcases y_cut 27 (by decide) x1 with q | ⟨q, q2⟩ | ⟨w, hw, rfl⟩
  · rw [if_pos q]; exact b45 V2 hx
  · rw [if_neg q, if_pos (show (27 : Int32) ≤ x1 from q2)]; exact b45 V2 hx
  · rw [if_neg (nI_pos (by omega)), if_neg (show ¬ (27 : Int32) ≤ nI w from nI_ge (b := 27) hw (by decide))]
    simp only [y_ck hw (show 27 < 2 ^ 31 by decide), y_let, c_blame_x h5, y_bd, ite_self]
    have hx' : r_cx V2 (zsA V2 1 (upd (zA V2 1) (nI w).toNatClampNeg (zA V2 1 (nI w).toNatClampNeg + 1))) := ⟨hx.1, r_fq_A r_fq_refl (by decide)⟩
    obtain ⟨V2', a1, a2⟩ := b45 _ (r_cx_self hx')
    exact ⟨V2', a1, r_cx_trans hx' a2⟩
theorem r_n29 : r_cg b L N (fun _ => True) (fun V1 V2 => zbd (fX2_need F V1 V2 (29 : Int32)) fun q => some (q.1, q.2)) (r_need (r_tK b L) 29) := r_cg_some (r_cg_need (k := 29) (by decide) (by unfold r_trk; omega) (by decide) (by decide))
theorem r_n27 : r_cg b L N (fun _ => True) (fun V1 V2 => fX2_need F V1 V2 (27 : Int32)) (r_need (r_tK b L) 27) := r_cg_need (k := 27) (by decide) (by unfold r_trk; omega) (by decide) (by decide)
theorem r_n28 : r_cg b L N (fun _ => True) (fun V1 V2 => fX2_need F V1 V2 (28 : Int32)) (r_need (r_tK b L) 28) := r_cg_need (k := 28) (by decide) (by unfold r_trk; omega) (by decide) (by decide)
theorem c_roomFor : ∀ w : Fin 8, fX9_roomFor 0 (nI w.1) = some (nI (r_room w.1)) := by decide +kernel
theorem c_room_x (x : Int32) : ∃ q, fX9_roomFor F x = some q := by
  unfold fX9_roomFor
  repeat' split
  all_goals exact ⟨_, rfl⟩
/-- a part -/
theorem r_cg_part : r_cg b L N (fun i => r_tK b L i ≤ 6) (fX2_checkPart F) (r_part (r_tK b L)) := by
  have way : r_cg b L N (fun _ => True) (fun V1 V2 => zbd (fX2_need F V1 V2 (27 : Int32)) fun q21 => zbd (fX2_sees F q21.1 q21.2 (8 : Int32)) fun q23 => if q23 = 0 then fX2_checkPart_b118 F q21.1 q21.2 else zbd (fX2_pass F q21.1 q21.2) fun q26 => zbd (fX2_need F q26.1 q26.2 (27 : Int32)) fun q28 => fX2_checkPart_b118 F q28.1 q28.2)
      (fun j => r_b (r_need (r_tK b L) 27 j) fun j => if r_tK b L j = 8 then r_b (r_pass j) fun j => r_b (r_need (r_tK b L) 27 j) (r_need (r_tK b L) 29) else r_need (r_tK b L) 29 j) := by
    refine r_cg_seq r_n27 (r_cg_sees (k := 8) (by decide) (r_cg_s (r_cg_P (r_cg_seq (r_cg_pass (F := F)) (r_cg_seq (r_n27 (F := F)) (r_n29 (F := F)))) fun i hi => ?_) fun i hi => ?_) (r_cg_s (r_cg_P (r_n29 (F := F)) fun i hi => trivial) fun i hi => ?_))
    · rw [hi.2]; refine ⟨?_, by decide, by decide⟩; unfold r_trk; omega
    · rw [if_pos hi.2]
    · rw [if_neg hi.2]
  have e : fX2_checkPart F = fun V1 V2 => zbd (fX10_kindAt F V1 (zI V2 0 1)) fun q7 => (fun q7 V1 V2 => zbd (fX9_roomFor F q7) fun q9 => zbd (fX2_passNewOne F V1 V2 q7 q9) fun q11 => zbd (fX2_need F q11.1 q11.2 (27 : Int32)) fun q13 =>
      if q7 = (0 : Int32) then fX2_checkPart_b72 F q13.1 q13.2 else if q7 = (1 : Int32) then fX2_checkPart_b72 F q13.1 q13.2 else if q7 = (2 : Int32) then fX2_checkPart_b81 F q13.1 q13.2 else if q7 = (3 : Int32) then fX2_checkPart_b81 F q13.1 q13.2 else if q7 = (4 : Int32) then fX2_checkPart_b118 F q13.1 q13.2
      else if q7 = (5 : Int32) then (zbd (fX2_need F q13.1 q13.2 (27 : Int32)) fun q21 => zbd (fX2_sees F q21.1 q21.2 (8 : Int32)) fun q23 => if q23 = 0 then fX2_checkPart_b118 F q21.1 q21.2 else zbd (fX2_pass F q21.1 q21.2) fun q26 => zbd (fX2_need F q26.1 q26.2 (27 : Int32)) fun q28 => fX2_checkPart_b118 F q28.1 q28.2)
      else if q7 = (6 : Int32) then fX2_checkPart_b72 F q13.1 q13.2 else fX2_checkPart_b118 F q13.1 q13.2) q7 V1 V2 := rfl
  have b72 : r_cg b L N (fun _ => True) (fX2_checkPart_b72 F) (fun j => r_b (r_need (r_tK b L) 28 j) (r_need (r_tK b L) 29)) := r_cg_seq r_n28 (r_n29 (F := F))
  have b81 : r_cg b L N (fun _ => True) (fX2_checkPart_b81 F) (fun j => r_b (r_need (r_tK b L) 27 j) (r_need (r_tK b L) 29)) := r_cg_seq r_n27 (r_n29 (F := F))
  have b118 : r_cg b L N (fun _ => True) (fX2_checkPart_b118 F) (r_need (r_tK b L) 29) := r_n29 (F := F)
  rw [e]
  refine r_cg_kind (P := fun i => r_tK b L i ≤ 6) (fun k hk => ?_) (fun x V1 V2 h5 hx => ?_)
  · by_cases k6 : k ≤ 6
    rotate_left
    · -- no such kind
      refine ⟨fun i V1 V2 hP _ => absurd hP.1 (by rw [hP.2]; exact k6), fun V1 V2 h5 hx => ?_⟩
      dsimp only
      obtain ⟨r, hr⟩ := c_room_x (F := F) (nI k)
      obtain ⟨V2', a1, a2⟩ := c_new_x (F := F) h5 hx (nI k) r
      obtain ⟨V2'', d1, d2⟩ := (r_n27 (F := F) (b := b) (L := L) (N := N)).2 V1 V2' h5 (r_cx_self a2)
      have d1 : fX2_need F V1 V2' 27 = some (V1, V2'') := d1
      rw [hr, y_bd, a1, y_bd, d1, y_bd]
      obtain ⟨V3, g1, g2⟩ := b118.2 V1 V2'' h5 (r_cx_self d2)
      have ne : ∀ m : Nat, m ≤ 6 → ¬ nI k = nI m := fun m hm z => by have := (nI_eq (by omega) (by omega)).mp z; omega
      rw [if_neg (show ¬ nI k = (0 : Int32) from ne 0 (by omega)), if_neg (show ¬ nI k = (1 : Int32) from ne 1 (by omega)), if_neg (show ¬ nI k = (2 : Int32) from ne 2 (by omega)), if_neg (show ¬ nI k = (3 : Int32) from ne 3 (by omega)), if_neg (show ¬ nI k = (4 : Int32) from ne 4 (by omega)), if_neg (show ¬ nI k = (5 : Int32) from ne 5 (by omega)), if_neg (show ¬ nI k = (6 : Int32) from ne 6 (by omega))]
      exact ⟨V3, g1, r_cx_trans a2 (r_cx_trans d2 g2)⟩
    have hroom : fX9_roomFor F (nI k) = some (nI (r_room k)) := c_roomFor ⟨k, by omega⟩
    have hr1000 : r_room k < 1000 := by
      unfold r_room
      repeat' split
      all_goals omega
    have mk : ∀ {g : zV → zV → Option (zV × zV)} {s : Nat → r_r}, r_cg b L N (fun _ => True) g s → r_cg b L N (fun i => r_tK b L i ≤ 6 ∧ r_tK b L i = k) (fun V1 V2 => zbd (fX9_roomFor F (nI k)) fun q9 => zbd (fX2_passNewOne F V1 V2 (nI k) q9) fun q11 => zbd (fX2_need F q11.1 q11.2 (27 : Int32)) fun q13 => g q13.1 q13.2)
        (fun i => r_b (r_newo (r_tK b L) k (r_room k) i) fun j => r_b (r_need (r_tK b L) 27 j) s) := by
      intro g s hg
      rw [hroom]
      exact r_cg_seq (r_cg_new1 (F := F) (P := fun i => r_tK b L i ≤ 6) (Or.inl (by omega)) hr1000) (r_cg_seq (r_n27 (F := F)) hg)
    have hk7 : k = 0 ∨ k = 1 ∨ k = 2 ∨ k = 3 ∨ k = 4 ∨ k = 5 ∨ k = 6 := by omega
    rcases hk7 with rfl | rfl | rfl | rfl | rfl | rfl | rfl
    · exact r_cg_s (mk b72) fun i hi => by unfold r_part; rw [hi.2]; rfl
    · exact r_cg_s (mk b72) fun i hi => by unfold r_part; rw [hi.2]; rfl
    · exact r_cg_s (mk b81) fun i hi => by unfold r_part; rw [hi.2]; rfl
    · exact r_cg_s (mk b81) fun i hi => by unfold r_part; rw [hi.2]; rfl
    · exact r_cg_s (mk b118) fun i hi => by unfold r_part; rw [hi.2]; rfl
    · exact r_cg_s (mk way) fun i hi => by unfold r_part; rw [hi.2]; rfl
    · exact r_cg_s (mk b72) fun i hi => by unfold r_part; rw [hi.2]; rfl
  · obtain ⟨r, hr⟩ := c_room_x (F := F) x
    obtain ⟨V2', a1, a2⟩ := c_new_x (F := F) h5 hx x r
    obtain ⟨V2'', d1, d2⟩ := (r_n27 (F := F) (b := b) (L := L) (N := N)).2 V1 V2' h5 (r_cx_self a2)
    have d1 : fX2_need F V1 V2' 27 = some (V1, V2'') := d1
    rw [hr, y_bd, a1, y_bd, d1, y_bd]
    have tr : ∀ {g : zV → zV → Option (zV × zV)} {s : Nat → r_r}, r_cg b L N (fun _ => True) g s → ∃ V3, g V1 V2'' = some (V1, V3) ∧ r_cx V2 V3 := by
      intro g s hg
      obtain ⟨V3, g1, g2⟩ := hg.2 V1 V2'' h5 (r_cx_self d2)
      exact ⟨V3, g1, r_cx_trans a2 (r_cx_trans d2 g2)⟩
    split
    · exact tr b72
    split
    · exact tr b72
    split
    · exact tr b81
    split
    · exact tr b81
    split
    · exact tr b118
    split
    · exact tr way
    split
    · exact tr b72
    · exact tr b118
end
