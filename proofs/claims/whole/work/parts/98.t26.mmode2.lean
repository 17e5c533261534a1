/-! ===== MODES in the reference: rules of a mode, its head ===== -/
section
variable {F : Nat} {b : Nat → Nat} {L M sd : Nat} {V : zV}
/-- all that is known between two rules (at token i) -/
def r_rs (b : Nat → Nat) (L M sd i cc : Nat) (V : zV) : Prop := r_mr b L M sd i V ∧ zI V 0 12 = 0 ∧ r_kt sd (r_nr (r_tK b L) i) (r_na (r_tK b L) i) (r_cn (r_tK b L) 18 i) cc V ∧ cc ≤ i ∧ 3 * r_nr (r_tK b L) i ≤ i ∧ r_tb b L sd i cc V ∧
  ((∀ k, k ≤ 7 → r_cn (r_tK b L) k i ≤ if k = 0 ∨ k = 3 ∨ k = 6 then 16 else if k = 1 ∨ k = 2 ∨ k = 4 then 8 else if k = 5 then 24 else 12) ∧ r_cn (r_tK b L) 11 i ≤ 80)
theorem m_b271_x {n : Nat} (hn : n < 12) (h : r_mf sd V) : ∃ V', fX12_tellMode_b271 F V (nI n) = some V' ∧ r_mx sd V V' := by
  obtain ⟨V2, a1, a2⟩ := m_must_x (F := F) (30 : Int32) V h
  have a1 : fX12_must F V 30 = some V2 := a1
  have h2 := r_mx_mf h a2
  have hsd := h2.2.2
  have x3 : ∀ x : Int32, r_mx sd V2 (zsA V2 23 (upd (zA V2 23) (13 * sd + n + 1) x)) := fun x => ⟨r_fx_H (k := n + 1) r_fx_refl (by decide) (by rw [show r_hs 23 = 13 from rfl]; omega) (by show n + 1 < 13; omega), rfl, rfl, h2.2.1⟩
  rw [fX12_tellMode_b271, a1, y_bd, hsd.1, show (9 : Int32) = nI 9 from rfl, show (8 : Int32) = nI 8 from rfl, pk_mul, nI_add, y_ck (by omega) (by decide), show (13 : Int32) = nI 13 from rfl, pk_mul, nI_add, nI_1, y_ck (by omega) (by decide), y_let, nI_clamp (show 13 * sd + n + 1 < 2 ^ 31 by omega)]
  exact ⟨_, rfl, r_mx_trans a2 (x3 _)⟩
theorem m_rulesl {n7 : Nat} (hF : 1200 ≤ F) (hL : L ≤ 4000) (hn7 : n7 < 12) : ∀ (n N i cc : Nat) (V : zV), n + 1 ≤ N → 1001 ≤ n + i → r_rs b L M sd i cc V →
    ∃ V', fX12_tellMode_l248 F N V (nI n7) = fX12_tellMode_b271 F V' (nI n7) ∧ match (r_b (r_rules (r_tK b L) n i) fun j => if r_tK b L j = 10 then .ok j else .error (1, j) : r_r) with
      | .error (f, j) => r_me b L sd f j V V'
      | .ok e => r_tK b L e = 10 ∧ i ≤ e ∧ (∃ cc', cc ≤ cc' ∧ r_rs b L M sd e cc' V') ∧ r_fx sd V V' ∧ (∀ a, i ≤ a → a < e → 8 ≤ r_tK b L a) ∧ r_tl b L e = r_tl b L i ∧ (∀ r, r ∉ r_ga → r ∉ [8, 24, 25, 26] → zA V' r = zA V r) := by
  intro n
  induction n with
  | zero =>
    intro N i cc V hN hi h
    have := (r_ms_lt h.1).2.1
    omega
  | succ n ih =>
    intro N i cc V hN hi h
    obtain ⟨N, rfl⟩ : ∃ N', N = N' + 1 := ⟨N - 1, by omega⟩
    obtain ⟨h1, h12, hk, hcc, hnr, htb, hcn, h80⟩ := id h
    have lt := r_ms_lt h1
    have hs := h1.2.2.1
    have fault : ∀ V, r_mf sd V → fX12_tellMode_l248 F N V (nI n7) = fX12_tellMode_b271 F V (nI n7) := by
      intro V h
      obtain ⟨N, rfl⟩ : ∃ N', N = N' + 1 := ⟨N - 1, by omega⟩
      rw [fX12_tellMode_l248, if_neg (r_mf_ne h).2]
    rw [fX12_tellMode_l248, if_pos h1.2.1.2.1, m_is h1 (k := 10) (x := 30) (by decide) rfl, y_bd, r_rules]
    by_cases q10 : r_tK b L i = 10
    · rw [if_pos q10, if_neg (by decide), if_neg (by omega)]
      show ∃ V', _ ∧ match (if r_tK b L i = 10 then .ok i else .error (1, i) : r_r) with
        | .error (f, j) => r_me b L sd f j V V'
        | .ok e => _
      rw [if_pos q10]
      exact ⟨V, rfl, q10, Nat.le_refl _, ⟨cc, Nat.le_refl _, h⟩, r_fx_refl, fun a h1 h2 => by omega, rfl, fun _ _ _ => rfl⟩
    rw [if_neg q10, if_pos rfl]
    by_cases q11 : r_tK b L i = 11
    rotate_left
    · -- neither a rule nor the end
      rw [if_neg q11]
      have hme := m_fail_me h1 (f := 1) (Or.inl rfl)
      have hmf := r_me_mf hme hs
      have e23 : fX12_tellRule F V = some (zsI (zsI V 0 13 (nI 1)) 0 14 (nI (r_tS b L i))) := by
        rw [fX12_tellRule, m_is h1 (k := 11) (x := 31) (by decide) rfl, y_bd, if_neg q11, if_pos rfl, fX12_tellRule_b23, fX12_must, m_is h1 (k := 11) (x := 31) (by decide) rfl, y_bd, if_neg q11, if_pos rfl, show (1 : Int32) = nI 1 from rfl, m_fail h1, y_bd, y_bd, if_neg (r_mf_ne hmf).1]
      show ∃ V', _ ∧ match (if r_tK b L i = 10 then .ok i else .error (1, i) : r_r) with
        | .error (f, j) => r_me b L sd f j V V'
        | .ok e => _
      rw [if_neg q10, e23, y_bd, fault _ hmf]
      exact ⟨_, rfl, hme⟩
    rw [if_pos q11]
    have hr := m_trule (F := F) hF hL h1 q11 h12 hk hcc hnr htb.1.2 h80 (fun s c hlk => by have := r_lk_lt i hlk; have := hcn 6 (by omega); simp at this; omega) htb.2.2.2.2
    rw [r_b_assoc]
    cases hx : r_rule (r_tK b L) i with
    | error z =>
      rw [hx] at hr
      obtain ⟨V1, a1, a2⟩ := hr
      rw [a1, y_bd, fault _ (r_me_mf a2 hs)]
      exact ⟨V1, rfl, a2⟩
    | ok e =>
      rw [hx] at hr
      obtain ⟨V1, c1, c, a1, a2, a3, a4, a5, a6, a7, a8, a9, a10, a11, a12, a13, a14, a15, a16, a17⟩ := hr
      have lt1 := r_ms_lt a2
      obtain ⟨tb1, kinds⟩ := r_tb_rule (V := V) q11 htb a4 a6 (by omega) hs.2 a9 a11 a12 a13 a14 a15 a16
      have cnk : ∀ k, k ≤ 7 → r_cn (r_tK b L) k e = r_cn (r_tK b L) k i := fun k hk => r_cn_eq (by omega) fun a h1 h2 => by
        by_cases q : a = i
        · subst q; omega
        · have := kinds a (by omega) h2; omega
      have hsh80 := a11.2.2.2.2.2.2.2.2.2.2.2
      rw [a1, y_bd]
      obtain ⟨V2, d1, d2⟩ := ih N e c1 V1 (by omega) (by omega) ⟨a2, a3, a5, a7, a8, tb1, fun k hk => by rw [cnk k hk]; exact hcn k hk, by omega⟩
      refine ⟨V2, d1, ?_⟩
      show match (r_b (r_rules (r_tK b L) n e) fun j => if r_tK b L j = 10 then .ok j else .error (1, j) : r_r) with
        | .error (f, j) => r_me b L sd f j V V2
        | .ok e => _
      cases hy : (r_b (r_rules (r_tK b L) n e) fun j => if r_tK b L j = 10 then .ok j else .error (1, j) : r_r) with
      | error z =>
        rw [hy] at d2
        exact r_me_pre a4.1 d2
      | ok s =>
        rw [hy] at d2
        obtain ⟨g1, g2, ⟨c2, g3, g4⟩, g5, g6, g7, g8⟩ := d2
        refine ⟨g1, by omega, ⟨c2, by omega, g4⟩, r_fx_trans a4.1 g5, fun a h1 h2 => ?_, g7.trans a10, fun r h1 h2 => (g8 r h1 h2).trans (a4.2.2.1 r h1 h2)⟩
        by_cases q : a < e
        · by_cases q2 : a = i
          · subst q2; omega
          · exact (kinds a (by omega) q).1
        · exact g6 a (by omega) h2
theorem r_tl_len : ∀ i, (r_tl b L i).length ≤ r_cn (r_tK b L) 0 (i - 1) + r_cn (r_tK b L) 1 (i - 1) + r_cn (r_tK b L) 3 (i - 1) + r_cn (r_tK b L) 4 (i - 1) + r_cn (r_tK b L) 6 (i - 1) + r_cn (r_tK b L) 7 (i - 1) := by
  intro i
  induction i with
  | zero => exact Nat.zero_le _
  | succ i ih =>
    rw [Nat.add_sub_cancel]
    have mono : ∀ w, r_cn (r_tK b L) w (i - 1) ≤ r_cn (r_tK b L) w i := fun w => r_cn_mono (by omega)
    have m0 := mono 0
    have m1 := mono 1
    have m3 := mono 3
    have m4 := mono 4
    have m6 := mono 6
    have m7 := mono 7
    rw [r_tl]
    split
    · rename_i q
      have hi0 : i ≠ 0 := by
        intro z
        subst z
        have := q.2.1
        unfold r_ro at this
        rw [show 0 - 1 = 0 from rfl, q.1] at this
        simp at this
      have e : i = i - 1 + 1 := by omega
      rw [List.length_append]
      have hk := q.2.1
      unfold r_ro at hk
      have key : r_tK b L (i - 1) = 0 ∨ r_tK b L (i - 1) = 1 ∨ r_tK b L (i - 1) = 3 ∨ r_tK b L (i - 1) = 4 ∨ r_tK b L (i - 1) = 6 ∨ r_tK b L (i - 1) = 7 := by
        by_cases z : r_tK b L (i - 1) = 0 ∨ r_tK b L (i - 1) = 1 ∨ r_tK b L (i - 1) = 3 ∨ r_tK b L (i - 1) = 4 ∨ r_tK b L (i - 1) = 6 ∨ r_tK b L (i - 1) = 7
        · exact z
        · exfalso
          rw [if_neg z] at hk
          repeat' split at hk
          all_goals omega
      have l1 : ([(r_tW b L i, r_tK b L (i - 1), r_cn (r_tK b L) (r_tK b L (i - 1)) (i - 1))] : List r_E).length = 1 := rfl
      have s : ∀ w, r_tK b L (i - 1) = w → r_cn (r_tK b L) w i = r_cn (r_tK b L) w (i - 1) + 1 := fun w hw => by
        have := r_cn_succ (K := r_tK b L) hw
        rw [← e] at this; exact this
      rcases key with z | z | z | z | z | z
      · have := s 0 z; omega
      · have := s 1 z; omega
      · have := s 3 z; omega
      · have := s 4 z; omega
      · have := s 6 z; omega
      · have := s 7 z; omega
    · omega
/-- a part or a mode's head is laid into the table's rows -/
theorem r_tb_step {i e cm k : Nat} {V' : zV} (hk : r_tK b L i = k) (hk7 : k ≤ 7) (hin : ∀ a, i < a → a < e → 8 ≤ r_tK b L a ∧ ¬ r_tK b L a = 11) (hie : i < e) (hnr : r_nr (r_tK b L) e = r_nr (r_tK b L) i) (hna : r_na (r_tK b L) e = r_na (r_tK b L) i) (h : r_tb b L sd i cm V)
    (hB : ∀ r, 12 ≤ r → r ≤ 22 → (r_kr r = k → (∀ m, ¬ m = sd * r_hs r + r_cn (r_tK b L) k i → zA V' r m = zA V r m) ∧ zA V' r (sd * r_hs r + r_cn (r_tK b L) k i) = r_val b L r i) ∧ (¬ r_kr r = k → zA V' r = zA V r))
    (h23 : (k = 7 → (∀ m, ¬ m = 13 * sd + r_cn (r_tK b L) 7 i → zA V' 23 m = zA V 23 m) ∧ zA V' 23 (13 * sd + r_cn (r_tK b L) 7 i) = nI (r_cn (r_tK b L) 11 i)) ∧ (¬ k = 7 → zA V' 23 = zA V 23)) (hR : ∀ r, 24 ≤ r → r ≤ 38 → zA V' r = zA V r)
    (h8 : (∀ m, ¬ m = 9 * sd + k → zA V' 8 m = zA V 8 m) ∧ zA V' 8 (9 * sd + k) = nI (r_cn (r_tK b L) k i + 1)) (hcm : cm ≤ 1200) (hsd : sd ≤ 1) : r_tb b L sd e cm V' := by
  obtain ⟨⟨t1, t2⟩, t3, t4, t5, t6⟩ := h
  have cnk : ∀ w, ¬ w = k → (w ≤ 7 ∨ w = 11) → r_cn (r_tK b L) w e = r_cn (r_tK b L) w i := fun w hw hw2 => r_cn_eq (by omega) fun a h1 h2 => by
    by_cases q : a = i
    · subst q; omega
    · have := hin a (by omega) h2; omega
  have cne : r_cn (r_tK b L) k e = r_cn (r_tK b L) k i + 1 := by
    rw [r_cn_eq (i := i + 1) (by omega) fun a h1 h2 => by have := hin a (by omega) h2; omega, r_cn_succ hk]
  have hji : ∀ j, j < e → r_tK b L j ≤ 7 ∨ r_tK b L j = 11 → ¬ j = i → j < i := by
    intro j hj hw hne
    by_cases q : j < i
    · exact q
    · have := hin j (by omega) hj; omega
  have c11 := cnk 11 (by omega) (Or.inr rfl)
  refine ⟨⟨fun w hw => ?_, ?_⟩, fun r h1 h2 j hj hkj => ?_, fun j hj hkj => ?_, fun j hj hkj => ?_, fun h0 => ?_⟩
  · by_cases q : w = k
    · subst q; rw [h8.2, cne]
    · rw [h8.1 _ (by omega), t1 w hw, cnk w q (Or.inl hw)]
  · rw [h8.1 _ (by omega), t2, c11]
  · have hr7 : r_kr r ≤ 7 := by
      unfold r_kr
      repeat' split
      all_goals omega
    by_cases q : j = i
    · subst q
      have := ((hB r h1 h2).1 (hkj.symm.trans hk)).2
      rw [← hkj, hk]; exact this
    · have hlt := hji j hj (Or.inl (by omega)) q
      have old := t3 r h1 h2 j hlt hkj
      by_cases q2 : r_kr r = k
      · have hcn := r_cn_lt (K := r_tK b L) hlt hkj
        rw [((hB r h1 h2).1 q2).1 _ (by rw [← q2]; omega)]
        exact old
      · rw [(hB r h1 h2).2 q2]; exact old
  · by_cases q : j = i
    · subst q
      have k7 : k = 7 := hk.symm.trans hkj
      exact (h23.1 k7).2
    · have hlt := hji j hj (Or.inl (by omega)) q
      have old := t4 j hlt hkj
      by_cases q2 : k = 7
      · have hcn := r_cn_lt (K := r_tK b L) hlt hkj
        rw [(h23.1 q2).1 _ (by omega)]; exact old
      · rw [h23.2 q2]; exact old
  · by_cases q : j = i
    · subst q; omega
    · have hlt := hji j hj (Or.inr hkj) q
      obtain ⟨c, s, s1, s2, s3⟩ := t5 j hlt hkj
      refine ⟨c, s, s1, by omega, r_ru_same (cr := r_nr (r_tK b L) s) (ca := r_na (r_tK b L) s) (cs := r_cn (r_tK b L) 18 s) (cc := cm) s3 (by rw [hR 24 (by omega) (by omega)]) (fun r hr k _ => by rw [hR r (by omega) (by omega)]) (fun r k hb => ?_) (Nat.le_refl _) (Nat.le_refl _) (Nat.le_refl _) (Nat.le_refl _) (by have := s1.2.2.2; omega) hsd hcm⟩
      unfold r_gb at hb
      rw [hR r (by omega) (by omega)]
  · rw [c11] at h0 ⊢
    rw [hnr, hna, hR 25 (by omega) (by omega), hR 26 (by omega) (by omega)]
    exact t6 h0
end
