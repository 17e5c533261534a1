/-! ===== the class's grammar: RULES, MODES, the whole ===== -/
section
variable {F : Nat} {b : Nat → Nat} {L N : Nat}
theorem r_cg_rule (hF : 1100 ≤ F) : r_cg b L N (fun i => r_tK b L i = 11) (fX2_checkRule F) (r_rule (r_tK b L)) := by
  have hact := r_cg_act (F := F) (b := b) (L := L) (N := N) hF
  have h56 : r_cg b L N (fun _ => True) (fX2_checkRule_b56 F) (fun j => r_b (r_need (r_tK b L) 30 j) fun j => r_b (r_act (r_tK b L) j) (r_actsS (r_tK b L) 13 1)) :=
    r_cg_seq (r_cg_need (F := F) (k := 30) (by decide) (r_trk_no (Or.inl (by decide))) (by decide) (by decide)) (r_cg_seq hact (r_cg_actsl (F := F) hF 13 F 1 (by omega) (by omega) (by omega)))
  have h39 : r_cg b L N (fun _ => True) (fX2_checkRule_b39 F) (fun j => r_b (if r_tK b L j = 14 then r_b (r_pass j) (r_cnd (r_tK b L) 1001) else .ok j) fun j => r_b (r_need (r_tK b L) 30 j) fun j => r_b (r_act (r_tK b L) j) (r_actsS (r_tK b L) 13 1)) := by
    have e : fX2_checkRule_b39 F = fun V1 V2 => zbd (fX2_sees F V1 V2 (nI 14)) fun q => if q = 0 then fX2_checkRule_b56 F V1 V2 else zbd (fX2_pass F V1 V2) fun q26 => (fun V1 V2 => zbd (fX2_checkCond F V1 V2) fun q28 => fX2_checkRule_b56 F q28.1 q28.2) q26.1 q26.2 := rfl
    rw [e]
    refine r_cg_sees (k := 14) (by decide) (r_cg_s (r_cg_seq (r_cg_P (r_cg_pass (F := F)) fun i hi => ?_) (r_cg_seq (r_cg_cnd (F := F) hF) h56)) fun i hi => ?_) (r_cg_s (r_cg_P h56 fun i _ => trivial) fun i hi => ?_)
    · rw [hi.2]; exact ⟨r_trk_no (Or.inl (by omega)), by decide, by decide⟩
    · rw [if_pos hi.2, r_b_assoc]
    · rw [if_neg hi.2]; rfl
  have h26 : r_cg b L N (fun i => r_tK b L i = 12 ∨ r_tK b L i = 13) (fX2_checkRule_b26 F) (fun j => r_b (r_pass j) fun j => r_b (if r_tK b L j = 14 then r_b (r_pass j) (r_cnd (r_tK b L) 1001) else .ok j) fun j => r_b (r_need (r_tK b L) 30 j) fun j => r_b (r_act (r_tK b L) j) (r_actsS (r_tK b L) 13 1)) :=
    r_cg_seq (r_cg_P (r_cg_pass (F := F)) fun i hi => ⟨r_trk_no (Or.inl (by omega)), by omega, by omega⟩) h39
  have hev : r_cg b L N (fun _ => True) (fun V1 V2 => zbd (fX2_sees F V1 V2 (nI 12)) fun q34 => if q34 = 0 then (fun V1 V2 => zbd (fX2_sees F V1 V2 (nI 13)) fun q37 => if q37 = 0 then (fun V1 V2 => zbd (fX2_need F V1 V2 (27 : Int32)) fun q40 => fX2_checkRule_b39 F q40.1 q40.2) V1 V2 else fX2_checkRule_b26 F V1 V2) V1 V2 else fX2_checkRule_b26 F V1 V2)
      (fun j => r_b (if r_tK b L j = 12 ∨ r_tK b L j = 13 then r_pass j else r_need (r_tK b L) 27 j) fun j => r_b (if r_tK b L j = 14 then r_b (r_pass j) (r_cnd (r_tK b L) 1001) else .ok j) fun j => r_b (r_need (r_tK b L) 30 j) fun j => r_b (r_act (r_tK b L) j) (r_actsS (r_tK b L) 13 1)) := by
    refine r_cg_sees (k := 12) (by decide) (r_cg_s (r_cg_P h26 fun i hi => Or.inl hi.2) fun i hi => ?_) (r_cg_sees (k := 13) (by decide) (r_cg_s (r_cg_P h26 fun i hi => Or.inr hi.2) fun i hi => ?_) (r_cg_s (r_cg_P (r_cg_seq (r_n27 (F := F)) h39) fun i _ => trivial) fun i hi => ?_))
    · rw [if_pos (Or.inl hi.2)]
    · rw [if_pos (Or.inr hi.2)]
    · rw [if_neg (fun z => z.elim hi.1.2 hi.2)]
  have e : fX2_checkRule F = fun V1 V2 => zbd (fX2_passNewOne F V1 V2 (nI 11) (nI 80)) fun q32 => (fun V1 V2 => zbd (fX2_sees F V1 V2 (nI 12)) fun q34 => if q34 = 0 then (fun V1 V2 => zbd (fX2_sees F V1 V2 (nI 13)) fun q37 => if q37 = 0 then (fun V1 V2 => zbd (fX2_need F V1 V2 (27 : Int32)) fun q40 => fX2_checkRule_b39 F q40.1 q40.2) V1 V2 else fX2_checkRule_b26 F V1 V2) V1 V2 else fX2_checkRule_b26 F V1 V2) q32.1 q32.2 := rfl
  rw [e]
  exact r_cg_s (r_cg_P (r_cg_seq (r_cg_new1 (F := F) (P := fun _ => True) (w := 11) (m := 80) (Or.inr rfl) (by decide)) hev) fun i hi => ⟨trivial, hi⟩) fun i hi => rfl
theorem r_cg_mhead : r_cg b L N (fun i => r_tK b L i = 7) (fX2_checkModeHead F) (r_mhead (r_tK b L)) := by
  have h39 : r_cg b L N (fun _ => True) (fX2_checkModeHead_b39 F) (r_need (r_tK b L) 29) := r_n29
  have ht : r_cg b L N (fun _ => True) (fun V1 V2 => zbd (fX2_sees F V1 V2 (nI 9)) fun q9 => if q9 = 0 then fX2_checkModeHead_b39 F V1 V2 else zbd (fX2_pass F V1 V2) fun q12 => (fun V1 V2 => zbd (fX2_need F V1 V2 (28 : Int32)) fun q14 => fX2_checkModeHead_b39 F q14.1 q14.2) q12.1 q12.2)
      (fun j => if r_tK b L j = 9 then r_b (r_pass j) fun j => r_b (r_need (r_tK b L) 28 j) (r_need (r_tK b L) 29) else r_need (r_tK b L) 29 j) := by
    refine r_cg_sees (k := 9) (by decide) (r_cg_s (r_cg_seq (r_cg_P (r_cg_pass (F := F)) fun i hi => ?_) (r_cg_seq (r_n28 (F := F)) h39)) fun i hi => ?_) (r_cg_s (r_cg_P h39 fun i _ => trivial) fun i hi => ?_)
    · rw [hi.2]; exact ⟨r_trk_no (Or.inr (by omega)), by decide, by decide⟩
    · rw [if_pos hi.2]
    · rw [if_neg hi.2]
  have e : fX2_checkModeHead F = fun V1 V2 => zbd (fX2_passNewOne F V1 V2 (nI 7) (nI 12)) fun q3 => (fun V1 V2 => zbd (fX2_need F V1 V2 (27 : Int32)) fun q5 => (fun V1 V2 => zbd (fX2_need F V1 V2 (28 : Int32)) fun q7 => (fun V1 V2 => zbd (fX2_sees F V1 V2 (nI 9)) fun q9 => if q9 = 0 then fX2_checkModeHead_b39 F V1 V2 else zbd (fX2_pass F V1 V2) fun q12 => (fun V1 V2 => zbd (fX2_need F V1 V2 (28 : Int32)) fun q14 => fX2_checkModeHead_b39 F q14.1 q14.2) q12.1 q12.2) q7.1 q7.2) q5.1 q5.2) q3.1 q3.2 := rfl
  rw [e]
  exact r_cg_s (r_cg_P (r_cg_seq (r_cg_new1 (F := F) (P := fun _ => True) (w := 7) (m := 12) (Or.inl (by omega)) (by decide)) (r_cg_seq (r_n27 (F := F)) (r_cg_seq (r_n28 (F := F)) ht))) fun i hi => ⟨trivial, hi⟩) fun i hi => rfl
theorem r_rule_lt {K : Nat → Nat} {i j : Nat} (h : r_rule K i = .ok j) : i < j := by
  have ac : ∀ {i j}, r_act K i = .ok j → i < j := by
    intro i j h
    unfold r_act at h
    split at h
    · obtain ⟨a, h1, h⟩ := r_b_ok h
      obtain ⟨c, h2, h⟩ := r_b_ok h
      have := r_pass_lt h1
      have : a ≤ c := by
        split at h2
        · have := (r_need_ok h2).2.1; omega
        · cases h2; exact Nat.le_refl _
      split at h
      · have := r_exp_lt h; omega
      · cases h; omega
    · cases h
  have acs : ∀ n d i j, r_actsS K n d i = .ok j → i ≤ j := by
    intro n
    induction n with
    | zero => intro d i j h; cases h; exact Nat.le_refl _
    | succ n ih =>
      intro d i j h
      rw [r_actsS] at h
      split at h
      · obtain ⟨a, h1, h⟩ := r_b_ok h
        have := r_pass_lt h1
        split at h
        · split at h <;> cases h
        · obtain ⟨c, h2, h⟩ := r_b_ok h
          have := ac h2
          have := ih _ _ _ h
          omega
      · have := (r_need_ok h).2.1; omega
  have cn : ∀ n i j, r_cnd K n i = .ok j → i ≤ j := by
    intro n
    induction n with
    | zero => intro i j h; cases h; exact Nat.le_refl _
    | succ n ih =>
      intro i j h
      rw [r_cnd, r_rel, r_b_assoc] at h
      obtain ⟨a, h1, h⟩ := r_b_ok h
      have := r_exp_lt h1
      split at h
      · obtain ⟨c, h2, h⟩ := r_b_ok h
        obtain ⟨d, h3, h2⟩ := r_b_ok h2
        have := r_pass_lt h3
        have := r_exp_lt h2
        split at h
        · obtain ⟨e, h4, h⟩ := r_b_ok h
          have := r_pass_lt h4
          have := ih _ _ h
          omega
        · cases h; omega
      · cases h
  unfold r_rule at h
  obtain ⟨a, h1, h⟩ := r_b_ok h
  have := (r_newo_ok h1).2.1
  obtain ⟨c, h2, h⟩ := r_b_ok h
  have h2' : a ≤ c := by
    split at h2
    · have := r_pass_lt h2; omega
    · have := (r_need_ok h2).2.1; omega
  obtain ⟨d, h3, h⟩ := r_b_ok h
  have h3' : c ≤ d := by
    split at h3
    · obtain ⟨e, h4, h3⟩ := r_b_ok h3
      have := r_pass_lt h4
      have := cn _ _ _ h3
      omega
    · cases h3; exact Nat.le_refl _
  obtain ⟨e, h4, h⟩ := r_b_ok h
  have := (r_need_ok h4).2.1
  obtain ⟨f, h5, h⟩ := r_b_ok h
  have := ac h5
  have := acs _ _ _ _ h
  omega
theorem r_rules_le {K : Nat → Nat} : ∀ n i j, r_rules K n i = .ok j → i ≤ j := by
  intro n
  induction n with
  | zero => intro i j h; cases h; exact Nat.le_refl _
  | succ n ih =>
    intro i j h
    rw [r_rules] at h
    split at h
    · obtain ⟨a, h1, h⟩ := r_b_ok h
      have := r_rule_lt h1
      have := ih _ _ h
      omega
    · cases h; exact Nat.le_refl _
theorem r_mode_lt {K : Nat → Nat} {i j : Nat} (h : r_mode K i = .ok j) : i < j := by
  unfold r_mode at h
  obtain ⟨a, h1, h⟩ := r_b_ok h
  unfold r_mhead at h1
  obtain ⟨c, h2, h1⟩ := r_b_ok h1
  obtain ⟨d, h3, h1⟩ := r_b_ok h1
  obtain ⟨e, h4, h1⟩ := r_b_ok h1
  have := (r_newo_ok h2).2.1
  have := (r_need_ok h3).2.1
  have := (r_need_ok h4).2.1
  have : e < a := by
    split at h1
    · obtain ⟨f, h5, h1⟩ := r_b_ok h1
      obtain ⟨g, h6, h1⟩ := r_b_ok h1
      have := r_pass_lt h5
      have := (r_need_ok h6).2.1
      have := (r_need_ok h1).2.1
      omega
    · have := (r_need_ok h1).2.1; omega
  obtain ⟨f, h5, h⟩ := r_b_ok h
  have := r_rules_le _ _ _ h5
  have := (r_need_ok h).2.1
  omega
theorem r_part_lt {K : Nat → Nat} {i j : Nat} (h : r_part K i = .ok j) : i < j := by
  have nn : ∀ {a c : Nat} {k l : Nat}, r_b (r_need K k a) (r_need K l) = .ok c → a < c := by
    intro a c k l h
    obtain ⟨d, h1, h⟩ := r_b_ok h
    have := (r_need_ok h1).2.1
    have := (r_need_ok h).2.1
    omega
  unfold r_part at h
  obtain ⟨a, h1, h⟩ := r_b_ok h
  obtain ⟨c, h2, h⟩ := r_b_ok h
  have := (r_newo_ok h1).2.1
  have := (r_need_ok h2).2.1
  split at h
  · have := nn h; omega
  split at h
  · have := nn h; omega
  split at h
  · obtain ⟨d, h3, h⟩ := r_b_ok h
    have := (r_need_ok h3).2.1
    split at h
    · obtain ⟨e, h4, h⟩ := r_b_ok h
      have := r_pass_lt h4
      have := nn h
      omega
    · have := (r_need_ok h).2.1; omega
  · have := (r_need_ok h).2.1; omega
/-! the loops -/
theorem r_cg_rulesl (hF : 1100 ≤ F) {k57 : zV → zV → Int32 → Option (zV × zV)} {x1 : Nat} {s : Nat → r_r} {Q : Nat → Prop} (hk : r_cg b L N Q (fun V1 V2 => k57 V1 V2 (nI (x1 + 1))) s) (hQ : ∀ i j, Q i → i ≤ j → Q j) : ∀ (n M c : Nat), n + 1 ≤ M → c + n ≤ 1001 → r_cg b L N (fun i => (1001 ≤ n + i ∧ c ≤ i) ∧ Q i) (fun V1 V2 => fX2_check_l79 F k57 M V1 V2 (nI x1) (nI c)) (fun i => r_b (r_rules (r_tK b L) n i) fun j => r_b (r_need (r_tK b L) 10 j) s) := by
  have h105 : r_cg b L N Q (fun V1 V2 => fX2_check_b105 F k57 V1 V2 (nI x1)) (fun j => r_b (r_need (r_tK b L) 10 j) s) := by
    have e : (fun V1 V2 => fX2_check_b105 F k57 V1 V2 (nI x1)) = fun V1 V2 => zbd (fX2_need F V1 V2 (nI 10)) fun q6 => (fun V1 V2 => k57 V1 V2 (nI (x1 + 1))) q6.1 q6.2 := by
      funext V1 V2
      rw [fX2_check_b105, nI_1]; rfl
    rw [e]
    exact r_cg_seqQ (r_cg_P (r_cg_need (F := F) (k := 10) (by decide) (r_trk_no (Or.inr (by omega))) (by decide) (by decide)) fun _ _ => trivial) hk fun i j hi hj => hQ i j hi (by have := (r_need_ok hj).2.1; omega)
  have flt : ∀ (M c : Nat) V1 V2, ¬ zI V1 0 5 = 0 → r_cx V2 V2 → ∃ V2', fX2_check_l79 F k57 (M + 1) V1 V2 (nI x1) (nI c) = some (V1, V2') ∧ r_cx V2 V2' := by
    intro M c V1 V2 h5 hx
    rw [fX2_check_l79, fX2_sees, if_neg h5, y_bd, if_pos rfl, ite_self]
    exact h105.2 V1 V2 h5 hx
  intro n
  induction n with
  | zero =>
    intro M c hM hc
    obtain ⟨M, rfl⟩ : ∃ M', M = M' + 1 := ⟨M - 1, by omega⟩
    exact ⟨fun i V1 V2 hP h => absurd h.2.2.2.2.1.1 (by omega), fun V1 V2 h5 hx => flt M c V1 V2 h5 hx⟩
  | succ n ih =>
    intro M c hM hc
    obtain ⟨M, rfl⟩ : ∃ M', M = M' + 1 := ⟨M - 1, by omega⟩
    have e : (fun V1 V2 => fX2_check_l79 F k57 (M + 1) V1 V2 (nI x1) (nI c)) = fun V1 V2 => zbd (fX2_sees F V1 V2 (nI 11)) fun q9 => if q9 = 0 then (fun V1 V2 => fX2_check_b105 F k57 V1 V2 (nI x1)) V1 V2 else zbd (fX2_checkRule F V1 V2) fun q12 => (fun V1 V2 => fX2_check_l79 F k57 M V1 V2 (nI x1) (nI (c + 1))) q12.1 q12.2 := by
      funext V1 V2
      rw [fX2_check_l79, if_neg (show ¬ (1000 : Int32) < nI c from nI_nlt (a := 1000) (by omega) (by omega)), nI_1]; rfl
    rw [e]
    refine r_cg_sees (k := 11) (by decide) (r_cg_s (r_cg_seqQ (r_cg_P (r_cg_rule (F := F) hF) fun i hi => hi.2) (ih M (c + 1) (by omega) (by omega)) fun i j hi hj => ?_) fun i hi => ?_) (r_cg_s (r_cg_P h105 fun i hi => hi.1.2) fun i hi => ?_)
    · have := r_rule_lt hj
      exact ⟨by omega, hQ i j hi.1.2 (by omega)⟩
    · rw [r_rules, if_pos hi.2, r_b_assoc]
    · rw [r_rules, if_neg hi.2]; rfl
theorem r_cg_modesl (hF : 1100 ≤ F) : ∀ (n M c : Nat), n + 1 ≤ M → c + n ≤ 1001 → r_cg b L N (fun i => 1001 ≤ n + i ∧ c ≤ i) (fun V1 V2 => fX2_check_l57 F M V1 V2 (nI c)) (r_modes (r_tK b L) n) := by
  have h117 : r_cg b L N (fun _ => True) (fX2_check_b117 F) (fun j => if r_tK b L j = 41 then .ok j else .error (1, j)) := by
    have e : fX2_check_b117 F = fun V1 V2 => zbd (fX2_sees F V1 V2 (nI 41)) fun q1 => if q1 = 0 then (fun V1 V2 => zbd (fX10_blame F V1 (nI 1) (zI V2 0 1)) fun q4 => some (q4, V2)) V1 V2 else (fun V1 V2 => some (V1, V2)) V1 V2 := rfl
    rw [e]
    exact r_cg_sees (k := 41) (by decide) (r_cg_s r_cg_ok fun i hi => by rw [if_pos hi.2]) (r_cg_s (r_cg_err (F := F) (f := 1) (Or.inl rfl)) fun i hi => by rw [if_neg hi.2])
  have flt : ∀ (M c : Nat) V1 V2, ¬ zI V1 0 5 = 0 → r_cx V2 V2 → ∃ V2', fX2_check_l57 F (M + 1) V1 V2 (nI c) = some (V1, V2') ∧ r_cx V2 V2' := by
    intro M c V1 V2 h5 hx
    rw [fX2_check_l57, fX2_sees, if_neg h5, y_bd, if_pos rfl, ite_self]
    exact h117.2 V1 V2 h5 hx
  intro n
  induction n with
  | zero =>
    intro M c hM hc
    obtain ⟨M, rfl⟩ : ∃ M', M = M' + 1 := ⟨M - 1, by omega⟩
    exact ⟨fun i V1 V2 hP h => absurd h.2.2.2.2.1.1 (by omega), fun V1 V2 h5 hx => flt M c V1 V2 h5 hx⟩
  | succ n ih =>
    intro M c hM hc
    obtain ⟨M, rfl⟩ : ∃ M', M = M' + 1 := ⟨M - 1, by omega⟩
    have hr := r_cg_rulesl (F := F) (k57 := fX2_check_l57 F M) (x1 := c) (Q := fun i => 1001 ≤ n + i ∧ c + 1 ≤ i) hF (ih M (c + 1) (by omega) (by omega)) (fun i j h h2 => by omega) 1001 F 0 (by omega) (by omega)
    have e : (fun V1 V2 => fX2_check_l57 F (M + 1) V1 V2 (nI c)) = fun V1 V2 => zbd (fX2_sees F V1 V2 (nI 7)) fun q15 => if q15 = 0 then fX2_check_b117 F V1 V2 else zbd (fX2_checkModeHead F V1 V2) fun q18 => (fun V1 V2 => fX2_check_l79 F (fX2_check_l57 F M) F V1 V2 (nI c) (nI 0)) q18.1 q18.2 := by
      funext V1 V2
      rw [fX2_check_l57, if_neg (show ¬ (1000 : Int32) < nI c from nI_nlt (a := 1000) (by omega) (by omega))]; rfl
    rw [e]
    have mh : ∀ {i j}, r_mhead (r_tK b L) i = .ok j → i < j := by
      intro i j h1
      unfold r_mhead at h1
      obtain ⟨c, h2, h1⟩ := r_b_ok h1
      obtain ⟨d, h3, h1⟩ := r_b_ok h1
      obtain ⟨e, h4, h1⟩ := r_b_ok h1
      have := (r_newo_ok h2).2.1
      have := (r_need_ok h3).2.1
      have := (r_need_ok h4).2.1
      split at h1
      · obtain ⟨f, h5, h1⟩ := r_b_ok h1
        obtain ⟨g, h6, h1⟩ := r_b_ok h1
        have := r_pass_lt h5
        have := (r_need_ok h6).2.1
        have := (r_need_ok h1).2.1
        omega
      · have := (r_need_ok h1).2.1; omega
    refine r_cg_sees (k := 7) (by decide) (r_cg_s (r_cg_seqQ (r_cg_P (r_cg_mhead (F := F)) fun i hi => hi.2) hr fun i j hi hj => ?_) fun i hi => ?_) (r_cg_s (r_cg_P h117 fun i hi => trivial) fun i hi => ?_)
    · have := mh hj; omega
    · rw [r_modes, if_pos hi.2, r_mode, r_b_assoc]
      congr 1
      funext j
      rw [r_b_assoc]
    · rw [r_modes, if_neg hi.2]
theorem r_cg_partsl (hF : 1100 ≤ F) : ∀ (n M c : Nat), n + 1 ≤ M → c + n ≤ 1001 → r_cg b L N (fun i => 1001 ≤ n + i ∧ c ≤ i) (fun V1 V2 => fX2_check_l31 F M V1 V2 (nI c)) (fun i => r_b (r_parts (r_tK b L) n i) (r_modes (r_tK b L) 1001)) := by
  have h55 : r_cg b L N (fun _ => True) (fX2_check_b55 F) (r_modes (r_tK b L) 1001) := r_cg_P (r_cg_modesl (F := F) hF 1001 F 0 (by omega) (by omega)) fun i _ => ⟨by omega, by omega⟩
  have flt : ∀ (M c : Nat) V1 V2, ¬ zI V1 0 5 = 0 → r_cx V2 V2 → ∃ V2', fX2_check_l31 F (M + 1) V1 V2 (nI c) = some (V1, V2') ∧ r_cx V2 V2' := by
    intro M c V1 V2 h5 hx
    rw [fX2_check_l31, fX2_goesOnWithPart, if_neg h5, y_bd, if_pos rfl, ite_self]
    exact h55.2 V1 V2 h5 hx
  intro n
  induction n with
  | zero =>
    intro M c hM hc
    obtain ⟨M, rfl⟩ : ∃ M', M = M' + 1 := ⟨M - 1, by omega⟩
    exact ⟨fun i V1 V2 hP h => absurd h.2.2.2.2.1.1 (by omega), fun V1 V2 h5 hx => flt M c V1 V2 h5 hx⟩
  | succ n ih =>
    intro M c hM hc
    obtain ⟨M, rfl⟩ : ∃ M', M = M' + 1 := ⟨M - 1, by omega⟩
    have hp := r_cg_seqQ (r_cg_P (Q := fun i => (1001 ≤ n + 1 + i ∧ c ≤ i) ∧ r_tK b L i ≤ 6) (r_cg_part (F := F) (b := b) (L := L) (N := N)) fun i hi => hi.2) (ih M (c + 1) (by omega) (by omega)) fun i j hi hj => by have := r_part_lt hj; omega
    refine ⟨fun i V1 V2 hP h => ?_, fun V1 V2 h5 hx => flt M c V1 V2 h5 hx⟩
    have kle := r_tK_le (b := b) (L := L) i
    dsimp only
    rw [fX2_check_l31, if_neg (show ¬ (1000 : Int32) < nI c from nI_nlt (a := 1000) (by omega) (by omega)), fX2_goesOnWithPart, if_pos h.2.2.1, c_kat h, y_bd, nI_1]
    by_cases q : r_tK b L i ≤ 6
    · rw [if_neg (show ¬ (6 : Int32) < nI (r_tK b L i) from nI_nlt (a := 6) q (by omega)), y_bd, if_neg (by decide)]
      have := hp.1 i V1 V2 ⟨hP, q⟩ h
      rw [r_parts, if_pos q, r_b_assoc]
      exact this
    · rw [if_pos (show (6 : Int32) < nI (r_tK b L i) from nI_lt (a := 6) (by omega) (by omega)), y_bd, if_pos rfl, r_parts, if_neg q]
      exact h55.1 i V1 V2 trivial h
/-- the class's check of a text's grammar -/
theorem c_check (hF : 1100 ≤ F) {V1 V2 : zV} (ht : r_tn b L N) (hc : r_ct b L N V1) (h5 : zI V1 0 5 = 0) : ∃ V1' V2', fX2_check F V1 V2 = some (V1', V2') ∧ match r_gram (r_tK b L) with
    | .ok j => V1' = V1 ∧ r_ca b L N j V1 V2'
    | .error (f, j) => V1' = r_blm b L f j V1 ∧ (f = 1 ∨ f = 2) ∧ r_in (r_tK b L) j := by
  have l7 : ∀ (n M k : Nat) (V2 : zV), k + n = 27 → n + 1 ≤ M → zI V2 0 1 = 0 → (∀ w, w < k → zA V2 1 w = 0) → ∃ V2', fX2_check_l7 F M V1 V2 (nI k) = fX2_check_l31 F F V1 V2' 0 ∧ zI V2' 0 1 = 0 ∧ ∀ w, w < 27 → zA V2' 1 w = 0 := by
    intro n
    induction n with
    | zero =>
      intro M k V2 e hM h1 hw
      obtain ⟨M, rfl⟩ : ∃ M', M = M' + 1 := ⟨M - 1, by omega⟩
      rw [fX2_check_l7, if_pos (show (27 : Int32) ≤ nI k from nI_le (a := 27) (by omega) (by omega))]
      exact ⟨V2, rfl, h1, fun w hw' => hw w (by omega)⟩
    | succ n ih =>
      intro M k V2 e hM h1 hw
      obtain ⟨M, rfl⟩ : ∃ M', M = M' + 1 := ⟨M - 1, by omega⟩
      rw [fX2_check_l7, if_neg (show ¬ (27 : Int32) ≤ nI k from nI_ge (b := 27) (by omega) (by decide)), y_ck (by omega) (by decide), y_let, nI_1, nI_clamp (by omega)]
      refine ih M (k + 1) (zsA V2 1 (upd (zA V2 1) k 0)) (by omega) (by omega) h1 fun w hw' => ?_
      show upd (zA V2 1) k 0 w = 0
      rw [y_upd]
      by_cases q : w = k
      · rw [if_pos q]
      · rw [if_neg q]; exact hw w (by omega)
  unfold fX2_check
  rw [y_let]
  obtain ⟨V2', a1, a2, a3⟩ := l7 27 F 0 (zsI V2 0 1 0) rfl (by omega) rfl (fun w hw => by omega)
  have a1' : fX2_check_l7 F F V1 (zsI V2 0 1 0) 0 = _ := a1
  rw [a1']
  have hca : r_ca b L N 0 V1 V2' := ⟨ht, hc, h5, a2, ⟨by omega, fun j hj => by omega⟩, fun w hw => a3 w (by rcases hw with z | z <;> omega)⟩
  obtain ⟨V1'', V2'', d1, d2⟩ := (r_cg_partsl (F := F) (b := b) (L := L) (N := N) hF 1001 F 0 (by omega) (by omega)).1 0 V1 V2' ⟨by omega, by omega⟩ hca
  refine ⟨V1'', V2'', d1, ?_⟩
  have d2 : r_co b L N V1 V2' (r_gram (r_tK b L)) V1'' V2'' := d2
  cases hg : r_gram (r_tK b L) with
  | ok j => rw [hg] at d2; exact ⟨d2.1, d2.2.1⟩
  | error e => rw [hg] at d2; exact ⟨d2.1, d2.2.1, d2.2.2.1⟩
end
