/-! ===== the class's grammar: CONDs, ACTS, RULES, MODES, the whole ===== -/
section
variable {F : Nat} {b : Nat → Nat} {L N : Nat}
theorem r_b_assoc (x : r_r) (f g : Nat → r_r) : r_b (r_b x f) g = r_b x fun i => r_b (f i) g := by cases x <;> rfl
theorem r_pass_lt {i j : Nat} (h : r_pass i = .ok j) : j = i + 1 := (r_pass_ok h).1
theorem r_sum_le {K : Nat → Nat} : ∀ (n o : Nat) (w m : Bool) (i j : Nat), r_sum K n o w m i = .ok j → i ≤ j ∧ (w = true → 0 < n → i < j) := by
  intro n
  induction n with
  | zero => intro o w m i j h; cases h; exact ⟨Nat.le_refl _, fun _ z => absurd z (by omega)⟩
  | succ n ih =>
    intro o w m i j h
    have st : ∀ o' w' m', r_b (r_pass i) (r_sum K n o' w' m') = .ok j → i < j := by
      intro o' w' m' h
      obtain ⟨i', h1, h2⟩ := r_b_ok h
      have := r_pass_lt h1
      have := (ih _ _ _ _ _ h2).1
      omega
    cases w with
    | true =>
      rw [r_sum_t] at h
      have : i < j := by
        split at h
        · split at h
          · exact st _ _ _ h
          · cases h
        split at h
        · exact st _ _ _ h
        split at h
        · exact st _ _ _ h
        · cases h
      exact ⟨by omega, fun _ _ => this⟩
    | false =>
      rw [r_sum_f] at h
      refine ⟨?_, fun z => by cases z⟩
      split at h
      · have := st _ _ _ h; omega
      split at h
      · split at h
        · have := st _ _ _ h; omega
        · cases h
      · cases h; exact Nat.le_refl _
theorem r_exp_lt {K : Nat → Nat} {i j : Nat} (h : r_exp K i = .ok j) : i < j := (r_sum_le _ _ _ _ _ _ h).2 rfl (by decide)
theorem r_cg_seqQ {P Q : Nat → Prop} {g1 g2 : zV → zV → Option (zV × zV)} {s1 s2 : Nat → r_r} (h1 : r_cg b L N P g1 s1) (h2 : r_cg b L N Q g2 s2) (hQ : ∀ i j, P i → s1 i = .ok j → Q j) : r_cg b L N P (fun V1 V2 => zbd (g1 V1 V2) fun q => g2 q.1 q.2) (fun i => r_b (s1 i) s2) := by
  refine ⟨fun i V1 V2 hP h => ?_, fun V1 V2 h5 hx => ?_⟩
  · obtain ⟨V1', V2', a1, a2⟩ := h1.1 i V1 V2 hP h
    dsimp only
    rw [a1, y_bd]
    cases hs : s1 i with
    | ok j =>
      rw [hs] at a2
      obtain ⟨rfl, c1, c2⟩ := a2
      obtain ⟨V1'', V2'', d1, d2⟩ := h2.1 j V1' V2' (hQ i j hP hs) c1
      refine ⟨V1'', V2'', d1, ?_⟩
      show r_co b L N V1' V2 (s2 j) V1'' V2''
      cases hs2 : s2 j with
      | ok j2 =>
        rw [hs2] at d2
        exact ⟨d2.1, d2.2.1, r_fq_trans c2 d2.2.2⟩
      | error e =>
        rw [hs2] at d2
        exact ⟨d2.1, d2.2.1, d2.2.2.1, d2.2.2.2.1, r_fq_trans c2 d2.2.2.2.2⟩
    | error e =>
      rw [hs] at a2
      obtain ⟨rfl, hf, hi, hx⟩ := a2
      obtain ⟨V2'', d1, d2⟩ := h2.2 _ V2' (r_blm_5 hf) (r_cx_self hx)
      exact ⟨_, V2'', d1, rfl, hf, hi, r_cx_trans hx d2⟩
  · obtain ⟨V2', a1, a2⟩ := h1.2 V1 V2 h5 hx
    dsimp only
    rw [a1, y_bd]
    obtain ⟨V2'', d1, d2⟩ := h2.2 V1 V2' h5 (r_cx_self a2)
    exact ⟨V2'', d1, r_cx_trans a2 d2⟩
theorem r_cg_seesq {P : Nat → Prop} {k : Nat} (hk : k ≤ 42) {g1 g2 : Int32 → zV → zV → Option (zV × zV)} {s : Nat → r_r} (h1 : r_cg b L N (fun i => P i ∧ r_tK b L i = k) (g1 1) s) (h2 : r_cg b L N (fun i => P i ∧ ¬ r_tK b L i = k) (g2 0) s) : r_cg b L N P (fun V1 V2 => zbd (fX2_sees F V1 V2 (nI k)) fun q => if q = 0 then g2 q V1 V2 else g1 q V1 V2) s := by
  refine ⟨fun i V1 V2 hP h' => ?_, fun V1 V2 h5 hx' => ?_⟩
  · dsimp only
    unfold fX2_sees
    rw [if_pos h'.2.2.1, c_kat h', y_bd]
    have kle := r_tK_le (b := b) (L := L) i
    by_cases q : r_tK b L i = k
    · rw [if_pos (by rw [q]), y_bd, if_neg (by decide)]
      exact h1.1 i V1 V2 ⟨hP, q⟩ h'
    · rw [if_neg (fun z => q ((nI_eq (by omega) (by omega)).mp z)), y_bd, if_pos rfl]
      exact h2.1 i V1 V2 ⟨hP, q⟩ h'
  · dsimp only
    unfold fX2_sees
    rw [if_neg h5, y_bd, if_pos rfl]
    exact h2.2 V1 V2 h5 hx'
theorem r_isRel : ∀ k : Fin 43, fX2_isRelation 0 (nI k.1) = some (if 37 ≤ k.1 ∧ k.1 ≤ 40 then 1 else 0) := by decide +kernel
theorem r_isAct : ∀ k : Fin 43, fX2_isAct 0 (nI k.1) = some (if 16 ≤ k.1 ∧ k.1 ≤ 24 then 1 else 0) := by decide +kernel
theorem r_isRel_x (x : Int32) : fX2_isRelation F x = some 0 ∨ fX2_isRelation F x = some 1 := by
  unfold fX2_isRelation
  repeat' split
  all_goals first | exact Or.inl rfl | exact Or.inr rfl
theorem r_isAct_x (x : Int32) : fX2_isAct F x = some 0 ∨ fX2_isAct F x = some 1 := by
  unfold fX2_isAct
  repeat' split
  all_goals first | exact Or.inl rfl | exact Or.inr rfl
/-- a pass of a token of a kind that is not counted -/
theorem r_cg_go {P : Nat → Prop} {g : zV → zV → Option (zV × zV)} {s : Nat → r_r} (hP : ∀ i, P i → (12 ≤ r_tK b L i ∨ (8 ≤ r_tK b L i ∧ r_tK b L i ≤ 10)) ∧ r_tK b L i ≤ 40) (hg : r_cg b L N (fun _ => True) g s) : r_cg b L N P (fun V1 V2 => zbd (fX2_pass F V1 V2) fun q => g q.1 q.2) (fun i => r_b (r_pass i) s) :=
  r_cg_seq (r_cg_P (r_cg_pass (F := F)) fun i hi => by obtain ⟨h1, h2⟩ := hP i hi; exact ⟨r_trk_no h1, by omega, by omega⟩) hg
/-! CONDs -/
theorem c_cnd_x (hF : 1100 ≤ F) {V1 V2 : zV} (h5 : ¬ zI V1 0 5 = 0) (hx : r_cx V2 V2) (M : Nat) (x1 x2 : Int32) : ∃ V2', fX2_checkCond_l4 F (M + 2) V1 V2 x1 x2 = some (V1, V2') ∧ r_cx V2 V2' := by
  have hex := (r_cg_sum (F := F) (b := fun _ => 0) (L := 0) (N := 0) hF).2
  have stop : ∀ V2, fX2_checkCond_b74 F (fX2_checkCond_l4 F (M + 1)) V1 V2 0 x2 = some (V1, V2) := by
    intro V2
    rw [fX2_checkCond_b74, fX2_checkCond_l4, if_pos rfl]
    split <;> rfl
  have h55 : ∀ V2, r_cx V2 V2 → ∃ V2', fX2_checkCond_b55 F (fX2_checkCond_l4 F (M + 1)) V1 V2 x2 = some (V1, V2') ∧ r_cx V2 V2' := by
    intro V2 hx
    obtain ⟨V2', a1, a2⟩ := hex V1 V2 h5 hx
    rw [fX2_checkCond_b55, a1, y_bd, fX2_sees, if_neg h5, y_bd, if_pos rfl, stop]
    exact ⟨V2', rfl, a2⟩
  rw [fX2_checkCond_l4]
  split
  · exact ⟨V2, rfl, hx⟩
  split
  · exact ⟨V2, rfl, hx⟩
  obtain ⟨V2', a1, a2⟩ := hex V1 V2 h5 hx
  obtain ⟨q, hq⟩ := c_kat_x (F := F) (V1 := V1) (r_cx_self a2)
  rw [a1, y_bd, hq, y_bd]
  rcases r_isRel_x (F := F) q with e | e
  · rw [e, y_bd, if_pos rfl, c_blame_x h5, y_bd]
    obtain ⟨V3, d1, d2⟩ := h55 V2' (r_cx_self a2)
    exact ⟨V3, d1, r_cx_trans a2 d2⟩
  · rw [e, y_bd, if_neg (by decide)]
    obtain ⟨V3, d1, d2⟩ := (r_cg_pass (F := F) (b := fun _ => 0) (L := 0) (N := 0)).2 V1 V2' h5 (r_cx_self a2)
    obtain ⟨V4, g1, g2⟩ := h55 V3 (r_cx_self d2)
    rw [d1, y_bd]
    exact ⟨V4, g1, r_cx_trans a2 (r_cx_trans d2 g2)⟩
theorem r_cg_cndl (hF : 1100 ≤ F) : ∀ (n M c : Nat), n + 2 ≤ M → c + n ≤ 1001 → r_cg b L N (fun i => 1001 ≤ n + i ∧ c ≤ i) (fun V1 V2 => fX2_checkCond_l4 F M V1 V2 1 (nI c)) (r_cnd (r_tK b L) n) := by
  intro n
  induction n with
  | zero =>
    intro M c hM hc
    obtain ⟨M, rfl⟩ : ∃ M', M = M' + 2 := ⟨M - 2, by omega⟩
    exact ⟨fun i V1 V2 hP h => absurd h.2.2.2.2.1.1 (by omega), fun V1 V2 h5 hx => c_cnd_x hF h5 hx M 1 (nI c)⟩
  | succ n ih =>
    intro M c hM hc
    obtain ⟨M, rfl⟩ : ∃ M', M = M' + 1 := ⟨M - 1, by omega⟩
    have hex := r_cg_sum (F := F) (b := b) (L := L) (N := N) hF
    have stop : ∀ V1 V2, fX2_checkCond_b74 F (fX2_checkCond_l4 F M) V1 V2 0 (nI c) = some (V1, V2) := by
      intro V1 V2
      obtain ⟨M, rfl⟩ : ∃ M', M = M' + 1 := ⟨M - 1, by omega⟩
      rw [fX2_checkCond_b74, fX2_checkCond_l4, if_pos rfl]
      split <;> rfl
    have hstop : r_cg b L N (fun i => (1001 ≤ n + i ∧ c + 1 ≤ i) ∧ ¬ r_tK b L i = 15) (fun V1 V2 => fX2_checkCond_b74 F (fX2_checkCond_l4 F M) V1 V2 0 (nI c)) .ok := by
      rw [show (fun V1 V2 => fX2_checkCond_b74 F (fX2_checkCond_l4 F M) V1 V2 0 (nI c)) = fun V1 V2 => some (V1, V2) from funext fun V1 => funext fun V2 => stop V1 V2]
      exact r_cg_ok
    have hgo : r_cg b L N (fun i => 1001 ≤ n + i ∧ c + 1 ≤ i) (fun V1 V2 => fX2_checkCond_b74 F (fX2_checkCond_l4 F M) V1 V2 1 (nI c)) (r_cnd (r_tK b L) n) := by
      rw [show (fun V1 V2 => fX2_checkCond_b74 F (fX2_checkCond_l4 F M) V1 V2 1 (nI c)) = fun V1 V2 => fX2_checkCond_l4 F M V1 V2 1 (nI (c + 1)) from funext fun V1 => funext fun V2 => by rw [fX2_checkCond_b74, nI_1]]
      exact ih M (c + 1) (by omega) (by omega)
    have hand : r_cg b L N (fun i => 1001 ≤ n + i ∧ c + 1 ≤ i) (fun V1 V2 => zbd (fX2_sees F V1 V2 (nI 15)) fun q3 => if q3 = 0 then fX2_checkCond_b74 F (fX2_checkCond_l4 F M) V1 V2 q3 (nI c) else zbd (fX2_pass F V1 V2) fun q6 => fX2_checkCond_b74 F (fX2_checkCond_l4 F M) q6.1 q6.2 q3 (nI c))
        (fun j => if r_tK b L j = 15 then r_b (r_pass j) (r_cnd (r_tK b L) n) else .ok j) := by
      refine r_cg_seesq (g1 := fun q V1 V2 => zbd (fX2_pass F V1 V2) fun q6 => fX2_checkCond_b74 F (fX2_checkCond_l4 F M) q6.1 q6.2 q (nI c)) (g2 := fun q V1 V2 => fX2_checkCond_b74 F (fX2_checkCond_l4 F M) V1 V2 q (nI c)) (by decide) (r_cg_s (r_cg_seqQ (r_cg_P (r_cg_pass (F := F)) fun i hi => ?_) hgo fun i j hi hj => ?_) fun i hi => ?_) (r_cg_s hstop fun i hi => ?_)
      · rw [hi.2]; exact ⟨r_trk_no (Or.inl (by omega)), by decide, by decide⟩
      · have := r_pass_lt hj; omega
      · rw [if_pos hi.2]
      · rw [if_neg hi.2]
    have h55 : r_cg b L N (fun i => 1001 ≤ n + i ∧ c + 1 ≤ i) (fun V1 V2 => fX2_checkCond_b55 F (fX2_checkCond_l4 F M) V1 V2 (nI c)) (fun j => r_b (r_exp (r_tK b L) j) fun j => if r_tK b L j = 15 then r_b (r_pass j) (r_cnd (r_tK b L) n) else .ok j) :=
      r_cg_seqQ (r_cg_P hex fun _ _ => trivial) hand fun i j hi hj => by have := r_exp_lt hj; omega
    have hrel : r_cg b L N (fun i => 1001 ≤ n + i ∧ c + 1 ≤ i) (fun V1 V2 => zbd (fX10_kindAt F V1 (zI V2 0 1)) fun q => (fun q V1 V2 => zbd (fX2_isRelation F q) fun q14 => if q14 = 0 then zbd (fX10_blame F V1 (1 : Int32) (zI V2 0 1)) (fun q17 => fX2_checkCond_b55 F (fX2_checkCond_l4 F M) q17 V2 (nI c)) else zbd (fX2_pass F V1 V2) fun q19 => fX2_checkCond_b55 F (fX2_checkCond_l4 F M) q19.1 q19.2 (nI c)) q V1 V2)
        (fun j => if 37 ≤ r_tK b L j ∧ r_tK b L j ≤ 40 then r_b (r_pass j) (fun j => r_b (r_exp (r_tK b L) j) fun j => if r_tK b L j = 15 then r_b (r_pass j) (r_cnd (r_tK b L) n) else .ok j) else .error (1, j)) := by
      refine r_cg_kind (fun k hk => ?_) (fun x V1 V2 h5 hx => ?_)
      · have er : fX2_isRelation F (nI k) = some (if 37 ≤ k ∧ k ≤ 40 then 1 else 0) := r_isRel ⟨k, by omega⟩
        rw [er]
        by_cases q : 37 ≤ k ∧ k ≤ 40
        · rw [if_pos q]
          refine r_cg_s (r_cg_seqQ (r_cg_P (r_cg_pass (F := F)) fun i hi => ?_) h55 fun i j hi hj => ?_) fun i hi => ?_
          · rw [hi.2]; exact ⟨r_trk_no (Or.inl (by omega)), by omega, by omega⟩
          · have := r_pass_lt hj; omega
          · rw [if_pos (by rw [hi.2]; exact q)]
        · rw [if_neg q]
          exact r_cg_errk (f := 1) (g := fun V1 V2 => fX2_checkCond_b55 F (fX2_checkCond_l4 F M) V1 V2 (nI c)) (Or.inl rfl) h55.2 fun i hi => by rw [if_neg (by rw [hi.2]; exact q)]
      · rcases r_isRel_x (F := F) x with e | e
        · rw [e, y_bd, if_pos rfl, c_blame_x h5, y_bd]
          exact h55.2 V1 V2 h5 hx
        · rw [e, y_bd, if_neg (by decide)]
          obtain ⟨V2', a1, a2⟩ := (r_cg_pass (F := F) (b := b) (L := L) (N := N)).2 V1 V2 h5 hx
          obtain ⟨V2'', d1, d2⟩ := h55.2 V1 V2' h5 (r_cx_self a2)
          rw [a1, y_bd]
          exact ⟨V2'', d1, r_cx_trans a2 d2⟩
    have all := r_cg_seqQ (r_cg_P (Q := fun i => 1001 ≤ n + 1 + i ∧ c ≤ i) hex fun _ _ => trivial) hrel fun i j hi hj => by have := r_exp_lt hj; omega
    have e : (fun V1 V2 => fX2_checkCond_l4 F (M + 1) V1 V2 1 (nI c)) = fun V1 V2 => zbd (fX2_checkSum F V1 V2) fun q10 => (fun V1 V2 => zbd (fX10_kindAt F V1 (zI V2 0 1)) fun q => (fun q V1 V2 => zbd (fX2_isRelation F q) fun q14 => if q14 = 0 then zbd (fX10_blame F V1 (1 : Int32) (zI V2 0 1)) (fun q17 => fX2_checkCond_b55 F (fX2_checkCond_l4 F M) q17 V2 (nI c)) else zbd (fX2_pass F V1 V2) fun q19 => fX2_checkCond_b55 F (fX2_checkCond_l4 F M) q19.1 q19.2 (nI c)) q V1 V2) q10.1 q10.2 := by
      funext V1 V2
      rw [fX2_checkCond_l4, if_neg (show ¬ (1000 : Int32) < nI c from nI_nlt (a := 1000) (by omega) (by omega)), if_neg (show ¬ (1 : Int32) = 0 by decide)]
    rw [e]
    refine r_cg_s all fun i hi => ?_
    rw [r_cnd, r_rel, r_b_assoc]
    congr 1
    funext j
    by_cases q : 37 ≤ r_tK b L j ∧ r_tK b L j ≤ 40
    · rw [if_pos q, if_pos q, r_b_assoc]
    · rw [if_neg q, if_neg q]; rfl
theorem r_cg_cnd (hF : 1100 ≤ F) : r_cg b L N (fun _ => True) (fX2_checkCond F) (r_cnd (r_tK b L) 1001) :=
  r_cg_P (r_cg_cndl (F := F) hF 1001 F 0 (by omega) (by omega)) fun i _ => ⟨by omega, by omega⟩
/-! ACTS -/
theorem r_cg_act (hF : 1100 ≤ F) : r_cg b L N (fun _ => True) (fX2_checkAct F) (r_act (r_tK b L)) := by
  have hex := r_cg_sum (F := F) (b := b) (L := L) (N := N) hF
  have h72 : r_cg b L N (fun _ => True) (fX2_checkAct_b72 F) (r_exp (r_tK b L)) := r_cg_some hex
  have ne : ∀ k m : Nat, k ≤ 42 → m ≤ 42 → ¬ k = m → ¬ nI k = nI m := fun k m hk hm h z => h ((nI_eq (by omega) (by omega)).mp z)
  have h60 : ∀ k, k ≤ 42 → r_cg b L N (fun _ => True) (fun V1 V2 => fX2_checkAct_b60 F V1 V2 (nI k)) (fun j => if k = 16 ∨ k = 17 then r_exp (r_tK b L) j else .ok j) := by
    intro k hk
    by_cases q : k = 16
    · subst q; exact r_cg_s h72 fun i _ => by rw [if_pos (Or.inl rfl)]
    by_cases q2 : k = 17
    · subst q2; exact r_cg_s h72 fun i _ => by rw [if_pos (Or.inr rfl)]
    have e : (fun V1 V2 => fX2_checkAct_b60 F V1 V2 (nI k)) = fun V1 V2 => some (V1, V2) := by
      funext V1 V2
      rw [fX2_checkAct_b60, if_neg (show ¬ nI k = (16 : Int32) from ne k 16 hk (by decide) q), if_neg (show ¬ nI k = (17 : Int32) from ne k 17 hk (by decide) q2)]
    rw [e]
    exact r_cg_s r_cg_ok fun i _ => by rw [if_neg (fun z => z.elim q q2)]
  have h54 : ∀ k, k ≤ 42 → r_cg b L N (fun _ => True) (fun V1 V2 => fX2_checkAct_b54 F V1 V2 (nI k)) (fun j => r_b (r_need (r_tK b L) 27 j) fun j => if k = 16 ∨ k = 17 then r_exp (r_tK b L) j else .ok j) := fun k hk => r_cg_seq r_n27 (h60 k hk)
  have hmid : ∀ k, k ≤ 42 → r_cg b L N (fun _ => True) (fun V1 V2 => if nI k = (17 : Int32) then fX2_checkAct_b54 F V1 V2 (nI k) else if nI k = (18 : Int32) then fX2_checkAct_b54 F V1 V2 (nI k) else if nI k = (20 : Int32) then fX2_checkAct_b54 F V1 V2 (nI k) else fX2_checkAct_b60 F V1 V2 (nI k))
      (fun j => r_b (if k = 17 ∨ k = 18 ∨ k = 20 then r_need (r_tK b L) 27 j else .ok j) fun j => if k = 16 ∨ k = 17 then r_exp (r_tK b L) j else .ok j) := by
    intro k hk
    by_cases q1 : k = 17
    · subst q1; exact h54 17 hk
    by_cases q2 : k = 18
    · subst q2; exact h54 18 hk
    by_cases q3 : k = 20
    · subst q3; exact h54 20 hk
    have e : (fun V1 V2 => if nI k = (17 : Int32) then fX2_checkAct_b54 F V1 V2 (nI k) else if nI k = (18 : Int32) then fX2_checkAct_b54 F V1 V2 (nI k) else if nI k = (20 : Int32) then fX2_checkAct_b54 F V1 V2 (nI k) else fX2_checkAct_b60 F V1 V2 (nI k)) = fun V1 V2 => fX2_checkAct_b60 F V1 V2 (nI k) := by
      funext V1 V2
      rw [if_neg (show ¬ nI k = (17 : Int32) from ne k 17 hk (by decide) q1), if_neg (show ¬ nI k = (18 : Int32) from ne k 18 hk (by decide) q2), if_neg (show ¬ nI k = (20 : Int32) from ne k 20 hk (by decide) q3)]
    rw [e]
    refine r_cg_s (h60 k hk) fun i _ => ?_
    rw [if_neg (show ¬ (k = 17 ∨ k = 18 ∨ k = 20) from fun z => by rcases z with z | z | z <;> contradiction)]; rfl
  have e : fX2_checkAct F = fun V1 V2 => zbd (fX10_kindAt F V1 (zI V2 0 1)) fun q => (fun q7 V1 V2 => zbd (fX2_isAct F q7) fun q9 => if q9 = 0 then zbd (fX10_blame F V1 (1 : Int32) (zI V2 0 1)) (fun q17 => some (q17, V2)) else zbd (fX2_pass F V1 V2) fun q12 => (fun V1 V2 => if q7 = (17 : Int32) then fX2_checkAct_b54 F V1 V2 q7 else if q7 = (18 : Int32) then fX2_checkAct_b54 F V1 V2 q7 else if q7 = (20 : Int32) then fX2_checkAct_b54 F V1 V2 q7 else fX2_checkAct_b60 F V1 V2 q7) q12.1 q12.2) q V1 V2 := rfl
  rw [e]
  refine r_cg_kind (fun k hk => ?_) (fun x V1 V2 h5 hx => ?_)
  · have er : fX2_isAct F (nI k) = some (if 16 ≤ k ∧ k ≤ 24 then 1 else 0) := r_isAct ⟨k, by omega⟩
    rw [er]
    by_cases q : 16 ≤ k ∧ k ≤ 24
    · rw [if_pos q]
      refine r_cg_s (r_cg_seq (r_cg_P (r_cg_pass (F := F)) fun i hi => ?_) (hmid k hk)) fun i hi => ?_
      · rw [hi.2]; exact ⟨r_trk_no (Or.inl (by omega)), by omega, by omega⟩
      · unfold r_act; rw [hi.2, if_pos q]
    · rw [if_neg q]
      exact r_cg_s (r_cg_err (F := F) (f := 1) (Or.inl rfl)) fun i hi => by unfold r_act; rw [if_neg (by rw [hi.2]; exact q)]
  · rcases r_isAct_x (F := F) x with e | e
    · rw [e, y_bd, if_pos rfl, c_blame_x h5, y_bd]
      exact ⟨V2, rfl, hx⟩
    · rw [e, y_bd, if_neg (by decide)]
      obtain ⟨V2', a1, a2⟩ := (r_cg_pass (F := F) (b := b) (L := L) (N := N)).2 V1 V2 h5 hx
      rw [a1, y_bd]
      have x72 : ∀ V2, r_cx V2 V2 → ∃ V2', fX2_checkAct_b72 F V1 V2 = some (V1, V2') ∧ r_cx V2 V2' := fun V2 h => h72.2 V1 V2 h5 h
      have x60 : ∀ V2, r_cx V2 V2 → ∃ V2', fX2_checkAct_b60 F V1 V2 x = some (V1, V2') ∧ r_cx V2 V2' := by
        intro V2 h
        rw [fX2_checkAct_b60]
        split
        · exact x72 V2 h
        split
        · exact x72 V2 h
        · exact ⟨V2, rfl, h⟩
      have x54 : ∀ V2, r_cx V2 V2 → ∃ V2', fX2_checkAct_b54 F V1 V2 x = some (V1, V2') ∧ r_cx V2 V2' := by
        intro V2 h
        obtain ⟨V3, d1, d2⟩ := (r_n27 (F := F) (b := b) (L := L) (N := N)).2 V1 V2 h5 h
        have d1 : fX2_need F V1 V2 27 = some (V1, V3) := d1
        obtain ⟨V4, g1, g2⟩ := x60 V3 (r_cx_self d2)
        rw [fX2_checkAct_b54, d1, y_bd]
        exact ⟨V4, g1, r_cx_trans d2 g2⟩
      have fin : ∃ V3, (if x = (17 : Int32) then fX2_checkAct_b54 F V1 V2' x else if x = (18 : Int32) then fX2_checkAct_b54 F V1 V2' x else if x = (20 : Int32) then fX2_checkAct_b54 F V1 V2' x else fX2_checkAct_b60 F V1 V2' x) = some (V1, V3) ∧ r_cx V2' V3 := by
        split
        · exact x54 V2' (r_cx_self a2)
        split
        · exact x54 V2' (r_cx_self a2)
        split
        · exact x54 V2' (r_cx_self a2)
        · exact x60 V2' (r_cx_self a2)
      obtain ⟨V3, g1, g2⟩ := fin
      exact ⟨V3, g1, r_cx_trans a2 g2⟩
theorem c_acts_x {V1 V2 : zV} (h5 : ¬ zI V1 0 5 = 0) (hx : r_cx V2 V2) (M : Nat) (x : Int32) : ∃ V2', fX2_checkRule_l68 F (M + 1) V1 V2 x = some (V1, V2') ∧ r_cx V2 V2' := by
  have h132 := (r_n29 (F := F) (b := fun _ => 0) (L := 0) (N := 0)).2 V1 V2 h5 hx
  rw [fX2_checkRule_l68, fX2_sees, if_neg h5, y_bd, if_pos rfl]
  split
  · exact h132
  · exact h132
def r_g12 (F M d : Nat) (V1 V2 : zV) : Option (zV × zV) := if nI d = (12 : Int32) then zbd (fX10_kindAt F V1 (zI V2 0 1)) (fun q => (fun q12 V1 V2 => zbd (fX2_isAct F q12) fun q14 => if q14 = 0 then fX2_checkRule_b122 F (fX2_checkRule_l68 F M) V1 V2 (nI d) else zbd (fX10_blame F V1 (2 : Int32) (zI V2 0 1)) fun q17 => fX2_checkRule_b122 F (fX2_checkRule_l68 F M) q17 V2 (nI d)) q V1 V2) else fX2_checkRule_b122 F (fX2_checkRule_l68 F M) V1 V2 (nI d)
theorem r_cg_actsl (hF : 1100 ≤ F) : ∀ (n M d : Nat), n + d = 14 → 2 ≤ n → n + 1 ≤ M → r_cg b L N (fun _ => True) (fun V1 V2 => fX2_checkRule_l68 F M V1 V2 (nI d)) (r_actsS (r_tK b L) n d) := by
  intro n
  induction n with
  | zero => intro M d hd h2; omega
  | succ n ih =>
    intro M d hd h2 hM
    obtain ⟨M, rfl⟩ : ∃ M', M = M' + 1 := ⟨M - 1, by omega⟩
    have hact := r_cg_act (F := F) (b := b) (L := L) (N := N) hF
    have flt : ∀ V1 V2, ¬ zI V1 0 5 = 0 → r_cx V2 V2 → ∃ V2', fX2_checkRule_b122 F (fX2_checkRule_l68 F M) V1 V2 (nI d) = some (V1, V2') ∧ r_cx V2 V2' := by
      intro V1 V2 h5 hx
      obtain ⟨M, rfl⟩ : ∃ M', M = M' + 1 := ⟨M - 1, by omega⟩
      obtain ⟨V2', a1, a2⟩ := hact.2 V1 V2 h5 hx
      obtain ⟨V3, d1, d2⟩ := c_acts_x (F := F) h5 (r_cx_self a2) M (nI d + 1)
      rw [fX2_checkRule_b122, a1, y_bd]
      exact ⟨V3, d1, r_cx_trans a2 d2⟩
    have e : (fun V1 V2 => fX2_checkRule_l68 F (M + 1) V1 V2 (nI d)) = fun V1 V2 => zbd (fX2_sees F V1 V2 (nI 31)) fun q6 => if q6 = 0 then fX2_checkRule_b132 F V1 V2 else zbd (fX2_pass F V1 V2) fun q9 => r_g12 F M d q9.1 q9.2 := by
      funext V1 V2
      rw [fX2_checkRule_l68, if_neg (show ¬ (12 : Int32) < nI d from nI_nlt (a := 12) (by omega) (by omega))]; rfl
    rw [e]
    refine r_cg_sees (k := 31) (by decide) (r_cg_s (r_cg_seq (s2 := fun j => if d = 12 then (if 16 ≤ r_tK b L j ∧ r_tK b L j ≤ 24 then .error (2, j) else .error (1, j)) else r_b (r_act (r_tK b L) j) (r_actsS (r_tK b L) n (d + 1))) (r_cg_P (r_cg_pass (F := F)) fun i hi => ?_) ?_) fun i hi => ?_) (r_cg_s (r_cg_P (r_n29 (F := F)) fun i _ => trivial) fun i hi => ?_)
    · rw [hi.2]; exact ⟨r_trk_no (Or.inl (by omega)), by decide, by decide⟩
    · by_cases qd : d = 12
      · subst qd
        have e2 : r_g12 F M 12 =
            fun V1 V2 => zbd (fX10_kindAt F V1 (zI V2 0 1)) (fun q => (fun q12 V1 V2 => zbd (fX2_isAct F q12) fun q14 => if q14 = 0 then fX2_checkRule_b122 F (fX2_checkRule_l68 F M) V1 V2 (nI 12) else zbd (fX10_blame F V1 (2 : Int32) (zI V2 0 1)) fun q17 => fX2_checkRule_b122 F (fX2_checkRule_l68 F M) q17 V2 (nI 12)) q V1 V2) := rfl
        rw [e2]
        refine r_cg_kind (fun k hk => ?_) (fun x V1 V2 h5 hx => ?_)
        · have er : fX2_isAct F (nI k) = some (if 16 ≤ k ∧ k ≤ 24 then 1 else 0) := r_isAct ⟨k, by omega⟩
          rw [er]
          by_cases q : 16 ≤ k ∧ k ≤ 24
          · rw [if_pos q]
            exact r_cg_errk (f := 2) (g := fun V1 V2 => fX2_checkRule_b122 F (fX2_checkRule_l68 F M) V1 V2 (nI 12)) (Or.inr rfl) flt fun i hi => by rw [if_pos rfl, if_pos (by rw [hi.2]; exact q)]
          · rw [if_neg q]
            refine ⟨fun i V1 V2 hP h => ?_, fun V1 V2 h5 hx => flt V1 V2 h5 hx⟩
            obtain ⟨V1', V2', a1, a2⟩ := hact.1 i V1 V2 trivial h
            have ea : r_act (r_tK b L) i = .error (1, i) := by unfold r_act; rw [if_neg (by rw [hP.2]; exact q)]
            rw [ea] at a2
            obtain ⟨rfl, hf, hi, hx⟩ := a2
            obtain ⟨M, rfl⟩ : ∃ M', M = M' + 1 := ⟨M - 1, by omega⟩
            obtain ⟨V3, d1, d2⟩ := c_acts_x (F := F) (r_blm_5 hf) (r_cx_self hx) M (nI 12 + 1)
            refine ⟨r_blm b L 1 i V1, V3, ?_, ?_⟩
            · show fX2_checkRule_b122 F (fX2_checkRule_l68 F (M + 1)) V1 V2 (nI 12) = _
              rw [fX2_checkRule_b122, a1, y_bd]
              exact d1
            · show r_co b L N V1 V2 (if 16 ≤ r_tK b L i ∧ r_tK b L i ≤ 24 then .error (2, i) else .error (1, i)) (r_blm b L 1 i V1) V3
              rw [if_neg (by rw [hP.2]; exact q)]
              exact ⟨rfl, hf, hi, r_cx_trans hx d2⟩
        · rcases r_isAct_x (F := F) x with e | e
          · rw [e, y_bd, if_pos rfl]; exact flt V1 V2 h5 hx
          · rw [e, y_bd, if_neg (by decide), c_blame_x h5, y_bd]; exact flt V1 V2 h5 hx
      · have e2 : r_g12 F M d =
            fun V1 V2 => zbd (fX2_checkAct F V1 V2) fun q3 => (fun V1 V2 => fX2_checkRule_l68 F M V1 V2 (nI (d + 1))) q3.1 q3.2 := by
          funext V1 V2
          rw [r_g12, if_neg (show ¬ nI d = (12 : Int32) from fun z => qd ((nI_eq (b := 12) (by omega) (by decide)).mp z)), fX2_checkRule_b122, nI_1]
        rw [e2]
        exact r_cg_s (r_cg_seq hact (ih M (d + 1) (by omega) (by omega) (by omega))) fun i hi => by rw [if_neg qd]
    · rw [r_actsS, if_pos hi.2]
    · rw [r_actsS, if_neg hi.2]
end
