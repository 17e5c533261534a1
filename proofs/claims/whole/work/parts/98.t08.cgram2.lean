/-! ===== the class's grammar: E's, CONDs, ACTS, RULES, MODES ===== -/
section
variable {F : Nat} {b : Nat → Nat} {L N : Nat}
theorem r_trk_no {k : Nat} (h : 12 ≤ k ∨ (8 ≤ k ∧ k ≤ 10)) : ¬ r_trk k := by unfold r_trk; omega
theorem r_cg_split {P Q : Nat → Prop} {g : zV → zV → Option (zV × zV)} {s : Nat → r_r} (h : r_cg b L N (fun i => P i ∧ Q i) g s) (h2 : r_cg b L N (fun i => P i ∧ ¬ Q i) g s) : r_cg b L N P g s :=
  ⟨fun i V1 V2 hP h' => (Classical.em (Q i)).elim (fun z => h.1 i V1 V2 ⟨hP, z⟩ h') (fun z => h2.1 i V1 V2 ⟨hP, z⟩ h'), h.2⟩
theorem r_b1 : (if true = true then (1 : Int32) else 0) = 1 := rfl
theorem r_b0 : (if false = true then (1 : Int32) else 0) = 0 := rfl
theorem r_sum_t {K : Nat → Nat} {n o : Nat} {m : Bool} {i : Nat} : r_sum K (n + 1) o true m i =
      (if K i = 32 then (if o < 6 then r_b (r_pass i) (r_sum K n (o + 1) true true) else .error (2, i))
       else if K i = 35 ∧ m = true then r_b (r_pass i) (r_sum K n o true false)
       else if K i = 28 ∨ K i = 27 ∨ K i = 25 ∨ K i = 26 then r_b (r_pass i) (r_sum K n o false m)
       else .error (1, i)) := rfl
theorem r_sum_f {K : Nat → Nat} {n o : Nat} {m : Bool} {i : Nat} : r_sum K (n + 1) o false m i = (if K i = 34 ∨ K i = 35 ∨ K i = 36 then r_b (r_pass i) (r_sum K n o true false)
    else if 0 < o then (if K i = 33 then r_b (r_pass i) (r_sum K n (o - 1) false m) else .error (1, i))
    else .ok i) := rfl
/-- an E's rest: so many rounds were gone -/
theorem r_cg_suml : ∀ (n M o : Nat) (w m : Bool) (c : Nat), n + 1 ≤ M → o ≤ 6 → c + n ≤ 1001 →
    r_cg b L N (fun i => 1001 ≤ n + i ∧ c ≤ i) (fun V1 V2 => fX2_checkSum_l9 F M V1 V2 (nI o) (if w = true then 1 else 0) (if m = true then 1 else 0) (nI c)) (r_sum (r_tK b L) n o w m) ∧
    ∀ (o x3 : Int32) (V1 V2 : zV), ¬ zI V1 0 5 = 0 → fX2_checkSum_l9 F M V1 V2 o (if w = true then 1 else 0) x3 (nI c) = some (V1, V2) := by
  intro n
  induction n with
  | zero =>
    intro M o w m c hM ho hc
    obtain ⟨M, rfl⟩ : ∃ M', M = M' + 1 := ⟨M - 1, by omega⟩
    have flt : ∀ (o x3 : Int32) (V1 V2 : zV), ¬ zI V1 0 5 = 0 → fX2_checkSum_l9 F (M + 1) V1 V2 o (if w = true then 1 else 0) x3 (nI c) = some (V1, V2) := by
      intro o x3 V1 V2 h5
      rw [fX2_checkSum_l9, if_neg h5]
      split <;> rfl
    refine ⟨⟨fun i V1 V2 hP h => absurd h.2.2.2.2.1.1 (by omega), fun V1 V2 h5 hx => ⟨V2, flt _ _ V1 V2 h5, hx⟩⟩, flt⟩
  | succ n ih =>
    intro M o w m c hM ho hc
    obtain ⟨M, rfl⟩ : ∃ M', M = M' + 1 := ⟨M - 1, by omega⟩
    have flt : ∀ (o x3 : Int32) (V1 V2 : zV), ¬ zI V1 0 5 = 0 → fX2_checkSum_l9 F (M + 1) V1 V2 o (if w = true then 1 else 0) x3 (nI c) = some (V1, V2) := by
      intro o x3 V1 V2 h5
      rw [fX2_checkSum_l9, if_neg h5]
      split <;> rfl
    refine ⟨?_, flt⟩
    -- a token goes by
    have go : ∀ (P : Nat → Prop) (o' : Nat) (w' m' : Bool), o' ≤ 6 → (∀ i, P i → 1001 ≤ n + 1 + i ∧ c ≤ i ∧ 12 ≤ r_tK b L i ∧ r_tK b L i ≤ 40) → r_cg b L N P (fun V1 V2 => fX2_checkSum_b204 F (fX2_checkSum_l9 F M) V1 V2 (nI o') (if w' = true then 1 else 0) (if m' = true then 1 else 0) (nI c)) (fun i => r_b (r_pass i) (r_sum (r_tK b L) n o' w' m')) := by
      intro P o' w' m' ho' hP
      obtain ⟨i1, i2⟩ := ih M o' w' m' (c + 1) (by omega) ho' (by omega)
      refine ⟨fun i V1 V2 hPi h => ?_, fun V1 V2 h5 hx => ?_⟩
      · obtain ⟨p1, p2, p3, p4⟩ := hP i hPi
        obtain ⟨V1', V2', a1, a2⟩ := (r_cg_pass (F := F) (b := b) (L := L) (N := N)).1 i V1 V2 ⟨r_trk_no (Or.inl p3), by omega, by omega⟩ h
        dsimp only
        rw [fX2_checkSum_b204, a1, y_bd, nI_1]
        unfold r_pass at a2 ⊢
        by_cases q : i < 1000
        · rw [if_pos q] at a2 ⊢
          obtain ⟨rfl, c1, c2⟩ := a2
          obtain ⟨V1'', V2'', d1, d2⟩ := i1.1 (i + 1) V1' V2' ⟨by omega, by omega⟩ c1
          refine ⟨V1'', V2'', d1, ?_⟩
          show r_co b L N V1' V2 (r_sum (r_tK b L) n o' w' m' (i + 1)) V1'' V2''
          cases hs2 : r_sum (r_tK b L) n o' w' m' (i + 1) with
          | ok j2 =>
            rw [hs2] at d2
            exact ⟨d2.1, d2.2.1, r_fq_trans c2 d2.2.2⟩
          | error e =>
            rw [hs2] at d2
            exact ⟨d2.1, d2.2.1, d2.2.2.1, d2.2.2.2.1, r_fq_trans c2 d2.2.2.2.2⟩
        · rw [if_neg q] at a2 ⊢
          obtain ⟨rfl, hf, hi, hx⟩ := a2
          exact ⟨_, V2', i2 _ _ _ V2' (r_blm_5 hf), rfl, hf, hi, hx⟩
      · obtain ⟨V2', a1, a2⟩ := (r_cg_pass (F := F) (b := b) (L := L) (N := N)).2 V1 V2 h5 hx
        dsimp only
        rw [fX2_checkSum_b204, a1, y_bd, nI_1]
        exact ⟨V2', i2 _ _ V1 V2' h5, a2⟩
    refine ⟨fun i V1 V2 hP h => ?_, fun V1 V2 h5 hx => ⟨V2, flt _ _ V1 V2 h5, hx⟩⟩
    have hi := h.2.2.2.2.1
    have hi1 := hi.1
    have h5 := h.2.2.1
    have kle := r_tK_le (b := b) (L := L) i
    dsimp only
    rw [fX2_checkSum_l9, if_neg (show ¬ (1000 : Int32) < nI c from nI_nlt (a := 1000) (by omega) (by omega)), if_pos h5, c_kat h, y_bd]
    have ne : ∀ a : Nat, a ≤ 42 → ¬ r_tK b L i = a → ¬ nI (r_tK b L i) = nI a := fun a ha z q => z ((nI_eq (by omega) (by omega)).mp q)
    have err : ∀ (f : Nat) (o' : Int32) (w' : Bool) (x3 : Int32), (f = 1 ∨ f = 2) → ∃ V1' V2', (zbd (fX10_blame F V1 (nI f) (zI V2 0 1)) fun q => fX2_checkSum_b204 F (fX2_checkSum_l9 F M) q V2 o' (if w' = true then 1 else 0) x3 (nI c)) = some (V1', V2') ∧ r_co b L N V1 V2 (.error (f, i)) V1' V2' := by
      intro f o' w' x3 hf
      rw [c_blame h, y_bd]
      obtain ⟨V2', a1, a2⟩ := (r_cg_pass (F := F) (b := b) (L := L) (N := N)).2 (r_blm b L f i V1) V2 (r_blm_5 hf) ⟨⟨i, hi1, h.2.2.2.1⟩, r_fq_refl⟩
      rw [fX2_checkSum_b204, a1, y_bd, nI_1]
      exact ⟨_, V2', (ih M 0 w' true (c + 1) (by omega) (by omega) (by omega)).2 _ _ _ V2' (r_blm_5 hf), rfl, hf, hi, a2⟩
    cases w with
    | true =>
      rw [r_sum_t, r_b1, if_neg (show ¬ (1 : Int32) = 0 by decide)]
      by_cases q32 : r_tK b L i = 32
      · rw [if_pos (show nI (r_tK b L i) = (32 : Int32) by rw [q32]; rfl), if_pos q32, nI_1]
        by_cases qo : o < 6
        · rw [if_pos (show nI (o + 1) ≤ (6 : Int32) from nI_le (b := 6) (by omega) (by decide)), if_pos qo, fX2_checkSum_b72]
          exact (go (fun j => j = i) (o + 1) true true (by omega) (fun j hj => by subst hj; omega)).1 i V1 V2 rfl h
        · rw [if_neg (show ¬ nI (o + 1) ≤ (6 : Int32) from nI_ge (a := 6) (by omega) (by omega)), if_neg qo]
          exact err 2 (nI (o + 1)) true 1 (Or.inr rfl)
      rw [if_neg (show ¬ nI (r_tK b L i) = (32 : Int32) from ne 32 (by omega) q32), if_neg q32, fX2_checkSum_b77, if_neg (show ¬ (1 : Int32) = 0 by decide)]
      -- no minus
      have nom : ∃ V1' V2', fX2_checkSum_b97 F (fX2_checkSum_l9 F M) V1 V2 (nI o) 1 (if m = true then 1 else 0) (nI c) (nI (r_tK b L i)) = some (V1', V2') ∧ r_co b L N V1 V2 (if r_tK b L i = 28 ∨ r_tK b L i = 27 ∨ r_tK b L i = 25 ∨ r_tK b L i = 26 then r_b (r_pass i) (r_sum (r_tK b L) n o false m) else .error (1, i)) V1' V2' := by
        have unit : (r_tK b L i = 28 ∨ r_tK b L i = 27 ∨ r_tK b L i = 25 ∨ r_tK b L i = 26) → ∃ V1' V2', fX2_checkSum_b141 F (fX2_checkSum_l9 F M) V1 V2 (nI o) (if m = true then 1 else 0) (nI c) = some (V1', V2') ∧ r_co b L N V1 V2 (if r_tK b L i = 28 ∨ r_tK b L i = 27 ∨ r_tK b L i = 25 ∨ r_tK b L i = 26 then r_b (r_pass i) (r_sum (r_tK b L) n o false m) else .error (1, i)) V1' V2' := by
          intro z
          rw [if_pos z, fX2_checkSum_b141]
          exact (go (fun j => j = i) o false m ho (fun j hj => by subst hj; omega)).1 i V1 V2 rfl h
        rw [fX2_checkSum_b97, if_neg (show ¬ (1 : Int32) = 0 by decide)]
        by_cases q28 : r_tK b L i = 28
        · rw [if_pos (show nI (r_tK b L i) = (28 : Int32) by rw [q28]; rfl)]; exact unit (Or.inl q28)
        rw [if_neg (show ¬ nI (r_tK b L i) = (28 : Int32) from ne 28 (by omega) q28)]
        by_cases q27 : r_tK b L i = 27
        · rw [if_pos (show nI (r_tK b L i) = (27 : Int32) by rw [q27]; rfl)]; exact unit (Or.inr (Or.inl q27))
        rw [if_neg (show ¬ nI (r_tK b L i) = (27 : Int32) from ne 27 (by omega) q27)]
        by_cases q25 : r_tK b L i = 25
        · rw [if_pos (show nI (r_tK b L i) = (25 : Int32) by rw [q25]; rfl)]; exact unit (Or.inr (Or.inr (Or.inl q25)))
        rw [if_neg (show ¬ nI (r_tK b L i) = (25 : Int32) from ne 25 (by omega) q25)]
        by_cases q26 : r_tK b L i = 26
        · rw [if_pos (show nI (r_tK b L i) = (26 : Int32) by rw [q26]; rfl)]; exact unit (Or.inr (Or.inr (Or.inr q26)))
        rw [if_neg (show ¬ nI (r_tK b L i) = (26 : Int32) from ne 26 (by omega) q26), if_neg (show ¬ (r_tK b L i = 28 ∨ r_tK b L i = 27 ∨ r_tK b L i = 25 ∨ r_tK b L i = 26) from fun z => by rcases z with z | z | z | z <;> contradiction)]
        exact err 1 (nI o) false (if m = true then 1 else 0) (Or.inl rfl)
      by_cases q35 : r_tK b L i = 35
      · rw [if_pos (show nI (r_tK b L i) = (35 : Int32) by rw [q35]; rfl)]
        cases m with
        | true =>
          rw [r_b1, if_neg (show ¬ (1 : Int32) = 0 by decide), if_pos ⟨q35, rfl⟩]
          exact (go (fun j => j = i) o true false ho (fun j hj => by subst hj; omega)).1 i V1 V2 rfl h
        | false =>
          rw [r_b0, if_pos rfl, if_neg (show ¬ (r_tK b L i = 35 ∧ false = true) from fun z => by cases z.2)]
          rw [r_b0] at nom
          exact nom
      · rw [if_neg (show ¬ nI (r_tK b L i) = (35 : Int32) from ne 35 (by omega) q35), if_neg (show ¬ (r_tK b L i = 35 ∧ m = true) from fun z => q35 z.1)]
        exact nom
    | false =>
      rw [r_sum_f, r_b0, if_pos rfl, fX2_checkSum_b77, if_pos rfl, fX2_checkSum_b97, if_pos rfl]
      have sg : (r_tK b L i = 34 ∨ r_tK b L i = 35 ∨ r_tK b L i = 36) → ∃ V1' V2', fX2_checkSum_b167 F (fX2_checkSum_l9 F M) V1 V2 (nI o) (nI c) = some (V1', V2') ∧ r_co b L N V1 V2 (if r_tK b L i = 34 ∨ r_tK b L i = 35 ∨ r_tK b L i = 36 then r_b (r_pass i) (r_sum (r_tK b L) n o true false)
          else if 0 < o then (if r_tK b L i = 33 then r_b (r_pass i) (r_sum (r_tK b L) n (o - 1) false m) else .error (1, i)) else .ok i) V1' V2' := by
        intro z
        rw [if_pos z, fX2_checkSum_b167]
        exact (go (fun j => j = i) o true false ho (fun j hj => by subst hj; omega)).1 i V1 V2 rfl h
      by_cases q34 : r_tK b L i = 34
      · rw [if_pos (show nI (r_tK b L i) = (34 : Int32) by rw [q34]; rfl)]; exact sg (Or.inl q34)
      rw [if_neg (show ¬ nI (r_tK b L i) = (34 : Int32) from ne 34 (by omega) q34)]
      by_cases q35 : r_tK b L i = 35
      · rw [if_pos (show nI (r_tK b L i) = (35 : Int32) by rw [q35]; rfl)]; exact sg (Or.inr (Or.inl q35))
      rw [if_neg (show ¬ nI (r_tK b L i) = (35 : Int32) from ne 35 (by omega) q35)]
      by_cases q36 : r_tK b L i = 36
      · rw [if_pos (show nI (r_tK b L i) = (36 : Int32) by rw [q36]; rfl)]; exact sg (Or.inr (Or.inr q36))
      rw [if_neg (show ¬ nI (r_tK b L i) = (36 : Int32) from ne 36 (by omega) q36), if_neg (show ¬ (r_tK b L i = 34 ∨ r_tK b L i = 35 ∨ r_tK b L i = 36) from fun z => by rcases z with z | z | z <;> contradiction)]
      by_cases qo : 0 < o
      · rw [if_neg (nI_nle qo (by omega)), if_pos qo]
        obtain ⟨o', rfl⟩ : ∃ o', o = o' + 1 := ⟨o - 1, by omega⟩
        by_cases q33 : r_tK b L i = 33
        · rw [if_pos (show nI (r_tK b L i) = (33 : Int32) by rw [q33]; rfl), if_pos q33, fX2_checkSum_b197, pk_m1]
          exact (go (fun j => j = i) o' false m (by omega) (fun j hj => by subst hj; omega)).1 i V1 V2 rfl h
        · rw [if_neg (show ¬ nI (r_tK b L i) = (33 : Int32) from ne 33 (by omega) q33), if_neg q33]
          exact err 1 (nI (o' + 1) + (-1)) false (if m = true then 1 else 0) (Or.inl rfl)
      · have : o = 0 := by omega
        subst this
        rw [if_pos (show nI 0 ≤ (0 : Int32) by decide), if_neg (show ¬ 0 < 0 by omega)]
        exact ⟨V1, V2, rfl, rfl, h, r_fq_refl⟩
theorem r_cg_sum (hF : 1100 ≤ F) : r_cg b L N (fun _ => True) (fX2_checkSum F) (r_exp (r_tK b L)) := by
  obtain ⟨h, -⟩ := r_cg_suml (F := F) (b := b) (L := L) (N := N) 1001 F 0 true true 0 (by omega) (by omega) (by omega)
  exact r_cg_P h fun i _ => ⟨by omega, by omega⟩
end
