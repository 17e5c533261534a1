/-! ===== the class takes the parts: order, loops ===== -/
section
variable {F : Nat} {b : Nat → Nat} {L N E : Nat} {V1 T : zV}
theorem c_putord1 {x : Nat} (hx : x < 12) {k2 : zV → Int32 → Option zV} : ∀ (p M : Nat) (T : zV), p < 12 → p + 1 ≤ M → (∀ i, i < p → ∃ m, m < 12 ∧ zA T 12 i = nI m) →
    ∃ T', fX9_putInOrder_l24 F k2 M T (nI x) (nI p) = k2 T' (nI (x + 1)) ∧ zA T' 12 = y_i1 (zA T 10) x p (zA T 12) ∧ y_fr [] [12] T T' := by
  intro p
  induction p with
  | zero =>
    intro M T hp hM h
    obtain ⟨M, rfl⟩ : ∃ M', M = M' + 1 := ⟨M - 1, by omega⟩
    rw [fX9_putInOrder_l24, if_pos (show nI 0 ≤ (0 : Int32) by decide), fX9_putInOrder_b70, y_ck (by omega) (by decide), y_let, nI_1, nI_clamp (by omega)]
    exact ⟨_, rfl, rfl, y_fr_A y_fr_refl (by decide)⟩
  | succ p ih =>
    intro M T hp hM h
    obtain ⟨M, rfl⟩ : ∃ M', M = M' + 1 := ⟨M - 1, by omega⟩
    obtain ⟨m, hm, em⟩ := h p (by omega)
    rw [fX9_putInOrder_l24, if_neg (show ¬ nI (p + 1) ≤ (0 : Int32) from nI_nle (by omega) (by omega)), nI_pred]
    simp only [y_ck (show p < 12 by omega) (show 12 < 2 ^ 31 by decide), y_ck (show p + 1 < 12 by omega) (show 12 < 2 ^ 31 by decide), y_ck (show x < 12 by omega) (show 12 < 2 ^ 31 by decide), nI_clamp (show p < 2 ^ 31 by omega), em, y_ck (show m < 12 by omega) (show 12 < 2 ^ 31 by decide), nI_clamp (show m < 2 ^ 31 by omega), nI_clamp (show x < 2 ^ 31 by omega)]
    have e2 : (zA T 12 p).toNatClampNeg = m := by rw [em, nI_clamp (by omega)]
    rw [y_i1, e2]
    by_cases q : zA T 10 x ≤ zA T 10 m
    · rw [if_pos q, if_pos q, fX9_putInOrder_b70, y_ck (by omega) (by decide), y_let, nI_1, nI_clamp (by omega)]
      exact ⟨_, rfl, rfl, y_fr_A y_fr_refl (by decide)⟩
    · rw [if_neg q, if_neg q, y_let, pk_m1, nI_clamp (show p + 1 < 2 ^ 31 by omega)]
      have f1 : y_fr [] [12] T (zsA T 12 (upd (zA T 12) (p + 1) (nI m))) := y_fr_A y_fr_refl (by decide)
      obtain ⟨T2, a1, a2, a3⟩ := ih M (zsA T 12 (upd (zA T 12) (p + 1) (nI m))) (by omega) (by omega) (fun i hi => by
        show ∃ m', m' < 12 ∧ upd (zA T 12) (p + 1) (nI m) i = nI m'
        rw [y_upd, if_neg (by omega)]; exact h i (by omega))
      refine ⟨T2, a1, ?_, y_fr_trans f1 a3⟩
      rw [a2, em]; rfl
theorem c_putord (hF : 100 ≤ F) {c : Nat} (hc : c ≤ 12) (h1 : zA T 1 7 = nI c) : ∃ T', fX9_putInOrder F T = some T' ∧ (∀ i, i < c → zA T' 12 i = y_is (zA T 10) c (fun _ => 0) i) ∧ y_fr [] [12] T T' := by
  have go : ∀ (n x M : Nat) (W : zV), x + n = c → n + 1 ≤ M → y_fr [] [12] T W → zA W 12 = y_is (zA T 10) x (zA T 12) → ∃ T', fX9_putInOrder_l2 F M W (nI x) = some T' ∧ zA T' 12 = y_is (zA T 10) c (zA T 12) ∧ y_fr [] [12] T T' := by
    intro n
    induction n with
    | zero =>
      intro x M W hx hM f h
      obtain ⟨M, rfl⟩ : ∃ M', M = M' + 1 := ⟨M - 1, by omega⟩
      have e : x = c := by omega
      subst e
      have e7 : zA W 1 (7 : Int32).toNatClampNeg = nI x := by
        rw [f.2.1 1 (by decide)]; exact h1
      rw [fX9_putInOrder_l2, e7, if_pos (nI_le (Nat.le_refl _) (by omega))]
      exact ⟨W, rfl, h, f⟩
    | succ n ih =>
      intro x M W hx hM f h
      obtain ⟨M, rfl⟩ : ∃ M', M = M' + 1 := ⟨M - 1, by omega⟩
      have e7 : zA W 1 (7 : Int32).toNatClampNeg = nI c := by
        rw [f.2.1 1 (by decide)]; exact h1
      rw [fX9_putInOrder_l2, e7, if_neg (nI_ge (show x < c by omega) (by omega)), if_neg (show ¬ (12 : Int32) ≤ nI x from nI_ge (b := 12) (by omega) (by decide))]
      obtain ⟨T1, a1, a2, a3⟩ := c_putord1 (F := F) (k2 := fX9_putInOrder_l2 F M) (show x < 12 by omega) x F W (by omega) (by omega) (fun i hi => by
        rw [h]
        obtain ⟨m, h1, h2⟩ := y_is_ok (rk := zA T 10) (f := zA T 12) x i hi
        exact ⟨m, by omega, h2⟩)
      rw [f.2.1 10 (by decide)] at a2
      obtain ⟨T2, d1, d2, d3⟩ := ih (x + 1) M T1 (by omega) (by omega) (y_fr_trans f a3) (by rw [a2, h]; rfl)
      exact ⟨T2, a1.trans d1, d2, d3⟩
  obtain ⟨T', a1, a2, a3⟩ := go c 0 F T (by omega) (by omega) y_fr_refl rfl
  exact ⟨T', a1, fun i hi => by rw [a2]; exact y_is_eq c i hi, a3⟩
/-- all parts are taken, then the rules -/
theorem c_parts (hF : 1100 ≤ F) (hgr : r_gram (r_tK b L) = .ok E) (h : r_nv b L N E N V1) : ∃ T1, fX9_takeFrom F V1 T = (zbd (fX6_takeFrom F V1 T1) fun q6 => some q6) ∧ r_c4 b L E E T1 ∧ ∀ i, i < r_cn (r_tK b L) 7 E → zA T1 12 i = y_is (zA T1 10) (r_cn (r_tK b L) 7 E) (fun _ => 0) i := by
  have hg := r_gram_gf hgr
  have hN := h.1
  have h4 := h.2.1
  have hs : fX10_size F V1 = some (nI N) := by unfold fX10_size; rw [h4]
  have c12 : r_cn (r_tK b L) 7 E ≤ 12 := hg.2.2.1 7 (by decide)
  have loop : ∀ (n i M : Nat) (W : zV), i + n = N → n + 1 ≤ M → r_c4 b L E (min i E) W → ∃ T1, fX9_takeFrom_l50 F M V1 W (nI i) = (zbd (fX6_takeFrom F V1 T1) fun q6 => some q6) ∧ r_c4 b L E E T1 ∧ ∀ i, i < r_cn (r_tK b L) 7 E → zA T1 12 i = y_is (zA T1 10) (r_cn (r_tK b L) 7 E) (fun _ => 0) i := by
    intro n
    induction n with
    | zero =>
      intro i M W hi hM hc
      obtain ⟨M, rfl⟩ : ∃ M', M = M' + 1 := ⟨M - 1, by omega⟩
      rw [show min i E = E by omega] at hc
      obtain ⟨T1, a1, a2, a3⟩ := c_putord (F := F) (T := W) (by omega) c12 (hc.1 7 (by decide))
      rw [fX9_takeFrom_l50, hs, y_bd, if_pos (nI_le (by omega) (by omega)), a1, y_bd]
      have row : ∀ r, ¬ r = 12 → zA T1 r = zA W r := fun r hr => a3.2.1 r (by simpa using hr)
      refine ⟨T1, rfl, ⟨fun k hk => by rw [row 1 (by decide)]; exact hc.1 k hk, fun r hr j hj hk => ?_, fun c d h1 h2 => ?_⟩, fun i hi => by rw [row 10 (by decide)]; exact a2 i hi⟩
      · rw [row r ((show ∀ r ∈ [2, 3, 5, 6, 7, 8, 9, 10, 11], ¬ r = 12 by decide) r hr)]; exact hc.2.1 r hr j hj hk
      · unfold y_apart
        rw [row 4 (by decide)]; exact hc.2.2 c d h1 h2
    | succ n ih =>
      intro i M W hi hM hc
      obtain ⟨M, rfl⟩ : ∃ M', M = M' + 1 := ⟨M - 1, by omega⟩
      have kle := r_tK_le (b := b) (L := L) i
      rw [fX9_takeFrom_l50, hs, y_bd, if_neg (nI_ge (show i < N by omega) (by omega)), c_kat2 h (by omega), y_bd]
      have skip : ¬ r_tK b L i ≤ 7 → r_c4 b L E (min (i + 1) E) W := by
        intro hk
        by_cases q : i < E
        · rw [show min (i + 1) E = i + 1 by omega]
          rw [show min i E = i by omega] at hc
          obtain ⟨g1, g2, g3⟩ := hc
          refine ⟨fun w hw => by rw [g1 w hw, r_cn_same (by omega)], fun r hr j hj hkj => ?_, fun c d hc hd => (g3 c d hc hd).trans ⟨fun ⟨j, j1, j2⟩ => ⟨j, by omega, j2⟩, fun ⟨j, j1, j2⟩ => ⟨j, ?_, j2⟩⟩⟩
          · have : j ≠ i := by
              rintro rfl
              have := (show ∀ r ∈ [2, 3, 5, 6, 7, 8, 9, 10, 11], r_k4 r ≤ 7 by decide) r hr
              omega
            exact g2 r hr j (by omega) hkj
          · have : j ≠ i := by
              rintro rfl
              omega
            omega
        · rw [show min (i + 1) E = min i E by omega]; exact hc
      by_cases q7 : 7 < r_tK b L i
      · rw [if_pos (show (7 : Int32) < nI (r_tK b L i) from nI_lt (a := 7) q7 (by omega)), fX9_takeFrom_b100, nI_1]
        exact ih (i + 1) M W (by omega) (by omega) (skip (by omega))
      have hiE : i < E := by
        by_cases z : i < E
        · exact z
        · have : i = E := by omega
          have := hg.1.1
          subst i; omega
      rw [show min i E = i by omega] at hc
      have g := hg.2.1 i hiE (by omega)
      have room : fX9_roomFor F (nI (r_tK b L i)) = some (nI (r_room (r_tK b L i))) := by
        have : r_tK b L i = 0 ∨ r_tK b L i = 1 ∨ r_tK b L i = 2 ∨ r_tK b L i = 3 ∨ r_tK b L i = 4 ∨ r_tK b L i = 5 ∨ r_tK b L i = 6 ∨ r_tK b L i = 7 := by omega
        rcases this with z | z | z | z | z | z | z | z <;> rw [z] <;> rfl
      have rle : r_room (r_tK b L i) ≤ 24 := (show ∀ k : Fin 43, r_room k.1 ≤ 24 by decide) ⟨r_tK b L i, by omega⟩
      obtain ⟨q, a1, a2, a3⟩ := c_takeOne (F := F) hgr h hiE rfl (by omega) hc
      have hcn := hc.1 (r_tK b L i) (by omega)
      rw [if_neg (show ¬ (7 : Int32) < nI (r_tK b L i) from nI_nlt (a := 7) (by omega) (by omega)), y_ck (by omega) (by decide), room, y_bd]
      simp only [y_ck (show r_tK b L i < 27 by omega) (show 27 < 2 ^ 31 by decide), nI_clamp (show r_tK b L i < 2 ^ 31 by omega), hcn]
      rw [if_neg (nI_ge g.2.2 (by omega)), a1, y_bd, y_let, fX9_takeFrom_b100, nI_1]
      have e1 : zA q 1 (r_tK b L i) + 1 = nI (r_cn (r_tK b L) (r_tK b L i) i + 1) := by rw [a2, hcn, nI_1]
      rw [e1]
      refine ih (i + 1) M _ (by omega) (by omega) ?_
      rw [show min (i + 1) E = i + 1 by omega]
      exact a3
  have l26 : ∀ (n k M : Nat) (W : zV), k + n = 8 → n + 1 ≤ M → (∀ w, w ≤ 7 → zA W 1 w = 0) → (∀ c, c < k → zA W 4 c = 0) → ∃ T1, fX9_takeFrom_l26 F M V1 W (nI k) = (zbd (fX6_takeFrom F V1 T1) fun q6 => some q6) ∧ r_c4 b L E E T1 ∧ ∀ i, i < r_cn (r_tK b L) 7 E → zA T1 12 i = y_is (zA T1 10) (r_cn (r_tK b L) 7 E) (fun _ => 0) i := by
    intro n
    induction n with
    | zero =>
      intro k M W hk hM h1 hz
      obtain ⟨M, rfl⟩ : ∃ M', M = M' + 1 := ⟨M - 1, by omega⟩
      rw [fX9_takeFrom_l26, if_pos (show (8 : Int32) ≤ nI k from nI_le (a := 8) (by omega) (by omega))]
      refine loop N 0 F W (by omega) (by omega) ?_
      rw [show min 0 E = 0 by omega]
      refine ⟨fun w hw => by rw [h1 w hw]; rfl, fun r _ j hj => by omega, fun c d hc hd => ⟨fun z => ?_, fun ⟨j, j1, _⟩ => by omega⟩⟩
      unfold y_apart at z
      rw [hz c (by omega)] at z
      simp at z
    | succ n ih =>
      intro k M W hk hM h1 hz
      obtain ⟨M, rfl⟩ : ∃ M', M = M' + 1 := ⟨M - 1, by omega⟩
      rw [fX9_takeFrom_l26, if_neg (show ¬ (8 : Int32) ≤ nI k from nI_ge (b := 8) (by omega) (by decide)), y_ck (by omega) (by decide), y_let, nI_clamp (by omega), nI_1]
      refine ih (k + 1) M _ (by omega) (by omega) h1 fun c hc => ?_
      show upd (zA W 4) k 0 c = _
      rw [y_upd]
      by_cases q : c = k
      · subst q; rw [if_pos rfl]
      · rw [if_neg q]; exact hz c (by omega)
  have l2 : ∀ (n k M : Nat) (W : zV), k + n = 27 → n + 1 ≤ M → (∀ w, w < k → zA W 1 w = 0) → ∃ T1, fX9_takeFrom_l2 F M V1 W (nI k) = (zbd (fX6_takeFrom F V1 T1) fun q6 => some q6) ∧ r_c4 b L E E T1 ∧ ∀ i, i < r_cn (r_tK b L) 7 E → zA T1 12 i = y_is (zA T1 10) (r_cn (r_tK b L) 7 E) (fun _ => 0) i := by
    intro n
    induction n with
    | zero =>
      intro k M W hk hM h1
      obtain ⟨M, rfl⟩ : ∃ M', M = M' + 1 := ⟨M - 1, by omega⟩
      rw [fX9_takeFrom_l2, if_pos (show (27 : Int32) ≤ nI k from nI_le (a := 27) (by omega) (by omega))]
      exact l26 8 0 F W (by omega) (by omega) (fun w hw => h1 w (by omega)) fun c hc => by omega
    | succ n ih =>
      intro k M W hk hM h1
      obtain ⟨M, rfl⟩ : ∃ M', M = M' + 1 := ⟨M - 1, by omega⟩
      rw [fX9_takeFrom_l2, if_neg (show ¬ (27 : Int32) ≤ nI k from nI_ge (b := 27) (by omega) (by decide)), y_ck (by omega) (by decide), y_let, nI_clamp (by omega), nI_1]
      refine ih (k + 1) M _ (by omega) (by omega) fun w hw => ?_
      show upd (zA W 1) k 0 w = _
      rw [y_upd]
      by_cases q : w = k
      · subst q; rw [if_pos rfl]
      · rw [if_neg q]; exact h1 w (by omega)
  unfold fX9_takeFrom
  exact l2 27 0 F T (by omega) (by omega) fun w hw => by omega
end
