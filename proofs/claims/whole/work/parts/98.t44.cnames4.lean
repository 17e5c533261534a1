/-! ===== the class's names, all ===== -/
section
variable {F : Nat} {b : Nat → Nat} {L N E : Nat} {V1 V3 : zV}
theorem c_gather (hF : 1100 ≤ F) (hg : r_gf (r_tK b L) E) (h : r_nv b L N E 0 V1) : ∃ V3', fX5_gatherModes F V1 V3 = some V3' ∧ r_nd b L E V3' ∧ r_fq [] [] [5] V3 V3' := by
  obtain ⟨⟨g1, g2, g3⟩, g4, g5, -⟩ := id hg
  have hN := h.1
  have hs : ∀ V1, zI V1 0 4 = nI N → fX10_size F V1 = some (nI N) := fun V1 z => by unfold fX10_size; rw [z]
  have h4 := h.2.1
  have e12 : r_cn (r_tK b L) 7 E ≤ 12 := g5 7 (by omega)
  have fill : ∀ (n k M : Nat) (W : zV), k + n = 12 → n + 1 ≤ M → ∃ W', fX5_gatherModes_l64 F M V1 W (nI k) = some W' ∧ (∀ x, x < k → zB W' 5 x = zB W 5 x) ∧ (∀ x, k ≤ x → x < 12 → zB W' 5 x = 0) ∧ r_fq [] [] [5] W W' := by
    intro n
    induction n with
    | zero =>
      intro k M W hk hM
      obtain ⟨M, rfl⟩ : ∃ M', M = M' + 1 := ⟨M - 1, by omega⟩
      rw [fX5_gatherModes_l64, if_pos (show (12 : Int32) ≤ nI k from nI_le (a := 12) (by omega) (by omega))]
      exact ⟨W, rfl, fun _ _ => rfl, fun x h1 h2 => by omega, r_fq_refl⟩
    | succ n ih =>
      intro k M W hk hM
      obtain ⟨M, rfl⟩ : ∃ M', M = M' + 1 := ⟨M - 1, by omega⟩
      rw [fX5_gatherModes_l64, if_neg (show ¬ (12 : Int32) ≤ nI k from nI_ge (b := 12) (by omega) (by decide)), y_ck (by omega) (by decide), y_let, nI_clamp (by omega), nI_1]
      obtain ⟨W', a1, a2, a3, a4⟩ := ih (k + 1) M (zsB W 5 (vp_updL (zB W 5) k 0)) (by omega) (by omega)
      refine ⟨W', a1, fun x hx => ?_, fun x h1 h2 => ?_, r_fq_trans (r_fq_B r_fq_refl (by decide)) a4⟩
      · rw [a2 x (by omega)]
        show vp_updL (zB W 5) k 0 x = _
        rw [y_updL, if_neg (by omega)]
      · by_cases q : x = k
        · subst q
          rw [a2 x (by omega)]
          show vp_updL (zB W 5) x 0 x = _
          rw [y_updL, if_pos rfl]
        · exact a3 x (by omega) h2
  have go : ∀ (n i M : Nat) (W : zV), i + n = N → n + 1 ≤ M → (∀ a, a < i → a < E → r_tK b L a = 7 → zB W 5 (r_cn (r_tK b L) 7 a) = lN (r_pk 256 id 0 (r_tW b L (a + 1)))) →
      ∃ W', fX5_gatherModes_l4 F M V1 W (nI (r_cn (r_tK b L) 7 (min i E))) (nI i) = some W' ∧ r_nd b L E W' ∧ r_fq [] [] [5] W W' := by
    have last : ∀ (W : zV), (∀ a, a < E → r_tK b L a = 7 → zB W 5 (r_cn (r_tK b L) 7 a) = lN (r_pk 256 id 0 (r_tW b L (a + 1)))) → ∃ W', fX5_gatherModes_b62 F V1 W (nI (r_cn (r_tK b L) 7 E)) = some W' ∧ r_nd b L E W' ∧ r_fq [] [] [5] W W' := by
      intro W hW
      obtain ⟨W', a1, a2, a3, a4⟩ := fill (12 - r_cn (r_tK b L) 7 E) (r_cn (r_tK b L) 7 E) F W (by omega) (by omega)
      refine ⟨W', a1, ⟨fun a h1 h2 => ?_, fun k h1 h2 => a3 k h1 h2⟩, a4⟩
      rw [a2 _ (r_cn_lt h1 h2)]
      exact hW a h1 h2
    intro n
    induction n with
    | zero =>
      intro i M W hi hM hW
      obtain ⟨M, rfl⟩ : ∃ M', M = M' + 1 := ⟨M - 1, by omega⟩
      have em : min i E = E := by omega
      rw [fX5_gatherModes_l4, hs V1 h4, y_bd, if_pos (nI_le (by omega) (by omega)), em]
      exact last W fun a h1 h2 => hW a (by omega) h1 h2
    | succ n ih =>
      intro i M W hi hM hW
      obtain ⟨M, rfl⟩ : ∃ M', M = M' + 1 := ⟨M - 1, by omega⟩
      have em : min i E = i := by omega
      have next := ih (i + 1) M
      have hcn := r_cn_le (K := r_tK b L) (w := 7) i
      have hmono := r_cn_mono (K := r_tK b L) (w := 7) (i := i) (j := E) (by omega)
      rw [fX5_gatherModes_l4, hs V1 h4, y_bd, if_neg (nI_ge (show i < N by omega) (by omega)), em]
      by_cases q12 : 12 ≤ r_cn (r_tK b L) 7 i
      · rw [if_pos (show (12 : Int32) ≤ nI (r_cn (r_tK b L) 7 i) from nI_le (a := 12) q12 (by omega))]
        have ee : r_cn (r_tK b L) 7 i = r_cn (r_tK b L) 7 E := by omega
        rw [ee]
        exact last W fun a h1 h2 => hW a (by
          by_cases z : a < i
          · exact z
          · have := r_cn_mono (K := r_tK b L) (w := 7) (i := i) (j := a) (by omega)
            have := r_cn_lt (j := E) h1 h2
            omega) h1 h2
      rw [if_neg (show ¬ (12 : Int32) ≤ nI (r_cn (r_tK b L) 7 i) from nI_ge (b := 12) (by omega) (by decide)), c_kat2 h (by omega), y_bd]
      by_cases q7 : r_tK b L i = 7
      · have hiE : i < E := by
          by_cases z : i < E
          · exact z
          · have : i = E := by omega
            subst this; omega
        have k27 := g4 i hiE (by omega)
        rw [if_pos (show nI (r_tK b L i) = (7 : Int32) by rw [q7]; rfl), nI_1, c_namej h (by omega) (by omega) k27.1, y_bd, y_ck (by omega) (by decide), y_let, nI_clamp (by omega), nI_1, fX5_gatherModes_b56, nI_1]
        have e1 : r_cn (r_tK b L) 7 i + 1 = r_cn (r_tK b L) 7 (min (i + 1) E) := by
          rw [show min (i + 1) E = i + 1 by omega, r_cn_succ q7]
        rw [e1]
        obtain ⟨W', a1, a2, a3⟩ := next (zsB W 5 (vp_updL (zB W 5) (r_cn (r_tK b L) 7 i) (lN (r_pk 256 id 0 (r_tW b L (i + 1)))))) (by omega) (by omega) fun a h1 h2 h3 => by
          show vp_updL (zB W 5) _ _ _ = _
          rw [y_updL]
          by_cases z : a = i
          · subst z; rw [if_pos rfl]
          · have := r_cn_lt (i := a) (j := i) (by omega) h3
            rw [if_neg (by omega)]
            exact hW a (by omega) h2 h3
        exact ⟨W', a1, a2, r_fq_trans (r_fq_B r_fq_refl (by decide)) a3⟩
      · have kle := r_tK_le (b := b) (L := L) i
        rw [if_neg (show ¬ nI (r_tK b L i) = (7 : Int32) from fun z => q7 ((nI_eq (b := 7) (by omega) (by decide)).mp z)), fX5_gatherModes_b56, nI_1]
        have e1 : r_cn (r_tK b L) 7 i = r_cn (r_tK b L) 7 (min (i + 1) E) := by
          by_cases z : i < E
          · rw [show min (i + 1) E = i + 1 by omega, r_cn_same q7]
          · rw [show min (i + 1) E = i by omega]
        rw [e1]
        exact next W (by omega) (by omega) fun a h1 h2 h3 => by
          by_cases z : a = i
          · subst z; exact absurd h3 q7
          · exact hW a (by omega) h2 h3
  obtain ⟨W', a1, a2, a3⟩ := go N 0 F V3 (by omega) (by omega) fun a h1 => by omega
  rw [show min 0 E = 0 by omega] at a1
  exact ⟨W', a1, a2, a3⟩
/-- what the names come to -/
def r_nr2 (b : Nat → Nat) (L N E : Nat) (B : Nat → Int64) (V1' : zV) : Prop := zB V1' 1 = B ∧ (
  (r_nv b L N E N V1' ∧ zI V1' 0 5 = 0 ∧ zI V1' 0 6 = -1 ∧ ∀ j k, ¬ r_sP b L E (r_cn (r_tK b L) 18 E) j k) ∨
  ∃ j k, r_sP b L E (r_cn (r_tK b L) 18 E) j k ∧ j ≤ 1000 ∧ (∀ j' k', r_sP b L E (r_cn (r_tK b L) 18 E) j' k' → j < j' ∨ (j = j' ∧ k ≤ k')) ∧ 1 ≤ k ∧ k ≤ 5 ∧ zI V1' 0 5 = nI k ∧ zI V1' 0 6 = nI (r_tS b L j))
theorem r_sP_lt (hg : r_gf (r_tK b L) E) (hnm : ∀ m, m < E → r_tK b L m = 18 → m + 1 < E) {j k : Nat} (h : r_sP b L E (r_cn (r_tK b L) 18 E) j k) : j < E ∧ (r_tK b L j = 27 ∨ (r_tK b L j = 28 ∧ r_tK b L (j - 1) = 9 ∧ r_tV b L j = 0 ∧ k = 5) ∨ r_tK b L (j - 1) = 18) := by
  rcases h with ⟨h1, ⟨h2, -⟩ | ⟨h2, h3, h4, h5⟩⟩ | ⟨⟨m, m1, m2, m3, m4, rfl⟩, -⟩
  · exact ⟨h1, Or.inl h2⟩
  · exact ⟨h1, Or.inr (Or.inl ⟨h3, h4, h5, h2⟩)⟩
  · exact ⟨hnm m m1 m2, Or.inr (Or.inr (by rw [Nat.add_sub_cancel]; exact m2))⟩
theorem c_names (hF : 1100 ≤ F) (hgr : r_gram (r_tK b L) = .ok E) (hin : r_in (r_tK b L) E) (ht : r_tn b L N) (hc : r_ct b L N V1) (h5 : zI V1 0 5 = 0) (h6 : zI V1 0 6 = -1) : ∃ V1' V3', fX5_check F V1 V3 = some (V1', V3') ∧ r_nr2 b L N E (zB V1 1) V1' := by
  have hg := r_gram_gf hgr
  have hnm : ∀ m, m < E → r_tK b L m = 18 → r_tK b L (m + 1) = 27 ∧ m + 1 < E := fun m h1 h2 => r_acts_nm hgr h1 (by omega)
  obtain ⟨⟨g1, g2, g3⟩, g4, g5, -⟩ := id hg
  obtain ⟨t1, t2, t3, t4⟩ := ht
  have hN : N = E + 1 := by
    have hle : N ≤ E + 1 := by
      by_cases z : N ≤ E + 1
      · exact z
      · exact absurd g1 (t3 E (by omega)).1
    by_cases z : N = E + 1
    · exact z
    · have := hin.2 (N - 1) (by omega)
      rcases t4 with t4 | t4 | t4
      · omega
      · exact absurd t4 this.1
      · exact absurd t4 this.2
  have nv0 : r_nv b L N E 0 V1 := ⟨⟨hN, g2⟩, hc.1, fun j hj => ⟨(hc.2 j hj).1, (hc.2 j hj).2.1⟩, fun j hj => by rw [if_neg (by omega)]; exact (hc.2 j hj).2.2⟩
  have hs : ∀ V1, zI V1 0 4 = nI N → fX10_size F V1 = some (nI N) := fun V1 z => by unfold fX10_size; rw [z]
  have loop : ∀ (n i M : Nat) (W1 W3 : zV), i + n = N → n + 2 ≤ M → r_nv b L N E i W1 → r_n3 b L E i W3 → zI W1 0 5 = 0 → zI W1 0 6 = -1 → zB W1 1 = zB V1 1 → (∀ j, j < i → ∀ k, ¬ r_sP b L E (r_cn (r_tK b L) 18 E) j k) →
      ∃ V1' V3', fX5_check_l35 F M W1 W3 (nI i) = some (V1', V3') ∧ r_nr2 b L N E (zB V1 1) V1' := by
    intro n
    induction n with
    | zero =>
      intro i M W1 W3 hi hM h h3 e5 e6 eB hno
      obtain ⟨M, rfl⟩ : ∃ M', M = M' + 1 := ⟨M - 1, by omega⟩
      have : i = N := by omega
      subst this
      rw [fX5_check_l35, hs W1 h.2.1, y_bd, if_pos (nI_le (Nat.le_refl _) (by omega))]
      refine ⟨W1, W3, rfl, eB, Or.inl ⟨h, e5, e6, fun j k z => ?_⟩⟩
      have := (r_sP_lt hg (fun m m1 m2 => (hnm m m1 m2).2) z).1
      exact hno j (by omega) k z
    | succ n ih =>
      intro i M W1 W3 hi hM h h3 e5 e6 eB hno
      obtain ⟨M, rfl⟩ : ∃ M', M = M' + 1 := ⟨M - 1, by omega⟩
      have kle := r_tK_le (b := b) (L := L) i
      rw [fX5_check_l35, hs W1 h.2.1, y_bd, if_neg (nI_ge (show i < N by omega) (by omega)), if_pos e5, c_kat2 h (by omega), y_bd]
      have stop : ∀ (A1 A3 : zV) (k : Nat), zB A1 1 = zB V1 1 → zI A1 0 4 = nI N → r_sP b L E (r_cn (r_tK b L) 18 E) i k → (∀ k', r_sP b L E (r_cn (r_tK b L) 18 E) i k' → k ≤ k') → 1 ≤ k → k ≤ 5 → zI A1 0 5 = nI k → zI A1 0 6 = nI (r_tS b L i) → ∃ V1' V3', fX5_check_b127 F (fX5_check_l35 F M) A1 A3 (nI i) = some (V1', V3') ∧ r_nr2 b L N E (zB V1 1) V1' := by
        intro A1 A3 k aB a4 sp le k1 k5 a5 a6
        obtain ⟨M, rfl⟩ : ∃ M', M = M' + 1 := ⟨M - 1, by omega⟩
        have fin : r_nr2 b L N E (zB V1 1) A1 := ⟨aB, Or.inr ⟨i, k, sp, by omega, fun j' k' z => ?_, k1, k5, a5, a6⟩⟩
        · rw [fX5_check_b127, nI_1, fX5_check_l35, hs A1 a4, y_bd]
          split
          · exact ⟨A1, A3, rfl, fin⟩
          · rw [if_neg (by rw [a5]; exact nI_ne0 (by omega) (by omega))]
            exact ⟨A1, A3, rfl, fin⟩
        · rcases Nat.lt_trichotomy i j' with y | y | y
          · exact Or.inl y
          · subst y; exact Or.inr ⟨rfl, le k' z⟩
          · exact absurd z (hno j' y k')
      have go : ∀ (A1 A3 : zV), r_nv b L N E (i + 1) A1 → r_n3 b L E (i + 1) A3 → zI A1 0 5 = 0 → zI A1 0 6 = -1 → zB A1 1 = zB V1 1 → (∀ k, ¬ r_sP b L E (r_cn (r_tK b L) 18 E) i k) → ∃ V1' V3', fX5_check_b127 F (fX5_check_l35 F M) A1 A3 (nI i) = some (V1', V3') ∧ r_nr2 b L N E (zB V1 1) V1' := by
        intro A1 A3 a1 a3 a5 a6 aB no
        rw [fX5_check_b127, nI_1]
        refine ih (i + 1) M A1 A3 (by omega) (by omega) a1 a3 a5 a6 aB fun j hj k => ?_
        by_cases q : j = i
        · subst q; exact no k
        · exact hno j (by omega) k
      by_cases q27 : r_tK b L i = 27
      · have hiE : i < E := by
          by_cases z : i < E
          · exact z
          · have : i = E := by omega
            subst this; omega
        rw [if_pos (show nI (r_tK b L i) = (27 : Int32) by rw [q27]; rfl)]
        rcases c_checkName (F := F) (by omega) hg hiE q27 h h3 e5 e6 hno with ⟨A1, A3, r1, r2, r3, r4, r5, rB, r6⟩ | ⟨A1, A3, k, r1, r2, r3, r4, r5, r6, r7, rB, r8⟩
        · rw [r1, y_bd]
          exact go A1 A3 r2 r3 r4 r5 (rB.trans eB) r6
        · rw [r1, y_bd]
          exact stop A1 A3 k (rB.trans eB) r8 r2 r3 r4 r5 r6 r7
      rw [if_neg (show ¬ nI (r_tK b L i) = (27 : Int32) from fun z => q27 ((nI_eq (b := 27) (by omega) (by decide)).mp z)), y_bd]
      have no18 : ¬ r_tK b L (i - 1) = 18 ∨ i = 0 := by
        by_cases z : i = 0
        · exact Or.inr z
        · refine Or.inl fun y => ?_
          have := (hnm (i - 1) (by omega) y).1
          rw [show i - 1 + 1 = i by omega] at this
          exact q27 this
      have nv1 : r_nv b L N E (i + 1) W1 := by
        obtain ⟨a1, a2, a3, a4⟩ := h
        refine ⟨a1, a2, a3, fun j hj => ?_⟩
        rw [a4 j hj]
        by_cases z : j = i
        · subst z; rw [if_neg (by omega), if_neg (fun z => q27 z.2)]
        · by_cases y : j < i ∧ r_tK b L j = 27
          · rw [if_pos y, if_pos ⟨by omega, y.2⟩]
          · rw [if_neg y, if_neg (fun z => y ⟨by omega, z.2⟩)]
      have n31 : r_n3 b L E (i + 1) W3 := r_n3_same hg (by omega) h3 fun z => q27 z.1
      have plain : ¬ (r_tK b L i = 28 ∧ r_tK b L (i - 1) = 9 ∧ r_tV b L i = 0) → ∃ V1' V3', fX5_check_b127 F (fX5_check_l35 F M) W1 W3 (nI i) = some (V1', V3') ∧ r_nr2 b L N E (zB V1 1) V1' := fun hz => go W1 W3 nv1 n31 e5 e6 eB fun k z => by
        rcases (r_sP_lt hg (fun m m1 m2 => (hnm m m1 m2).2) z).2 with y | y | y
        · exact q27 y
        · exact hz ⟨y.1, y.2.1, y.2.2.1⟩
        · rcases no18 with w | w
          · exact w y
          · subst w
            rw [show 0 - 1 = 0 from rfl] at y
            omega
      by_cases q28 : r_tK b L i = 28
      rotate_left
      · rw [if_neg (show ¬ nI (r_tK b L i) = (28 : Int32) from fun z => q28 ((nI_eq (b := 28) (by omega) (by decide)).mp z))]
        exact plain fun z => q28 z.1
      have hi0 : 0 < i := by
        by_cases z : i = 0
        · subst z; omega
        · omega
      have hiE : i < E := by
        by_cases z : i < E
        · exact z
        · have : i = E := by omega
          subst this; omega
      have kle1 := r_tK_le (b := b) (L := L) (i - 1)
      rw [if_pos (show nI (r_tK b L i) = (28 : Int32) by rw [q28]; rfl), show (1 : Int32) = nI 1 from rfl, pk_sub (by omega), c_kat2 h (by omega), y_bd]
      by_cases q9 : r_tK b L (i - 1) = 9
      rotate_left
      · rw [if_neg (show ¬ nI (r_tK b L (i - 1)) = (9 : Int32) from fun z => q9 ((nI_eq (b := 9) (by omega) (by decide)).mp z))]
        exact plain fun z => q9 z.2.1
      have hV := r_tV_lt q28
      have ev : zB W1 4 i = lN (r_tV b L i) := by
        rw [h.2.2.2 i (by omega), if_neg (by omega)]
        unfold r_tv
        rw [if_neg q27, if_pos q28]
      rw [if_pos (show nI (r_tK b L (i - 1)) = (9 : Int32) by rw [q9]; rfl), c_valj h (by omega), y_bd, ev]
      by_cases q0 : r_tV b L i = 0
      · rw [if_pos ((lg_cmp_eq _ _).mpr (by rw [q0]; rfl)), show (5 : Int32) = nI 5 from rfl, c_blm h e5 (by omega), y_bd]
        refine stop _ W3 5 eB h.2.1 (Or.inl ⟨hiE, Or.inr ⟨rfl, q28, q9, q0⟩⟩) (fun k z => ?_) (by decide) (by decide) rfl rfl
        rcases (r_sP_lt hg (fun m m1 m2 => (hnm m m1 m2).2) z).2 with y | y | y
        · exact absurd y q27
        · omega
        · omega
      · rw [if_neg (fun z => q0 ?_)]
        · exact plain fun z => q0 z.2.2
        · have z : lN (r_tV b L i) = 0 := (lg_cmp_eq _ _).mp z
          exact (pk_lEQ (b := 0) (by omega) (by decide)).mp z
  have zero : ∀ (n k M : Nat) (W3 : zV), k + n = 27 → n + 1 ≤ M → zI W3 0 4 = 0 → (∀ x, x < k → zA W3 4 x = 0) → ∃ V1' V3', fX5_check_l7 F M V1 W3 (nI k) = some (V1', V3') ∧ r_nr2 b L N E (zB V1 1) V1' := by
    intro n
    induction n with
    | zero =>
      intro k M W3 hk hM e4 hz
      obtain ⟨M, rfl⟩ : ∃ M', M = M' + 1 := ⟨M - 1, by omega⟩
      obtain ⟨W', a1, a2, a3⟩ := c_gather (F := F) (V3 := W3) hF hg nv0
      rw [fX5_check_l7, if_pos (show (27 : Int32) ≤ nI k from nI_le (a := 27) (by omega) (by omega)), a1, y_bd]
      refine loop N 0 F V1 W' (by omega) (by omega) nv0 ⟨⟨(a3.1 0 4 (by simp)).trans e4, Nat.zero_le _, fun k e he => by cases he⟩, a2, fun k' hk' => ?_⟩ h5 h6 rfl fun j hj => by omega
      rw [a3.2.1 4 (by simp), hz k' (by omega)]; rfl
    | succ n ih =>
      intro k M W3 hk hM e4 hz
      obtain ⟨M, rfl⟩ : ∃ M', M = M' + 1 := ⟨M - 1, by omega⟩
      rw [fX5_check_l7, if_neg (show ¬ (27 : Int32) ≤ nI k from nI_ge (b := 27) (by omega) (by decide)), y_ck (by omega) (by decide), y_let, nI_clamp (by omega), nI_1]
      refine ih (k + 1) M _ (by omega) (by omega) e4 fun x hx => ?_
      show upd (zA W3 4) k 0 x = _
      rw [y_upd]
      by_cases q : x = k
      · subst q; rw [if_pos rfl]
      · rw [if_neg q]; exact hz x (by omega)
  unfold fX5_check
  rw [y_let]
  exact zero 27 0 F (zsI V3 0 4 0) rfl (by omega) rfl fun x hx => by omega
end
