/-! ===== the class takes the rules, all ===== -/
section
variable {F : Nat} {b : Nat → Nat} {L N E : Nat} {V1 T : zV}
theorem c_num0 (h : r_nv b L N E N V1) {j : Nat} (hj : j ≤ 2000) : ∃ q, fX10_numberAt F V1 (nI j) = some q := by
  by_cases q : j < N
  · exact ⟨_, c_num h q⟩
  · unfold fX10_numberAt fX10_valueAt
    rw [h.2.1, if_neg (nI_pos (by omega)), if_pos (nI_le (by omega) (by omega))]
    exact ⟨_, rfl⟩
/-- rows of a token -/
theorem r_c6_tok {sz i : Nat} {T' : zV} (h : r_c6 b L E sz i T) (h2 : zI T' 13 2 = zI T 13 2) (h14 : zA T' 14 = upd (zA T 14) i (nI (r_tK b L i))) (h15 : zA T' 15 = upd (zA T 15) i (nI (r_nu b L E i))) : zI T' 13 2 = nI sz ∧ ∀ j, j < i + 1 → zA T' 14 j = nI (r_tK b L j) ∧ zA T' 15 j = nI (r_nu b L E j) := by
  refine ⟨h2.trans h.1.1, fun j hj => ?_⟩
  rw [h14, h15, y_upd, y_upd]
  by_cases q : j = i
  · subst q; rw [if_pos rfl, if_pos rfl]; exact ⟨rfl, rfl⟩
  · rw [if_neg q, if_neg q]; exact h.2.1 j (by omega)
/-- a lead, by tokens -/
def r_ldw (b : Nat → Nat) (L E i f t : Nat) : Prop := ∃ m j, m < i ∧ j < m ∧ r_tK b L j = 11 ∧ r_cn (r_tK b L) 11 m = r_cn (r_tK b L) 11 j + 1 ∧ (r_tK b L (j + 1) = 12 ∨ r_tK b L (j + 1) = 13) ∧
  f = 2 * (r_cn (r_tK b L) 7 m - 1) + (if r_tK b L (j + 1) = 12 then 0 else 1) ∧ ((r_tK b L m = 18 ∧ t = 2 * r_nu b L E (m + 1)) ∨ (r_tK b L m = 19 ∧ t = 2 * (r_cn (r_tK b L) 7 m - 1) + 1))
def r_l6 (b : Nat → Nat) (L E i : Nat) (T : zV) : Prop := ∀ f t, f < 24 → t < 24 → ((zA T 22 f).toBitVec.getLsbD t = true ↔ r_ldw b L E i f t)
theorem r_ldw_up {i f t : Nat} (h : r_ldw b L E i f t) : r_ldw b L E (i + 1) f t := by
  obtain ⟨m, j, h1, h2⟩ := h
  exact ⟨m, j, by omega, h2⟩
theorem r_l6_same {i : Nat} {T' : zV} (h : r_l6 b L E i T) (hk : ¬ r_tK b L i = 18 ∧ ¬ r_tK b L i = 19) (e : zA T' 22 = zA T 22) : r_l6 b L E (i + 1) T' := by
  intro f t hf ht
  rw [e, h f t hf ht]
  refine ⟨r_ldw_up, fun z => ?_⟩
  obtain ⟨m, j, h1, h2, h3, h4, h5, h6, h7⟩ := z
  have : ¬ m = i := fun q => by subst q; omega
  exact ⟨m, j, by omega, h2, h3, h4, h5, h6, h7⟩
theorem r_bit24 : ∀ d e : Fin 24, ((1 : Int32) <<< (nI d.1 &&& 31)).toBitVec.getLsbD e.1 = decide (e.1 = d.1) := by decide +kernel
theorem r_ald_bit {row : Nat → Int32} {f0 t0 f t : Nat} (h0 : f0 < 24) (h1 : t0 < 2 ^ 31) (ht : t < 24) : (r_ald row (nI f0) (nI t0) f).toBitVec.getLsbD t = true ↔ (row f).toBitVec.getLsbD t = true ∨ (f = f0 ∧ t = t0) := by
  unfold r_ald
  rw [if_neg (nI_pos (by omega)), if_neg (show ¬ (24 : Int32) ≤ nI f0 from nI_ge (b := 24) h0 (by decide)), if_neg (nI_pos h1)]
  by_cases q : t0 < 24
  · rw [if_neg (show ¬ (24 : Int32) ≤ nI t0 from nI_ge (b := 24) q (by decide)), nI_clamp (by omega), y_upd]
    by_cases z : f = f0
    · subst z
      rw [if_pos rfl, Int32.toBitVec_or, BitVec.getLsbD_or, r_bit24 ⟨t0, q⟩ ⟨t, ht⟩, Bool.or_eq_true, decide_eq_true_eq]
      constructor
      · rintro (y | y)
        · exact Or.inl y
        · exact Or.inr ⟨rfl, y⟩
      · rintro (y | y)
        · exact Or.inl y
        · exact Or.inr y.2
    · rw [if_neg z]
      exact ⟨Or.inl, fun y => y.elim id fun x => absurd x.1 z⟩
  · rw [if_pos (show (24 : Int32) ≤ nI t0 from nI_le (a := 24) (by omega) h1)]
    exact ⟨Or.inl, fun y => y.elim id fun x => by omega⟩
theorem r_node_nI {m : Nat} {e : Int32} (hm : m < 2 ^ 28) : r_node (nI m) e = nI (2 * m + (if e = -1 then 0 else 1)) := by
  unfold r_node
  split
  · rw [show (2 : Int32) = nI 2 from rfl, pk_mul]; rfl
  · rw [show (2 : Int32) = nI 2 from rfl, pk_mul, nI_1]
theorem r_nu_27 {j : Nat} (hj : j ≤ 2000) (hE : E ≤ 1000) (hk : r_tK b L j = 27) : r_nu b L E j ≤ 2000 := by
  unfold r_nu
  have g : ∀ i s t, (r_lk (r_tl b L i) s t).getD 0 ≤ i := by
    intro i s t
    cases h : r_lk (r_tl b L i) s t with
    | none => exact Nat.zero_le _
    | some c =>
      have := r_lk_lt i h
      have := r_cn_le (K := r_tK b L) (w := t) i
      show c ≤ i
      omega
  rw [if_pos hk]
  split
  · have := r_cn_le (K := r_tK b L) (w := r_tK b L (j - 1)) (j - 1); omega
  · split
    · have := g E (r_tW b L j) 7; omega
    · have := g j (r_tW b L j) (r_ro (r_tK b L) j); omega
/-- a token of a rule, its leads -/
theorem r_l6_into (hgr : r_gram (r_tK b L) = .ok E) (h : r_nv b L N E N V1) {i j : Nat} {T' : zV} {x : Int32} (hi : i < E) (hj : j < i) (hkj : r_tK b L j = 11) (hcj : r_cn (r_tK b L) 11 i = r_cn (r_tK b L) 11 j + 1) (h7 : r_cn (r_tK b L) 7 i - 1 < 12) (hx : fX10_numberAt F V1 (nI (i + 1)) = some x)
    (hl : r_l6 b L E i T) (h17 : zA T 17 (r_cn (r_tK b L) 11 j) = r_e5 b L E j) (e : zA T' 22 = r_l22 (zA T 17 (r_cn (r_tK b L) 11 j)) (r_tK b L i) x (nI (r_cn (r_tK b L) 7 i - 1)) (zA T 22)) : r_l6 b L E (i + 1) T' := by
  have hE := h.1
  rw [h17] at e
  obtain ⟨c, s, sh, hs⟩ := r_rule_at hgr (show j < E by omega) hkj
  have hev := sh.2.1
  have e27 : 0 ≤ r_e5 b L E j ↔ r_tK b L (j + 1) = 27 := by
    unfold r_e5
    constructor
    · intro z
      by_cases q : r_tK b L (j + 1) = 27
      · exact q
      · rw [if_neg q] at z
        exfalso
        split at z
        · exact absurd z (by decide)
        · exact absurd z (by decide)
    · intro q
      rw [if_pos q]
      have := r_nu_27 (b := b) (L := L) (E := E) (j := j + 1) (by omega) hE.2 q
      exact Int32.not_lt.mp (nI_pos (by omega))
  have eev : ¬ r_tK b L (j + 1) = 27 → ((if r_e5 b L E j = -1 then 0 else 1) : Nat) = if r_tK b L (j + 1) = 12 then 0 else 1 := by
    intro q
    unfold r_e5
    rw [if_neg q]
    by_cases z : r_tK b L (j + 1) = 12
    · rw [if_pos z, if_pos rfl, if_pos z]
    · rw [if_neg z, if_neg (by decide), if_neg z]
  have one : ∀ {m j' : Nat}, m = i → j' < m → r_tK b L j' = 11 → r_cn (r_tK b L) 11 m = r_cn (r_tK b L) 11 j' + 1 → j' = j := by
    intro m j' hm hj' hk' hc'
    subst hm
    rcases Nat.lt_trichotomy j j' with y | y | y
    · have := r_cn_lt (K := r_tK b L) y hkj; omega
    · exact y.symm
    · have := r_cn_lt (K := r_tK b L) y hk'; omega
  by_cases k1 : ¬ r_tK b L i = 18 ∧ ¬ r_tK b L i = 19
  · refine r_l6_same hl k1 ?_
    rw [e]
    unfold r_l22
    split
    · rfl
    · rw [if_neg k1.1, if_neg k1.2]
  by_cases q27 : r_tK b L (j + 1) = 27
  · intro f t hf ht
    rw [e]
    unfold r_l22
    rw [if_pos (e27.mpr q27), hl f t hf ht]
    refine ⟨r_ldw_up, fun z => ?_⟩
    obtain ⟨m, j', h1, h2, h3, h4, h5, h6⟩ := z
    by_cases q : m = i
    · have := one q h2 h3 h4
      subst this
      omega
    · exact ⟨m, j', by omega, h2, h3, h4, h5, h6⟩
  have hev2 : r_tK b L (j + 1) = 12 ∨ r_tK b L (j + 1) = 13 := by omega
  have key : ∀ f0 t0 : Nat, f0 < 24 → t0 < 2 ^ 31 → f0 = 2 * (r_cn (r_tK b L) 7 i - 1) + (if r_tK b L (j + 1) = 12 then 0 else 1) → ((r_tK b L i = 18 ∧ t0 = 2 * r_nu b L E (i + 1)) ∨ (r_tK b L i = 19 ∧ t0 = 2 * (r_cn (r_tK b L) 7 i - 1) + 1)) → zA T' 22 = r_ald (zA T 22) (nI f0) (nI t0) → r_l6 b L E (i + 1) T' := by
    intro f0 t0 hf0 ht0 ef et e22 f t hf ht
    rw [e22, r_ald_bit hf0 ht0 ht, hl f t hf ht]
    constructor
    · rintro (z | ⟨rfl, rfl⟩)
      · exact r_ldw_up z
      · exact ⟨i, j, by omega, hj, hkj, hcj, hev2, ef, et⟩
    · rintro ⟨m, j', h1, h2, h3, h4, h5, h6, h7⟩
      by_cases q : m = i
      · have := one q h2 h3 h4
        subst this
        subst q
        refine Or.inr ⟨h6.trans ef.symm, ?_⟩
        omega
      · exact Or.inl ⟨m, j', by omega, h2, h3, h4, h5, h6, h7⟩
  have f24 : 2 * (r_cn (r_tK b L) 7 i - 1) + (if r_tK b L (j + 1) = 12 then 0 else 1) < 24 := by split <;> omega
  have en : r_node (nI (r_cn (r_tK b L) 7 i - 1)) (r_e5 b L E j) = nI (2 * (r_cn (r_tK b L) 7 i - 1) + (if r_tK b L (j + 1) = 12 then 0 else 1)) := by
    rw [r_node_nI (by omega), eev q27]
  unfold r_l22 at e
  rw [if_neg (fun z => q27 (e27.mp z)), en] at e
  by_cases k18 : r_tK b L i = 18
  · obtain ⟨k27, hi1⟩ := r_acts_nm hgr hi (Or.inr (Or.inl k18))
    have nu := r_nu_27 (b := b) (L := L) (E := E) (j := i + 1) (by omega) hE.2 k27
    have ex : x = nI (r_nu b L E (i + 1)) := by
      have := c_num (F := F) h (show i + 1 < N by omega)
      rw [hx] at this
      exact Option.some.inj this
    rw [if_pos k18, ex, r_node_nI (by omega), if_pos rfl, Nat.add_zero] at e
    exact key _ _ f24 (by omega) rfl (Or.inl ⟨k18, rfl⟩) e
  · have k19 : r_tK b L i = 19 := by omega
    rw [if_neg k18, if_pos k19, r_node_nI (by omega), if_neg (show ¬ (-2 : Int32) = -1 by decide)] at e
    exact key _ _ f24 (by omega) rfl (Or.inr ⟨k19, rfl⟩) e
theorem c_rules47 (hF : 1100 ≤ F) (hgr : r_gram (r_tK b L) = .ok E) (h : r_nv b L N E N V1) {sz : Nat} (hsz : sz = min 1000 N) : ∀ (n i M : Nat) (T : zV), i + n = sz → n + 1 ≤ M → r_c6 b L E sz i T → r_l6 b L E i T →
    ∃ T1, fX6_takeFrom_l47 F M V1 T (nI (r_cn (r_tK b L) 7 i)) (nI i) = fX6_takeFrom_l181 F F V1 T1 (nI (r_cn (r_tK b L) 7 E)) (nI (r_cn (r_tK b L) 7 E)) ∧ r_c6 b L E sz sz T1 ∧ r_l6 b L E sz T1 ∧ y_fr [(13, 3)] [14, 15, 16, 17, 18, 19, 20, 21, 22] T T1 := by
  have hg := r_gram_gf hgr
  have hN := h.1
  have hE41 := hg.1.1
  have cE : ∀ w, ¬ w = 41 → ∀ i, i = E ∨ i = E + 1 → r_cn (r_tK b L) w i = r_cn (r_tK b L) w E := by
    rintro w hw i (rfl | rfl)
    · rfl
    · exact r_cn_same (by omega)
  have low : ∀ {i k}, r_tK b L i = k → i < N → ¬ k = 41 → i < E := by
    intro i k hk hi hne
    by_cases z : i < E
    · exact z
    · have : i = E := by omega
      subst this; omega
  intro n
  induction n with
  | zero =>
    intro i M T hi hM hc hl
    obtain ⟨M, rfl⟩ : ∃ M', M = M' + 1 := ⟨M - 1, by omega⟩
    have : i = sz := by omega
    subst this
    rw [fX6_takeFrom_l47, hc.1.1, if_pos (nI_le (Nat.le_refl _) (by omega)), cE 7 (by decide) i (by omega)]
    exact ⟨T, rfl, hc, hl, y_fr_refl⟩
  | succ n ih =>
    intro i M T hi hM hc hl
    obtain ⟨M, rfl⟩ : ∃ M', M = M' + 1 := ⟨M - 1, by omega⟩
    have kle := r_tK_le (b := b) (L := L) i
    have hi1 : i < 1000 := by omega
    have nb : vp_nar .byte (nI (r_tK b L i)).toInt8.toInt32 = nI (r_tK b L i) := r_nb ⟨r_tK b L i, by omega⟩
    have e1 : ∀ f, zA (zsA T 14 f) 15 = zA T 15 := fun _ => rfl
    have e2 : ∀ f g, zA (zsA (zsA T 14 f) 15 g) 14 = f := fun _ _ => rfl
    have e3 : ∀ f, upd f i (nI (r_tK b L i)) i = nI (r_tK b L i) := fun f => by rw [y_upd, if_pos rfl]
    have c11 := r_cn_le (K := r_tK b L) (w := 11) i
    have c7 := r_cn_le (K := r_tK b L) (w := 7) i
    rw [fX6_takeFrom_l47, hc.1.1, if_neg (nI_ge (show i < sz by omega) (by omega)), c_kat2 h (by omega), y_bd]
    simp only [y_ck (show i < 1000 from hi1) (show 1000 < 2 ^ 31 by decide), y_let, nI_clamp (show i < 2 ^ 31 by omega), nb, c_num h (show i < N by omega), y_bd, e1, e2, e3]
    have f1 : y_fr [(13, 3)] [14, 15, 16, 17, 18, 19, 20, 21, 22] T (zsA (zsA T 14 (upd (zA T 14) i (nI (r_tK b L i)))) 15 (upd (zA T 15) i (nI (r_nu b L E i)))) := y_fr_A (y_fr_A y_fr_refl (by decide)) (by decide)
    generalize hT1 : zsA (zsA T 14 (upd (zA T 14) i (nI (r_tK b L i)))) 15 (upd (zA T 15) i (nI (r_nu b L E i))) = T1 at *
    have i1 : ∀ k, zI T1 13 k = zI T 13 k := fun k => by rw [← hT1]; rfl
    have r1 : ∀ r, ¬ r = 14 → ¬ r = 15 → zA T1 r = zA T r := fun r h1 h2 => by
      rw [← hT1]
      show (if r = 15 then _ else if r = 14 then _ else zA T r) = _
      rw [if_neg h2, if_neg h1]
    have t14 : zA T1 14 = upd (zA T 14) i (nI (r_tK b L i)) := by rw [← hT1]; rfl
    have t15 : zA T1 15 = upd (zA T 15) i (nI (r_nu b L E i)) := by rw [← hT1]; rfl
    have ne : ∀ c : Nat, c ≤ 42 → ¬ r_tK b L i = c → ¬ nI (r_tK b L i) = nI c := fun c hc hne z => hne ((nI_eq (by omega) (by omega)).mp z)
    by_cases q7 : r_tK b L i = 7
    · have hiE := low q7 (by omega) (by decide)
      have g12 : r_cn (r_tK b L) 7 i < 12 := by have := (hg.2.1 i hiE (by omega)).2.2; rw [q7] at this; exact this
      rw [if_pos (show nI (r_tK b L i) = (7 : Int32) by rw [q7]; rfl), if_neg (show ¬ (12 : Int32) ≤ nI (r_cn (r_tK b L) 7 i) from nI_ge (b := 12) g12 (by decide)), y_ck (by omega) (by decide), nI_clamp (by omega), i1, hc.1.2, fX6_takeFrom_b173, nI_1, nI_1, ← r_cn_succ q7]
      have f2 : y_fr [(13, 3)] [14, 15, 16, 17, 18, 19, 20, 21, 22] T (zsA T1 16 (upd (zA T1 16) (r_cn (r_tK b L) 7 i) (nI (r_cn (r_tK b L) 11 i)))) := y_fr_A f1 (by decide)
      have row : ∀ r, ¬ r = 16 → zA (zsA T1 16 (upd (zA T1 16) (r_cn (r_tK b L) 7 i) (nI (r_cn (r_tK b L) 11 i)))) r = zA T1 r := fun r hr => by
        show (if r = 16 then _ else zA T1 r) = _
        rw [if_neg hr]
      have tk := r_c6_tok (T' := zsA T1 16 (upd (zA T1 16) (r_cn (r_tK b L) 7 i) (nI (r_cn (r_tK b L) 11 i)))) hc (i1 2) (by rw [row 14 (by decide), t14]) (by rw [row 15 (by decide), t15])
      have e11 : r_cn (r_tK b L) 11 (i + 1) = r_cn (r_tK b L) 11 i := r_cn_same (by omega)
      have key : r_c6 b L E sz (i + 1) (zsA T1 16 (upd (zA T1 16) (r_cn (r_tK b L) 7 i) (nI (r_cn (r_tK b L) 11 i)))) := by
        refine ⟨⟨tk.1, by rw [e11]; exact (i1 3).trans hc.1.2⟩, tk.2, fun j hj hk => ?_, fun j hj hk => ?_, fun r hr => ?_⟩
        · show upd (zA T1 16) _ _ _ = _
          rw [y_upd]
          by_cases z : j = i
          · subst z; rw [if_pos rfl]
          · have := r_cn_lt (i := j) (j := i) (by omega) hk
            rw [if_neg (by omega), r1 16 (by decide) (by decide)]
            exact hc.2.2.1 j (by omega) hk
        · rw [row 17 (by decide), r1 17 (by decide) (by decide)]
          exact hc.2.2.2.1 j (by
            by_cases z : j = i
            · subst z; omega
            · omega) hk
        · rw [e11] at hr
          exact r_u6_same (hc.2.2.2.2 r hr) (fun z => by omega) (by rw [row 18 (by decide), r1 18 (by decide) (by decide)]) (by rw [row 19 (by decide), r1 19 (by decide) (by decide)]) (by rw [row 20 (by decide), r1 20 (by decide) (by decide)]) (by rw [row 21 (by decide), r1 21 (by decide) (by decide)])
      obtain ⟨T2, a1, a2, a3, a4⟩ := ih (i + 1) M (zsA T1 16 (upd (zA T1 16) (r_cn (r_tK b L) 7 i) (nI (r_cn (r_tK b L) 11 i)))) (by omega) (by omega) key (r_l6_same hl (by omega) ((row 22 (by decide)).trans (r1 22 (by decide) (by decide))))
      exact ⟨T2, a1, a2, a3, y_fr_trans f2 a4⟩
    rw [if_neg (show ¬ nI (r_tK b L i) = (7 : Int32) from ne 7 (by decide) q7), fX6_takeFrom_b111, y_ck hi1 (by decide), nI_clamp (by omega), t14, e3]
    have e7 : r_cn (r_tK b L) 7 (i + 1) = r_cn (r_tK b L) 7 i := r_cn_same q7
    have seven : ∀ j, j < i + 1 → r_tK b L j = 7 → j < i := fun j hj hk => by
      by_cases z : j = i
      · subst z; omega
      · omega
    by_cases q11 : r_tK b L i = 11
    · have hiE := low q11 (by omega) (by decide)
      obtain ⟨c, s, sh, hs⟩ := r_rule_at hgr hiE q11
      have g80 := sh.2.2.2.2.2.2.2.2.2.2.2
      rw [if_pos (show nI (r_tK b L i) = (11 : Int32) by rw [q11]; rfl), i1, hc.1.2, if_neg (show ¬ (80 : Int32) ≤ nI (r_cn (r_tK b L) 11 i) from nI_ge (b := 80) g80 (by decide)), nI_1]
      obtain ⟨T2, o1, o17, o18, o19, o20, o21, o2⟩ := c_openRule (F := F) (T := T1) h (i := i) (by omega) sh.2.1 g80 ((i1 3).trans hc.1.2)
      have o3 : zI T2 13 3 = nI (r_cn (r_tK b L) 11 i) := by rw [o2.1 13 3 (by simp), i1]; exact hc.1.2
      rw [o1, y_bd, y_let, o3, nI_1, ← r_cn_succ q11, fX6_takeFrom_b173, nI_1, ← e7]
      have f2 : y_fr [(13, 3)] [14, 15, 16, 17, 18, 19, 20, 21, 22] T (zsI T2 13 3 (nI (r_cn (r_tK b L) 11 (i + 1)))) := y_fr_I (y_fr_trans f1 (y_fr_mono o2 (by decide) (by decide))) (by decide)
      have row : ∀ r, r ∉ [17, 18, 19, 20, 21] → zA (zsI T2 13 3 (nI (r_cn (r_tK b L) 11 (i + 1)))) r = zA T1 r := fun r hr => o2.2.1 r hr
      have tk := r_c6_tok (T' := zsI T2 13 3 (nI (r_cn (r_tK b L) 11 (i + 1)))) hc (by
        rw [y_get.1, if_neg (by decide), o2.1 13 2 (by simp), i1]) (by rw [row 14 (by decide), t14]) (by rw [row 15 (by decide), t15])
      have key : r_c6 b L E sz (i + 1) (zsI T2 13 3 (nI (r_cn (r_tK b L) 11 (i + 1)))) := by
        refine ⟨⟨tk.1, rfl⟩, tk.2, fun j hj hk => ?_, fun j hj hk => ?_, fun r hr => ?_⟩
        · rw [row 16 (by decide), r1 16 (by decide) (by decide)]
          exact hc.2.2.1 j (seven j hj hk) hk
        · show zA T2 17 _ = _
          rw [o17, y_upd]
          by_cases z : j = i
          · subst z; rw [if_pos rfl]
          · have := r_cn_lt (i := j) (j := i) (by omega) hk
            rw [if_neg (by omega), r1 17 (by decide) (by decide)]
            exact hc.2.2.2.1 j (by omega) hk
        · rw [r_cn_succ q11] at hr
          by_cases z : r < r_cn (r_tK b L) 11 i
          · have nz : ¬ r = r_cn (r_tK b L) 11 i := by omega
            refine r_u6_same (hc.2.2.2.2 r z) (fun y => by omega) ?_ ?_ ?_ ?_
            · show zA T2 18 r = _
              rw [o18, y_upd, if_neg nz, r1 18 (by decide) (by decide)]
            · show zA T2 19 r = _
              rw [o19, y_upd, if_neg nz, r1 19 (by decide) (by decide)]
            · show zA T2 20 r = _
              rw [o20, y_upd, if_neg nz, r1 20 (by decide) (by decide)]
            · show zA T2 21 r = _
              rw [o21, y_upd, if_neg nz, r1 21 (by decide) (by decide)]
          · have er : r = r_cn (r_tK b L) 11 i := by omega
            subst er
            have no : ∀ m, m < i + 1 → ¬ r_cn (r_tK b L) 11 m = r_cn (r_tK b L) 11 i + 1 := fun m hm y => by
              have := r_cn_mono (K := r_tK b L) (w := 11) (i := m) (j := i) (by omega)
              omega
            have v18 : zA (zsI T2 13 3 (nI (r_cn (r_tK b L) 11 (i + 1)))) 18 (r_cn (r_tK b L) 11 i) = -1 := by
              show zA T2 18 _ = _
              rw [o18, y_upd, if_pos rfl]
            have v19 : zA (zsI T2 13 3 (nI (r_cn (r_tK b L) 11 (i + 1)))) 19 (r_cn (r_tK b L) 11 i) = 1000 := by
              show zA T2 19 _ = _
              rw [o19, y_upd, if_pos rfl]
            have v20 : zA (zsI T2 13 3 (nI (r_cn (r_tK b L) 11 (i + 1)))) 20 (r_cn (r_tK b L) 11 i) = 0 := by
              show zA T2 20 _ = _
              rw [o20, y_upd, if_pos rfl]
            have v21 : zA (zsI T2 13 3 (nI (r_cn (r_tK b L) 11 (i + 1)))) 21 (r_cn (r_tK b L) 11 i) = 0 := by
              show zA T2 21 _ = _
              rw [o21, y_upd, if_pos rfl]
            exact ⟨Or.inl ⟨v18, fun m hm y => absurd y (no m hm)⟩, Or.inl ⟨v19, fun m hm y => absurd y (no m hm)⟩, ⟨fun _ m hm y => absurd y (no m hm), fun _ => v20⟩, ⟨fun _ m hm y => absurd y (no m hm), fun _ => v21⟩⟩
      obtain ⟨T3, a1, a2, a3, a4⟩ := ih (i + 1) M (zsI T2 13 3 (nI (r_cn (r_tK b L) 11 (i + 1)))) (by omega) (by omega) key (r_l6_same hl (by omega) ((row 22 (by decide)).trans (r1 22 (by decide) (by decide))))
      exact ⟨T3, a1, a2, a3, y_fr_trans f2 a4⟩
    rw [if_neg (show ¬ nI (r_tK b L i) = (11 : Int32) from ne 11 (by decide) q11), fX6_takeFrom_b152, nI_1]
    obtain ⟨x, ex⟩ := c_num0 (F := F) h (j := i + 1) (by omega)
    have e11 : r_cn (r_tK b L) 11 (i + 1) = r_cn (r_tK b L) 11 i := r_cn_same q11
    rw [ex, y_bd, i1, hc.1.2]
    have fin : ∀ T2 : zV, y_fr [] [18, 19, 20, 21, 22] T1 T2 → (∀ r, r < r_cn (r_tK b L) 11 i → r_u6 (r_tK b L) (i + 1) r T2) → r_l6 b L E (i + 1) T2 → ∃ T3, fX6_takeFrom_b173 F (fX6_takeFrom_l47 F M) V1 T2 (nI (r_cn (r_tK b L) 7 i)) (nI i) = fX6_takeFrom_l181 F F V1 T3 (nI (r_cn (r_tK b L) 7 E)) (nI (r_cn (r_tK b L) 7 E)) ∧ r_c6 b L E sz sz T3 ∧ r_l6 b L E sz T3 ∧ y_fr [(13, 3)] [14, 15, 16, 17, 18, 19, 20, 21, 22] T T3 := by
      intro T2 f hu hl2
      have row : ∀ r, r ∉ [18, 19, 20, 21, 22] → zA T2 r = zA T1 r := fun r hr => f.2.1 r hr
      have f2 : y_fr [(13, 3)] [14, 15, 16, 17, 18, 19, 20, 21, 22] T T2 := y_fr_trans f1 (y_fr_mono f (by decide) (by decide))
      have tk := r_c6_tok (T' := T2) hc (by rw [f.1 13 2 (by simp), i1]) (by rw [row 14 (by decide), t14]) (by rw [row 15 (by decide), t15])
      rw [fX6_takeFrom_b173, nI_1, ← e7]
      have key : r_c6 b L E sz (i + 1) T2 := by
        refine ⟨⟨tk.1, by rw [e11, f.1 13 3 (by simp), i1]; exact hc.1.2⟩, tk.2, fun j hj hk => ?_, fun j hj hk => ?_, fun r hr => hu r (by omega)⟩
        · rw [row 16 (by decide), r1 16 (by decide) (by decide)]
          exact hc.2.2.1 j (seven j hj hk) hk
        · rw [row 17 (by decide), r1 17 (by decide) (by decide)]
          exact hc.2.2.2.1 j (by
            by_cases z : j = i
            · subst z; omega
            · omega) hk
      obtain ⟨T3, a1, a2, a3, a4⟩ := ih (i + 1) M T2 (by omega) (by omega) key hl2
      exact ⟨T3, a1, a2, a3, y_fr_trans f2 a4⟩
    by_cases q0 : r_cn (r_tK b L) 11 i = 0
    · have same : fX6_takeIntoRule F T1 (nI (r_cn (r_tK b L) 11 i) - 1) (nI i) x (nI (r_cn (r_tK b L) 7 i) - 1) = some T1 := by
        unfold fX6_takeIntoRule
        rw [q0, if_pos (by decide)]
      rw [same, y_bd]
      have no : ¬ r_tK b L i = 18 ∧ ¬ r_tK b L i = 19 := by
        by_cases z : r_tK b L i = 18 ∨ r_tK b L i = 19
        · exfalso
          obtain ⟨j, c, s, sh, s1, s2, s3⟩ := r_acts_in hgr (m := i) (low rfl (by omega) (by omega)) (by omega)
          have s5 := r_cn_lt (K := r_tK b L) (w := 11) (i := j) (j := i) (by have := sh.2.2.2.1; omega) sh.1
          omega
        · omega
      exact fin T1 y_fr_refl (fun r hr => by omega) (r_l6_same hl no (r1 22 (by decide) (by decide)))
    obtain ⟨j, j1, j2, j3⟩ := r_cn_at i 0 (show 0 < r_cn (r_tK b L) 11 i by omega)
    have jE : j < E := by omega
    have h7 := r_rule_mode hgr jE j2
    have h7' := r_cn_mono (K := r_tK b L) (w := 7) (i := j) (j := i) (by omega)
    have g80 : r_cn (r_tK b L) 11 i - 1 < 80 := by
      obtain ⟨m, m1, m2, m3⟩ := r_cn_at i (r_cn (r_tK b L) 11 i - 1) (show r_cn (r_tK b L) 11 i - 1 < r_cn (r_tK b L) 11 i by omega)
      obtain ⟨c, s, sh, hs⟩ := r_rule_at hgr (show m < E by omega) m2
      have := sh.2.2.2.2.2.2.2.2.2.2.2
      omega
    obtain ⟨T2, p1, p18, p19, p20, p21, p22, p2⟩ := c_into (F := F) (T := T1) (m := r_cn (r_tK b L) 7 i - 1) g80 hi1 kle (by omega) x (by rw [t14, e3])
    rw [show (1 : Int32) = nI 1 from rfl, pk_sub (by omega), pk_sub (by omega), p1, y_bd]
    have hl1 : r_l6 b L E i T1 := fun f t hf ht => by rw [r1 22 (by decide) (by decide)]; exact hl f t hf ht
    have hlast : r_l6 b L E (i + 1) T2 := by
      by_cases k1 : ¬ r_tK b L i = 18 ∧ ¬ r_tK b L i = 19
      · refine r_l6_same hl1 k1 ?_
        rw [p22]
        unfold r_l22
        split
        · rfl
        · rw [if_neg k1.1, if_neg k1.2]
      have hiE : i < E := low rfl (by omega) (by omega)
      obtain ⟨j', y1, y2, y3⟩ := r_cn_at i (r_cn (r_tK b L) 11 i - 1) (show r_cn (r_tK b L) 11 i - 1 < r_cn (r_tK b L) 11 i by omega)
      have l12 : r_cn (r_tK b L) 7 i - 1 < 12 := by
        have := hg.2.2.1 7 (by decide)
        have := r_cn_mono (K := r_tK b L) (w := 7) (i := i) (j := E) (by omega)
        have e12 : r_room 7 = 12 := rfl
        omega
      refine r_l6_into (F := F) (T := T1) hgr h hiE y1 y2 (by omega) l12 ex hl1 ?_ ?_
      · rw [r1 17 (by decide) (by decide)]; exact hc.2.2.2.1 j' y1 y2
      · rw [y3]; exact p22
    refine fin T2 p2 (fun r hr => ?_) hlast
    rw [r1 18 (by decide) (by decide)] at p18
    rw [r1 19 (by decide) (by decide)] at p19
    rw [r1 20 (by decide) (by decide)] at p20
    rw [r1 21 (by decide) (by decide)] at p21
    have old := hc.2.2.2.2 r hr
    by_cases qr : r = r_cn (r_tK b L) 11 i - 1
    rotate_left
    · have up : ∀ (P : Prop) [Decidable P] (f : Nat → Int32) (y : Int32), (if P then upd f (r_cn (r_tK b L) 11 i - 1) y else f) r = f r := by
        intro P _ f y
        split
        · rw [y_upd, if_neg qr]
        · rfl
      exact r_u6_same old (fun z => by omega) (by rw [p18, up]) (by rw [p19, up]) (by rw [p20, up]) (by rw [p21, up])
    have hcr : r_cn (r_tK b L) 11 i = r + 1 := by omega
    rw [← qr] at p18 p19 p20 p21
    obtain ⟨g1, g2, g3, g4⟩ := old
    have ext : ∀ P : Nat → Prop, ¬ P i → ((∀ m, m < i → r_cn (r_tK b L) 11 m = r + 1 → ¬ P m) ↔ ∀ m, m < i + 1 → r_cn (r_tK b L) 11 m = r + 1 → ¬ P m) := by
      intro P hP
      refine ⟨fun z m m1 m2 => ?_, fun z m m1 m2 => z m (by omega) m2⟩
      by_cases q : m = i
      · subst q; exact hP
      · exact z m (by omega) m2
    unfold r_u6
    refine ⟨?_, ?_, ?_, ?_⟩
    · by_cases z : r_tK b L i = 14
      · rw [if_pos z] at p18
        exact Or.inr ⟨i, by omega, hcr, z, by rw [p18, y_upd, if_pos rfl]⟩
      · rw [if_neg z] at p18
        rw [p18]
        rcases g1 with ⟨z1, z2⟩ | ⟨m, m1, m2, m3, m4⟩
        · exact Or.inl ⟨z1, (ext (fun m => r_tK b L m = 14) z).mp z2⟩
        · exact Or.inr ⟨m, by omega, m2, m3, m4⟩
    · by_cases z : r_tK b L i = 30
      · rw [if_pos z] at p19
        exact Or.inr ⟨i, by omega, hcr, z, by rw [p19, y_upd, if_pos rfl]⟩
      · rw [if_neg z] at p19
        rw [p19]
        rcases g2 with ⟨z1, z2⟩ | ⟨m, m1, m2, m3, m4⟩
        · exact Or.inl ⟨z1, (ext (fun m => r_tK b L m = 30) z).mp z2⟩
        · exact Or.inr ⟨m, by omega, m2, m3, m4⟩
    · by_cases z : r_tK b L i = 16 ∨ r_tK b L i = 18 ∨ r_tK b L i = 23
      · rw [if_pos z] at p20
        rw [p20, y_upd, if_pos rfl]
        exact ⟨fun y => absurd y (by decide), fun y => absurd z (y i (by omega) hcr)⟩
      · rw [if_neg z] at p20
        rw [p20]
        exact g3.trans (ext (fun m => r_tK b L m = 16 ∨ r_tK b L m = 18 ∨ r_tK b L m = 23) z)
    · by_cases z : r_tK b L i = 21
      · rw [if_pos z] at p21
        rw [p21, y_upd, if_pos rfl]
        exact ⟨fun y => absurd y (by decide), fun y => absurd z (y i (by omega) hcr)⟩
      · rw [if_neg z] at p21
        rw [p21]
        exact g4.trans (ext (fun m => r_tK b L m = 21) z)
end
