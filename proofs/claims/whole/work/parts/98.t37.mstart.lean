/-! ===== 'start' in the reference ===== -/
section
variable {F : Nat} {b : Nat → Nat} {L M sd : Nat} {V : zV}
theorem r_cn_at {K : Nat → Nat} {w : Nat} : ∀ (E k : Nat), k < r_cn K w E → ∃ m, m < E ∧ K m = w ∧ r_cn K w m = k := by
  intro E
  induction E with
  | zero => intro k h; exact absurd h (Nat.not_lt_zero _)
  | succ E ih =>
    intro k h
    by_cases q : k < r_cn K w E
    · obtain ⟨m, h1, h2⟩ := ih k q
      exact ⟨m, by omega, h2⟩
    · rw [r_cn] at h
      split at h
      · rename_i q2
        exact ⟨E, by omega, q2, by omega⟩
      · omega
theorem r_act_nm {i e : Nat} (h : r_act (r_tK b L) i = .ok e) (hk : r_tK b L i = 17 ∨ r_tK b L i = 18 ∨ r_tK b L i = 20) : r_tK b L (i + 1) = 27 ∧ i + 1 < e := by
  unfold r_act at h
  split at h
  · obtain ⟨j, h1, h⟩ := r_b_ok h
    obtain ⟨rfl, -⟩ := r_pass_ok h1
    obtain ⟨k, h2, h⟩ := r_b_ok h
    obtain ⟨k27, rfl, -⟩ := r_need_ok h2
    refine ⟨k27, ?_⟩
    split at h
    · have := r_exp_lt h; omega
    · cases h; omega
  · cases h
/-- a NAME stands behind acts that want one -/
theorem r_rule_nm {j e : Nat} (hj : r_tK b L j = 11) (h : r_rule (r_tK b L) j = .ok e) {m : Nat} (h1 : j ≤ m) (h2 : m < e) (hk : r_tK b L m = 17 ∨ r_tK b L m = 18 ∨ r_tK b L m = 20) : r_tK b L (m + 1) = 27 ∧ m + 1 < e := by
  obtain ⟨c, sh, he0⟩ := r_rule_sh hj h
  obtain ⟨a1, a2, a3, a4, a5, a6, a7, a8, a9, a10, a11, a12⟩ := sh
  unfold r_rule at h
  obtain ⟨d, g1, h⟩ := r_b_ok h
  obtain ⟨-, rfl, -⟩ := r_newo_ok g1
  obtain ⟨d2, g2, h⟩ := r_b_ok h
  obtain ⟨c', g3, h⟩ := r_b_ok h
  obtain ⟨d3, g4, h⟩ := r_b_ok h
  obtain ⟨k30, rfl, -⟩ := r_need_ok g4
  obtain ⟨e1, g5, h⟩ := r_b_ok h
  rw [r_actsS_aq 13 1 e1 rfl (by decide)] at h
  obtain ⟨s, g6, h⟩ := r_b_ok h
  obtain ⟨k29, rfl, -⟩ := r_need_ok h
  have hd2 : d2 = j + 2 := by
    split at g2
    · exact (r_pass_ok g2).1
    · exact (r_need_ok g2).2.1
  subst hd2
  have aq : ∀ (n d i s : Nat), n + d = 14 → d ≤ 12 → r_aq (r_tK b L) n d i = .ok s → i ≤ s ∧ ∀ m, i ≤ m → m < s → (r_tK b L m = 17 ∨ r_tK b L m = 18 ∨ r_tK b L m = 20) → r_tK b L (m + 1) = 27 ∧ m + 1 < s := by
    intro n
    induction n with
    | zero => intro d i s h h2; omega
    | succ n ih =>
      intro d i s h h2 h3
      rw [r_aq] at h3
      split at h3
      · rename_i q
        obtain ⟨a, h4, h3⟩ := r_b_ok h3
        obtain ⟨rfl, -⟩ := r_pass_ok h4
        split at h3
        · split at h3 <;> cases h3
        · obtain ⟨a2, h5, h3⟩ := r_b_ok h3
          obtain ⟨l1, l2, l3⟩ := r_act_in h5
          obtain ⟨l4, l5⟩ := ih (d + 1) a2 s (by omega) (by omega) h3
          refine ⟨by omega, fun m m1 m2 hk => ?_⟩
          by_cases q1 : m = i
          · subst q1; omega
          by_cases q2 : m = i + 1
          · subst q2
            have := r_act_nm h5 hk
            exact ⟨this.1, by omega⟩
          by_cases q3 : m < a2
          · have := l3 m (by omega) q3; unfold r_ek at this; omega
          · exact l5 m (by omega) m2 hk
      · cases h3
        exact ⟨Nat.le_refl _, fun a h1 h2 => by omega⟩
  obtain ⟨l1, l2⟩ := aq 13 1 e1 s rfl (by decide) g6
  have hact := r_act_in g5
  have hcc : c' = c := by
    have q30 : ∀ a, j + 2 ≤ a → a < c → ¬ r_tK b L a = 30 := by
      intro a y1 y2 y3
      by_cases q : a = j + 2
      · subst q; omega
      · have := a10 a (by omega) y2; unfold r_ek at this; omega
    have le : j + 2 ≤ c' := by
      split at g3
      · rename_i q
        obtain ⟨a3, h7, g3⟩ := r_b_ok g3
        obtain ⟨rfl, h8⟩ := r_pass_ok h7
        have := (r_cnd_in (b := b) (L := L) 1001 (j + 3) c' (by omega) (by omega) g3 (r_pv_of (by omega))).1
        omega
      · cases g3; omega
    rcases Nat.lt_trichotomy c' c with q | q | q
    · exact absurd k30 (q30 c' le q)
    · exact q
    · exfalso
      split at g3
      · rename_i q14
        obtain ⟨a3, h7, g3⟩ := r_b_ok g3
        obtain ⟨rfl, h8⟩ := r_pass_ok h7
        have hz := (r_cnd_in (b := b) (L := L) 1001 (j + 3) c' (by omega) (by omega) g3 (r_pv_of (by omega))).2
        by_cases q2 : c = j + 2
        · subst q2; omega
        · have := hz c (by omega) q; unfold r_ek at this; omega
      · cases g3; omega
  subst hcc
  rw [Nat.add_sub_cancel] at a8 a11
  by_cases q1 : m < c' + 1
  · exfalso
    by_cases q0 : m = c'
    · subst q0; omega
    by_cases q2 : m = j
    · subst q2; omega
    by_cases q3 : m = j + 1
    · subst q3; omega
    by_cases q4 : m = j + 2
    · subst q4; omega
    · have := a10 m (by omega) (by omega); unfold r_ek at this; omega
  by_cases q2 : m = c' + 1
  · subst q2
    have := r_act_nm g5 hk
    exact ⟨this.1, by omega⟩
  by_cases q3 : m < e1
  · have := hact.2.2 m (by omega) q3; unfold r_ek at this; omega
  by_cases q4 : m = s
  · subst q4; omega
  · have := l2 m (by omega) (by omega) hk
    exact ⟨this.1, by omega⟩
theorem r_acts_nm {E : Nat} (h : r_gram (r_tK b L) = .ok E) {m : Nat} (hm : m < E) (hk : r_tK b L m = 17 ∨ r_tK b L m = 18 ∨ r_tK b L m = 20) : r_tK b L (m + 1) = 27 ∧ m + 1 < E := by
  obtain ⟨-, -, p, h1, h2, -, h3⟩ := r_gram_Q (K := r_tK b L) (E := E) (P := fun m => ¬ (16 ≤ r_tK b L m ∧ r_tK b L m ≤ 24)) (Q := fun m => (r_tK b L m = 17 ∨ r_tK b L m = 18 ∨ r_tK b L m = 20) → r_tK b L (m + 1) = 27 ∧ m + 1 < E)
    (fun i e hp m m1 m2 z => by
      by_cases q : m = i
      · subst q; have := hp.1; omega
      · have := (r_psh_in hp).2 m (by omega) m2; omega)
    (fun i e _ hp m m1 m2 z => by
      by_cases q : m = i
      · subst q; have := hp.1; omega
      · have := (r_hs7_in hp).2 m (by omega) m2; omega)
    (fun i e he hk hr m m1 m2 z => by
      have := r_rule_nm hk hr m1 m2 z
      exact ⟨this.1, by omega⟩)
    (fun i hi z => by omega) h
  by_cases q : m < p
  · exact absurd (show 16 ≤ r_tK b L m ∧ r_tK b L m ≤ 24 by omega) (h2 m q)
  · exact h3 m (by omega) hm hk
/-- a fault of 'start' at token j, of those whose number is below k -/
def r_sf (b : Nat → Nat) (L E k j : Nat) : Prop := ∃ m, m < E ∧ r_tK b L m = 18 ∧ r_cn (r_tK b L) 18 m < k ∧ r_lk (r_tl b L E) (r_tW b L (m + 1)) 7 = none ∧ j = m + 1
def r_sP (b : Nat → Nat) (L E k : Nat) : Nat → Nat → Prop := fun j c => r_wp b L E j c ∨ (r_sf b L E k j ∧ c = 4)
/-- the rows of 'start' -/
def r_sr (b : Nat → Nat) (L sd E : Nat) (V : zV) : Prop := ∀ m, m < E → r_tK b L m = 18 → zA V 35 (r_cn (r_tK b L) 18 m) = nI (1000 * sd + r_na (r_tK b L) m) ∧ zA V 36 (r_cn (r_tK b L) 18 m) = nI (m + 1)
theorem r_tb_sr {E cc : Nat} (hg : r_gram (r_tK b L) = .ok E) (h : r_tb b L sd E cc V) : r_sr b L sd E V := by
  intro m hm hk
  obtain ⟨j, c, s, sh, h1, h2, h3⟩ := r_acts_in hg hm (by omega)
  have hjc : j < c := by have := sh.2.2.2.1; omega
  obtain ⟨c', s', sh', h4, h5⟩ := h.2.2.2.1 j (by omega) sh.1
  obtain ⟨rfl, rfl⟩ := r_sh_one sh sh'
  exact h5.2.2.2.2.2.2 m (by omega) h2 hk
theorem m_l237 (hF : 1200 ≤ F) (hL : L ≤ 4000) {E cs : Nat} (hg : r_gram (r_tK b L) = .ok E) (hcs : cs = r_cn (r_tK b L) 18 E) : ∀ (n N k : Nat) (V : zV), k + n = cs → n + 1 ≤ N → r_ms b L M sd E (r_tl b L E) (r_sP b L E k) V → zI V 0 51 = nI cs → r_sr b L sd E V →
    ∃ V', fX12_read_l237 F N V (nI k) = fX12_read_b274 F V' ∧ r_ms b L M sd E (r_tl b L E) (r_sP b L E cs) V' ∧ r_fx sd V V' ∧ (∀ r, ¬ r = 32 → zA V' r = zA V r) ∧ (∀ r, zB V' r = zB V r) ∧ (∀ i, ¬ i = 15 → ¬ i = 16 → zI V' 0 i = zI V 0 i) ∧
      (∀ m, m < E → r_tK b L m = 18 → k ≤ r_cn (r_tK b L) 18 m → zA V' 32 (1000 * sd + r_na (r_tK b L) m) = nI (r_nu b L E (m + 1))) ∧
      ∀ x, (∀ m, m < E → r_tK b L m = 18 → k ≤ r_cn (r_tK b L) 18 m → ¬ x = 1000 * sd + r_na (r_tK b L) m) → zA V' 32 x = zA V 32 x := by
  have hE : E ≤ 1000 := (r_gram_Q (K := r_tK b L) (E := E) (P := fun _ => True) (Q := fun _ => True) (fun _ _ _ _ _ _ => trivial) (fun _ _ _ _ _ _ _ => trivial) (fun _ _ _ _ _ _ _ _ => trivial) (fun _ _ => trivial) hg).2.1
  have hcE : cs ≤ E := by rw [hcs]; exact r_cn_le E
  intro n
  induction n with
  | zero =>
    intro N k V hk hN h h51 hr
    obtain ⟨N, rfl⟩ : ∃ N', N = N' + 1 := ⟨N - 1, by omega⟩
    have : k = cs := by omega
    subst this
    rw [fX12_read_l237, h51, if_pos (nI_le (Nat.le_refl _) (by omega))]
    refine ⟨V, rfl, h, r_fx_refl, fun _ _ => rfl, fun _ => rfl, fun _ _ _ => rfl, fun m m1 m2 m3 => ?_, fun _ _ => rfl⟩
    have := r_cn_lt m1 m2
    omega
  | succ n ih =>
    intro N k V hk hN h h51 hr
    obtain ⟨N, rfl⟩ : ∃ N', N = N' + 1 := ⟨N - 1, by omega⟩
    obtain ⟨m, hm, hk18, hkm⟩ := r_cn_at (K := r_tK b L) (w := 18) E k (by omega)
    obtain ⟨e35, e36⟩ := hr m hm hk18
    rw [hkm] at e35 e36
    obtain ⟨k27, hm1⟩ := r_acts_nm hg hm (by omega)
    have hna : r_na (r_tK b L) m ≤ m := r_na_le m
    have hsd := h.2.2.1.2
    obtain ⟨V2, a1, a2, a3⟩ := m_named (F := F) (by omega) hL h (fun j c z => by
      rcases z with z | ⟨⟨m', h1, h2, h3, h4, rfl⟩, -⟩
      · have := z.1; omega
      · omega) (j := m + 1) (s := 7) (by omega) k27 (by decide)
    have a1 : fX12_named F V (nI (m + 1)) 7 = some _ := a1
    have hnu : (r_lk (r_tl b L E) (r_tW b L (m + 1)) 7).getD 0 = r_nu b L E (m + 1) := by
      have hro : r_ro (r_tK b L) (m + 1) = 7 := by
        unfold r_ro
        rw [Nat.add_sub_cancel, hk18]; rfl
      unfold r_nu
      rw [if_pos k27, hro]; rfl
    rw [fX12_read_l237, h51, if_neg (nI_ge (show k < cs by omega) (by omega))]
    simp only [y_ck (show k < 1000 by omega) (show 1000 < 2 ^ 31 by decide), nI_clamp (show k < 2 ^ 31 by omega), e36, e35]
    rw [a1, y_bd, y_ck (by omega) (by decide), y_let, nI_clamp (by omega), nI_1, hnu]
    generalize hx : 1000 * sd + r_na (r_tK b L) m = x
    have fx3 : ∀ y : Int32, r_fx sd V2 (zsA V2 32 (upd (zA V2 32) x y)) := fun y => r_fx_H (k := r_na (r_tK b L) m) r_fx_refl (by decide) (by rw [show r_hs 32 = 1000 from rfl, Nat.mul_comm]; omega) (by show r_na (r_tK b L) m < 1000; omega)
    have fx2 : r_fx sd V V2 := r_sw_fx a3
    have m3 : ∀ y, r_ms b L M sd E (r_tl b L E) (r_sP b L E (k + 1)) (zsA V2 32 (upd (zA V2 32) x y)) := by
      intro y
      have := r_ms_eq a2 (fx3 y) a2.2.1.1 a2.2.1.2.1 a2.2.1.2.2 rfl rfl rfl rfl rfl rfl
      refine ⟨this.1, this.2.1, this.2.2.1, this.2.2.2.1, r_ws_iff this.2.2.2.2 fun j c => ⟨fun z => ?_, fun z => ?_⟩⟩
      · rcases z with (z | ⟨⟨m', h1, h2, h3, h4, h5⟩, z⟩) | ⟨z1, z2, z3⟩
        · exact Or.inl z
        · exact Or.inr ⟨⟨m', h1, h2, by omega, h4, h5⟩, z⟩
        · exact Or.inr ⟨⟨m, hm, hk18, by omega, z1, z2⟩, z3⟩
      · rcases z with z | ⟨⟨m', h1, h2, h3, h4, h5⟩, z⟩
        · exact Or.inl (Or.inl z)
        · by_cases q : r_cn (r_tK b L) 18 m' < k
          · exact Or.inl (Or.inr ⟨⟨m', h1, h2, q, h4, h5⟩, z⟩)
          · have : m' = m := by
              rcases Nat.lt_trichotomy m' m with y | y | y
              · have := r_cn_lt y h2; omega
              · exact y
              · have := r_cn_lt y hk18; omega
            subst this
            exact Or.inr ⟨h4, h5, z⟩
    have row : ∀ y r, ¬ r = 32 → zA (zsA V2 32 (upd (zA V2 32) x y)) r = zA V r := by
      intro y r hr
      show (if r = 32 then _ else zA V2 r) = _
      rw [if_neg hr, a3.2.1]
    obtain ⟨V', d1, d2, d3, d4, d5, d6, d7, d8⟩ := ih N (k + 1) (zsA V2 32 (upd (zA V2 32) x (nI (r_nu b L E (m + 1))))) (by omega) (by omega) (m3 _) ((a3.1 0 51 (by omega)).trans h51) (fun m' h1 h2 => by rw [row _ 35 (by decide), row _ 36 (by decide)]; exact hr m' h1 h2)
    refine ⟨V', d1, d2, r_fx_trans (r_fx_trans fx2 (fx3 _)) d3, fun r hr => (d4 r hr).trans (row _ r hr), fun r => (d5 r).trans (a3.2.2.1 r), fun i h1 h2 => (d6 i h1 h2).trans (a3.1 0 i fun z => z.2.elim h1 h2), fun m' h1 h2 h3 => ?_, fun z hz => ?_⟩
    · by_cases q : k + 1 ≤ r_cn (r_tK b L) 18 m'
      · exact d7 m' h1 h2 q
      · have : m' = m := by
          rcases Nat.lt_trichotomy m' m with y | y | y
          · have := r_cn_lt y h2; omega
          · exact y
          · have := r_cn_lt y hk18; omega
        subst this
        rw [d8 _ fun m'' g1 g2 g3 => ?_]
        · show upd (zA V2 32) x _ _ = _
          rw [y_upd, if_pos hx]
        · have : m' < m'' := by
            rcases Nat.lt_trichotomy m' m'' with y | y | y
            · exact y
            · subst y; omega
            · have := r_cn_lt y g2; omega
          have := r_na_lt (K := r_tK b L) this (by omega)
          omega
    · rw [d8 z fun m' g1 g2 g3 => hz m' g1 g2 (by omega)]
      show upd (zA V2 32) x _ z = _
      rw [y_upd, if_neg (fun y => hz m hm hk18 (by omega) (y.trans hx.symm)), a3.2.1]
end
