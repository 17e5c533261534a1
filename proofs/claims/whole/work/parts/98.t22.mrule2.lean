/-! ===== a RULE in the reference ===== -/
/-- the event of the rule at token j -/
def r_ev (b : Nat → Nat) (L j : Nat) : Int32 := if r_tK b L (j + 1) = 12 then -1 else if r_tK b L (j + 1) = 13 then -2 else nI ((r_lk (r_tl b L (j + 1)) (r_tW b L (j + 1)) 0).getD 0)
/-- the rule from token j: its colon at c, its semicolon at s -/
def r_sh (K : Nat → Nat) (j c s : Nat) : Prop := K j = 11 ∧ (K (j + 1) = 12 ∨ K (j + 1) = 13 ∨ K (j + 1) = 27) ∧ (K (j + 2) = 14 ∨ c = j + 2) ∧ j + 2 ≤ c ∧ c + 1 < s ∧ s < 1000 ∧ K c = 30 ∧ K s = 29 ∧ (16 ≤ K (c + 1) ∧ K (c + 1) ≤ 24) ∧
  (∀ a, j + 3 ≤ a → a < c → r_ek (K a) ∨ (37 ≤ K a ∧ K a ≤ 40) ∨ K a = 15) ∧ (∀ a, c < a → a < s → r_ek (K a) ∨ K a = 31 ∨ (16 ≤ K a ∧ K a ≤ 24)) ∧ r_cn K 11 j < 80
section
variable {F : Nat} {b : Nat → Nat} {L M sd : Nat} {V : zV}
def r_ru (b : Nat → Nat) (L sd j c s cm : Nat) (V : zV) : Prop :=
  zA V 24 (80 * sd + r_cn (r_tK b L) 11 j) = r_ev b L j ∧
  (zA V 25 (81 * sd + r_cn (r_tK b L) 11 j) = nI (400 * sd + r_nr (r_tK b L) j) ∧ zA V 25 (81 * sd + r_cn (r_tK b L) 11 j + 1) = nI (400 * sd + r_nr (r_tK b L) s)) ∧
  (zA V 26 (81 * sd + r_cn (r_tK b L) 11 j) = nI (1000 * sd + r_na (r_tK b L) j) ∧ zA V 26 (81 * sd + r_cn (r_tK b L) 11 j + 1) = nI (1000 * sd + r_na (r_tK b L) s)) ∧
  (r_tK b L (j + 2) = 14 → r_cs b L sd (j + 3) c (r_nr (r_tK b L) j) (r_nr (r_tK b L) s) cm V) ∧ (¬ r_tK b L (j + 2) = 14 → r_nr (r_tK b L) s = r_nr (r_tK b L) j) ∧ r_al b L sd (c + 1) s cm V
/-- the frame of rules from number n on -/
def r_gr (sd n cr ca cs cc : Nat) (V V' : zV) : Prop := r_fx sd V V' ∧ (∀ k, k ∉ r_gs → zI V' 0 k = zI V 0 k) ∧ (∀ r, r ∉ r_ga → r ∉ [8, 24, 25, 26] → zA V' r = zA V r) ∧ (∀ r, zB V' r = zB V r) ∧ (∀ r k, r_gb sd cr ca cs cc r k → zA V' r k = zA V r k) ∧
  (∀ k, ¬ k = 9 * sd + 8 → zA V' 8 k = zA V 8 k) ∧ (∀ k, k < 80 * sd + n → zA V' 24 k = zA V 24 k) ∧ (∀ r, (r = 25 ∨ r = 26) → ∀ k, k < 81 * sd + n → zA V' r k = zA V r k)
theorem r_gr_gg {n cr ca cs cc : Nat} {V' : zV} (h : r_gg sd cr ca cs cc V V') : r_gr sd n cr ca cs cc V V' :=
  ⟨h.1, h.2.1, fun r hr _ => h.2.2.1 r hr, h.2.2.2.1, h.2.2.2.2, fun k _ => by rw [h.2.2.1 8 (by decide)], fun k _ => by rw [h.2.2.1 24 (by decide)], fun r hr k _ => by rw [h.2.2.1 r (by rcases hr with rfl | rfl <;> decide)]⟩
theorem r_gr_trans {n cr ca cs cc n' cr' ca' cs' cc' : Nat} {V' V'' : zV} (h : r_gr sd n cr ca cs cc V V') (g : r_gr sd n' cr' ca' cs' cc' V' V'') (h0 : n ≤ n') (h1 : cr ≤ cr') (h2 : ca ≤ ca') (h3 : cs ≤ cs') (h4 : cc ≤ cc') : r_gr sd n cr ca cs cc V V'' :=
  ⟨r_fx_trans h.1 g.1, fun k m => (g.2.1 k m).trans (h.2.1 k m), fun r m m2 => (g.2.2.1 r m m2).trans (h.2.2.1 r m m2), fun r => (g.2.2.2.1 r).trans (h.2.2.2.1 r), fun r k m => (g.2.2.2.2.1 r k (r_gb_mono m h1 h2 h3 h4)).trans (h.2.2.2.2.1 r k m), fun k m => (g.2.2.2.2.2.1 k m).trans (h.2.2.2.2.2.1 k m), fun k m => (g.2.2.2.2.2.2.1 k (by omega)).trans (h.2.2.2.2.2.2.1 k m), fun r hr k m => (g.2.2.2.2.2.2.2 r hr k (by omega)).trans (h.2.2.2.2.2.2.2 r hr k m)⟩
theorem r_gr_refl {n cr ca cs cc : Nat} : r_gr sd n cr ca cs cc V V := r_gr_gg r_gg_refl
/-- a row of the rules is written -/
theorem r_gr_H {n cr ca cs cc r m k : Nat} {V' : zV} {x : Int32} (h : r_gr sd n cr ca cs cc V V') (hr : r = 24 ∨ r = 25 ∨ r = 26) (hm : m = sd * r_hs r + k) (hk : k < r_hs r) (hn : n ≤ k) : r_gr sd n cr ca cs cc V (zsA V' r (upd (zA V' r) m x)) := by
  have e : ∀ f a, zA (zsA V' r f) a = if a = r then f else zA V' a := fun _ _ => rfl
  have hh : r ∈ r_hr := by rcases hr with rfl | rfl | rfl <;> decide
  refine ⟨r_fx_H h.1 hh hm hk, h.2.1, fun a m1 m2 => ?_, h.2.2.2.1, fun a c mm => ?_, fun k' hk' => ?_, fun k' hk' => ?_, fun a ha k' hk' => ?_⟩
  · rw [e, if_neg (fun z => m2 (by rw [z]; rcases hr with rfl | rfl | rfl <;> decide))]; exact h.2.2.1 a m1 m2
  · rw [e, if_neg (fun z => by
      subst z
      unfold r_gb at mm
      omega)]; exact h.2.2.2.2.1 a c mm
  · rw [e, if_neg (fun z => by omega)]; exact h.2.2.2.2.2.1 k' hk'
  · rw [e]
    by_cases q : 24 = r
    · subst q
      have : r_hs 24 = 80 := rfl
      rw [this, Nat.mul_comm] at hm
      rw [if_pos rfl, y_upd, if_neg (by omega)]; exact h.2.2.2.2.2.2.1 k' hk'
    · rw [if_neg q]; exact h.2.2.2.2.2.2.1 k' hk'
  · rw [e]
    by_cases q : a = r
    · subst q
      have : r_hs a = 81 := by rcases ha with rfl | rfl <;> rfl
      rw [this, Nat.mul_comm] at hm
      rw [if_pos rfl, y_upd, if_neg (by omega)]; exact h.2.2.2.2.2.2.2 a ha k' hk'
    · rw [if_neg q]; exact h.2.2.2.2.2.2.2 a ha k' hk'
theorem m_full {s m n : Nat} (hs : s ≤ 8) (h19 : zI V 0 19 = nI sd) (hsd : sd ≤ 1) (h8 : zA V 8 (9 * sd + s) = nI n) (hm : m = if s = 8 then 80 else if s = 0 ∨ s = 3 ∨ s = 6 then 16 else if s = 1 ∨ s = 2 ∨ s = 4 then 8 else if s = 5 then 24 else 12) (hn : n < 2 ^ 31) : fX12_isFull F V (nI s) = some (if n = m then 1 else 0) := by
  have fin : ∀ c : Nat, c < 2 ^ 31 → fX12_isFull_b78 F V (nI n) (nI c) = some (if n = c then 1 else 0) := by
    intro c hc
    rw [fX12_isFull_b78]
    by_cases q : n = c
    · rw [if_pos (by rw [q]), if_pos q]
    · rw [if_neg (fun z => q ((nI_eq hn hc).mp z)), if_neg q]
  rw [fX12_isFull, h19, show (9 : Int32) = nI 9 from rfl, pk_mul, nI_add, y_ck (by omega) (by decide), y_let, nI_clamp (by omega), h8]
  have h9 : s = 0 ∨ s = 1 ∨ s = 2 ∨ s = 3 ∨ s = 4 ∨ s = 5 ∨ s = 6 ∨ s = 7 ∨ s = 8 := by omega
  rcases h9 with rfl | rfl | rfl | rfl | rfl | rfl | rfl | rfl | rfl
  · subst hm; exact fin 16 (by decide)
  · subst hm; exact fin 8 (by decide)
  · subst hm; exact fin 8 (by decide)
  · subst hm; exact fin 16 (by decide)
  · subst hm; exact fin 8 (by decide)
  · subst hm; exact fin 24 (by decide)
  · subst hm; exact fin 16 (by decide)
  · subst hm; exact fin 12 (by decide)
  · subst hm; exact fin 80 (by decide)
theorem m_b175_x {n : Nat} (hF : 2 ≤ F) (hn : n < 80) : r_xg sd (fun V => fX12_tellRule_b175 F V (nI n)) := by
  intro V h
  obtain ⟨F', rfl⟩ : ∃ F', F = F' + 1 := ⟨F - 1, by omega⟩
  have hsd := h.2.2
  dsimp only
  have x1 : r_mx sd V (zsA V 25 (upd (zA V 25) (81 * sd + n + 1) (zI V 0 41))) := ⟨r_fx_H (k := n + 1) r_fx_refl (by decide) (by rw [show r_hs 25 = 81 from rfl]; omega) (by show n + 1 < 81; omega), rfl, rfl, h.2.1⟩
  have h1 := r_mx_mf h x1
  obtain ⟨V2, a1, a2⟩ := m_must_x (F := F' + 1) (5 : Int32) _ h1
  have a1 : fX12_must (F' + 1) (zsA V 25 (upd (zA V 25) (81 * sd + n + 1) (zI V 0 41))) 5 = some V2 := a1
  have h2 := r_mx_mf h1 a2
  have x3 : r_mx sd V2 (zsA V2 26 (upd (zA V2 26) (81 * sd + n) (zI V2 0 46))) := ⟨r_fx_H (k := n) r_fx_refl (by decide) (by rw [show r_hs 26 = 81 from rfl]; omega) (by show n < 81; omega), rfl, rfl, h2.2.1⟩
  have h3 := r_mx_mf h2 x3
  obtain ⟨V4, d1, d2⟩ := m_b301_x (F := F' + 1) (nI n) _ h3
  have e19 : zI V2 0 19 = nI sd := h2.2.2.1
  rw [fX12_tellRule_b175, hsd.1, show (81 : Int32) = nI 81 from rfl, pk_mul, nI_add, nI_1, y_ck (by omega) (by decide), y_let, nI_clamp (by omega), a1, y_bd, e19, pk_mul, nI_add, y_ck (by omega) (by decide), y_let, nI_clamp (by omega), fX12_tellRule_l223, if_neg (by decide), if_neg (r_mf_ne h3).2]
  exact ⟨V4, d1, r_mx_trans (r_mx_trans (r_mx_trans x1 a2) x3) d2⟩
theorem m_b120_x {n : Nat} (hF : 2 ≤ F) (hn : n < 80) : r_xg sd (fun V => fX12_tellRule_b120 F V (nI n)) := by
  intro V h
  have hsd := h.2.2
  dsimp only
  have x1 : r_mx sd V (zsA V 25 (upd (zA V 25) (81 * sd + n) (zI V 0 41))) := ⟨r_fx_H (k := n) r_fx_refl (by decide) (by rw [show r_hs 25 = 81 from rfl]; omega) (by show n < 81; omega), rfl, rfl, h.2.1⟩
  have h1 := r_mx_mf h x1
  obtain ⟨V2, a1, a2⟩ := m_b175_x (F := F) hF hn _ h1
  rw [fX12_tellRule_b120, hsd.1, show (81 : Int32) = nI 81 from rfl, pk_mul, nI_add, y_ck (by omega) (by decide), y_let, nI_clamp (by omega), m_is_x h1, y_bd, if_pos rfl]
  exact ⟨V2, a1, r_mx_trans x1 a2⟩
theorem m_b23_x : r_xg sd (fX12_tellRule_b23 F) := by
  intro V h
  obtain ⟨V2, a1, a2⟩ := m_must_x (F := F) (31 : Int32) V h
  have a1 : fX12_must F V 31 = some V2 := a1
  rw [fX12_tellRule_b23, a1, y_bd, if_neg (r_mf_ne (r_mx_mf h a2)).1]
  exact ⟨V2, rfl, a2⟩
/-- what a rule's shape is, from the grammar -/
theorem r_rule_sh {j e : Nat} (hj : r_tK b L j = 11) (h : r_rule (r_tK b L) j = .ok e) : ∃ c, r_sh (r_tK b L) j c (e - 1) ∧ 0 < e := by
  unfold r_rule at h
  obtain ⟨a, h1, h⟩ := r_b_ok h
  obtain ⟨hn, rfl, hj1⟩ := r_newo_ok h1
  obtain ⟨a2, h2, h⟩ := r_b_ok h
  have ha2 : a2 = j + 2 ∧ (r_tK b L (j + 1) = 12 ∨ r_tK b L (j + 1) = 13 ∨ r_tK b L (j + 1) = 27) := by
    split at h2
    · rename_i q
      exact ⟨(r_pass_ok h2).1, by omega⟩
    · obtain ⟨k, z, -⟩ := r_need_ok h2
      exact ⟨z, by omega⟩
  obtain ⟨rfl, hev⟩ := ha2
  obtain ⟨c, h3, h⟩ := r_b_ok h
  obtain ⟨c1, h4, h⟩ := r_b_ok h
  obtain ⟨k30, rfl, hc⟩ := r_need_ok h4
  obtain ⟨e1, h5, h⟩ := r_b_ok h
  rw [r_actsS_aq 13 1 e1 rfl (by decide)] at h
  obtain ⟨s, h6, h⟩ := r_b_ok h
  obtain ⟨k29, rfl, hs⟩ := r_need_ok h
  obtain ⟨i1, i2, i3⟩ := r_act_in h5
  have hcond : j + 2 ≤ c ∧ (r_tK b L (j + 2) = 14 ∨ c = j + 2) ∧ ∀ a, j + 3 ≤ a → a < c → r_ek (r_tK b L a) ∨ (37 ≤ r_tK b L a ∧ r_tK b L a ≤ 40) ∨ r_tK b L a = 15 := by
    split at h3
    · rename_i q
      obtain ⟨a3, h7, h3⟩ := r_b_ok h3
      obtain ⟨rfl, h8⟩ := r_pass_ok h7
      obtain ⟨l1, l2⟩ := r_cnd_in (b := b) (L := L) 1001 (j + 3) c (by omega) (by omega) h3 (r_pv_of (by omega))
      exact ⟨by omega, Or.inl q, l2⟩
    · cases h3
      exact ⟨Nat.le_refl _, Or.inr rfl, fun a h1 h2 => by omega⟩
  have aq : ∀ (n d i s : Nat), n + d = 14 → d ≤ 12 → r_aq (r_tK b L) n d i = .ok s → i ≤ s ∧ ∀ a, i ≤ a → a < s → r_ek (r_tK b L a) ∨ r_tK b L a = 31 ∨ (16 ≤ r_tK b L a ∧ r_tK b L a ≤ 24) := by
    intro n
    induction n with
    | zero => intro d i s h h2; omega
    | succ n ih =>
      intro d i s h h2 h3
      rw [r_aq] at h3
      split at h3
      · rename_i q
        obtain ⟨a, h4, h3⟩ := r_b_ok h3
        obtain ⟨rfl, -⟩ := r_pass_ok h4
        split at h3
        · split at h3 <;> cases h3
        · obtain ⟨a2, h5, h3⟩ := r_b_ok h3
          obtain ⟨l1, l2, l3⟩ := r_act_in h5
          obtain ⟨l4, l5⟩ := ih (d + 1) a2 s (by omega) (by omega) h3
          refine ⟨by omega, fun a h6 h7 => ?_⟩
          by_cases q1 : a = i
          · subst q1; exact Or.inr (Or.inl q)
          by_cases q2 : a = i + 1
          · subst q2; exact Or.inr (Or.inr l2)
          by_cases q3 : a < a2
          · exact Or.inl (l3 a (by omega) q3)
          · exact l5 a (by omega) h7
      · cases h3
        exact ⟨Nat.le_refl _, fun a h1 h2 => by omega⟩
  obtain ⟨l1, l2⟩ := aq 13 1 e1 s rfl (by decide) h6
  refine ⟨c, ⟨hj, hev, hcond.2.1, hcond.1, by omega, by omega, k30, by rw [Nat.add_sub_cancel]; exact k29, i2, hcond.2.2, fun a h7 h8 => ?_, hn⟩, by omega⟩
  by_cases q1 : a = c + 1
  · subst q1; exact Or.inr (Or.inr i2)
  by_cases q2 : a < e1
  · exact Or.inl (i3 a (by omega) q2)
  · exact l2 a (by omega) (by omega)
end
