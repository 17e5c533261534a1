/-! ===== relations and CONDs in the reference ===== -/
/-! what an E's tokens are -/
def r_ek (k : Nat) : Prop := (25 ≤ k ∧ k ≤ 28) ∨ (32 ≤ k ∧ k ≤ 36)
theorem r_tl_same {b : Nat → Nat} {L i : Nat} (h : ¬ (r_tK b L i = 27 ∧ 20 ≤ r_ro (r_tK b L) i)) : r_tl b L (i + 1) = r_tl b L i := by rw [r_tl, if_neg (fun z => h ⟨z.1, z.2.1⟩)]
theorem r_sum_in {b : Nat → Nat} {L : Nat} : ∀ (n o : Nat) (w m : Bool) (i j : Nat), r_sum (r_tK b L) n o w m i = .ok j → (w = true → r_pv (r_tK b L) i) → r_tl b L j = r_tl b L i ∧ ∀ a, i ≤ a → a < j → r_ek (r_tK b L a) ∧ (r_tK b L a = 27 → r_ro (r_tK b L) a = 6) := by
  intro n
  induction n with
  | zero =>
    intro o w m i j h _
    cases h
    exact ⟨rfl, fun a h1 h2 => by omega⟩
  | succ n ih =>
    intro o w m i j h hp
    have go : ∀ o' w' m', r_b (r_pass i) (r_sum (r_tK b L) n o' w' m') = .ok j → (w' = true → r_pv (r_tK b L) (i + 1)) → r_ek (r_tK b L i) → (r_tK b L i = 27 → r_ro (r_tK b L) i = 6) → r_tl b L j = r_tl b L i ∧ ∀ a, i ≤ a → a < j → r_ek (r_tK b L a) ∧ (r_tK b L a = 27 → r_ro (r_tK b L) a = 6) := by
      intro o' w' m' h hp' hk hro
      obtain ⟨i', h1, h2⟩ := r_b_ok h
      obtain ⟨rfl, -⟩ := r_pass_ok h1
      obtain ⟨t1, t2⟩ := ih _ _ _ _ _ h2 hp'
      refine ⟨t1.trans (r_tl_same fun z => ?_), fun a h3 h4 => ?_⟩
      · have := hro z.1; omega
      · by_cases q : a = i
        · subst q; exact ⟨hk, hro⟩
        · exact t2 a (by omega) h4
    cases w with
    | true =>
      have hp := hp rfl
      rw [r_sum_t] at h
      split at h
      · split at h
        · exact go _ _ _ h (fun _ => r_pv_of (by omega)) (by unfold r_ek; omega) (fun z => by omega)
        · cases h
      split at h
      · exact go _ _ _ h (fun _ => r_pv_of (by omega)) (by unfold r_ek; omega) (fun z => by omega)
      split at h
      · exact go _ _ _ h (fun z => by cases z) (by unfold r_ek; omega) (fun _ => hp.1)
      · cases h
    | false =>
      rw [r_sum_f] at h
      split at h
      · exact go _ _ _ h (fun _ => r_pv_of (by omega)) (by unfold r_ek; omega) (fun z => by omega)
      split at h
      · split at h
        · exact go _ _ _ h (fun z => by cases z) (by unfold r_ek; omega) (fun z => by omega)
        · cases h
      · cases h
        exact ⟨rfl, fun a h1 h2 => by omega⟩
theorem r_exp_in {b : Nat → Nat} {L i j : Nat} (h : r_exp (r_tK b L) i = .ok j) (hp : r_pv (r_tK b L) i) : r_tl b L j = r_tl b L i ∧ ∀ a, i ≤ a → a < j → r_ek (r_tK b L a) ∧ (r_tK b L a = 27 → r_ro (r_tK b L) a = 6) := r_sum_in _ _ _ _ _ _ h fun _ => hp
section
variable {F : Nat} {b : Nat → Nat} {L M sd : Nat} {V : zV}
/-- counters -/
def r_kt (sd cr ca cs cc : Nat) (V : zV) : Prop := zI V 0 41 = nI (400 * sd + cr) ∧ zI V 0 46 = nI (1000 * sd + ca) ∧ zI V 0 51 = nI cs ∧ zI V 0 54 = nI (1200 * sd + cc)
/-- the frame within rules -/
def r_gs : List Nat := [11, 12, 13, 14, 15, 16, 41, 46, 51, 54, 58]
def r_ga : List Nat := [27, 28, 29, 30, 31, 32, 33, 34, 35, 36, 37, 38, 39]
def r_gb (sd cr ca cs cc r k : Nat) : Prop := ((r = 27 ∨ r = 28 ∨ r = 29 ∨ r = 30) ∧ k < 400 * sd + cr) ∨ ((r = 31 ∨ r = 32 ∨ r = 33 ∨ r = 34) ∧ k < 1000 * sd + ca) ∨ ((r = 35 ∨ r = 36) ∧ k < cs) ∨ ((r = 37 ∨ r = 38) ∧ k < 1200 * sd + cc)
def r_gg (sd cr ca cs cc : Nat) (V V' : zV) : Prop := r_fx sd V V' ∧ (∀ k, k ∉ r_gs → zI V' 0 k = zI V 0 k) ∧ (∀ r, r ∉ r_ga → zA V' r = zA V r) ∧ (∀ r, zB V' r = zB V r) ∧ ∀ r k, r_gb sd cr ca cs cc r k → zA V' r k = zA V r k
theorem r_gg_refl {cr ca cs cc : Nat} : r_gg sd cr ca cs cc V V := ⟨r_fx_refl, fun _ _ => rfl, fun _ _ => rfl, fun _ => rfl, fun _ _ _ => rfl⟩
theorem r_gb_mono {cr ca cs cc cr' ca' cs' cc' r k : Nat} (h : r_gb sd cr ca cs cc r k) (h1 : cr ≤ cr') (h2 : ca ≤ ca') (h3 : cs ≤ cs') (h4 : cc ≤ cc') : r_gb sd cr' ca' cs' cc' r k := by
  unfold r_gb at *
  rcases h with h | h | h | h
  · exact Or.inl ⟨h.1, by omega⟩
  · exact Or.inr (Or.inl ⟨h.1, by omega⟩)
  · exact Or.inr (Or.inr (Or.inl ⟨h.1, by omega⟩))
  · exact Or.inr (Or.inr (Or.inr ⟨h.1, by omega⟩))
theorem r_gg_trans {cr ca cs cc cr' ca' cs' cc' : Nat} {V' V'' : zV} (h : r_gg sd cr ca cs cc V V') (g : r_gg sd cr' ca' cs' cc' V' V'') (h1 : cr ≤ cr') (h2 : ca ≤ ca') (h3 : cs ≤ cs') (h4 : cc ≤ cc') : r_gg sd cr ca cs cc V V'' :=
  ⟨r_fx_trans h.1 g.1, fun k m => (g.2.1 k m).trans (h.2.1 k m), fun r m => (g.2.2.1 r m).trans (h.2.2.1 r m), fun r => (g.2.2.2.1 r).trans (h.2.2.2.1 r), fun r k m => (g.2.2.2.2 r k (r_gb_mono m h1 h2 h3 h4)).trans (h.2.2.2.2 r k m)⟩
theorem r_gg_ee {cr ca cs cc : Nat} {V' : zV} (h : r_ee sd cc V V') : r_gg sd cr ca cs cc V V' := by
  refine ⟨h.1, fun k hk => h.2.1 k fun z => hk ((show ∀ k ∈ [11, 12, 13, 14, 15, 16, 54, 58], k ∈ r_gs by decide) k z), fun r hr => h.2.2.1 r fun z => hr ((show ∀ r ∈ [37, 38, 39], r ∈ r_ga by decide) r z), h.2.2.2.1, fun r k m => ?_⟩
  unfold r_gb at m
  rcases m with m | m | m | ⟨m | m, mk⟩
  · rw [h.2.2.1 r (by rcases m.1 with rfl | rfl | rfl | rfl <;> decide)]
  · rw [h.2.2.1 r (by rcases m.1 with rfl | rfl | rfl | rfl <;> decide)]
  · rw [h.2.2.1 r (by rcases m.1 with rfl | rfl <;> decide)]
  · rw [m]; exact (h.2.2.2.2 k mk).1
  · rw [m]; exact (h.2.2.2.2 k mk).2
theorem r_gg_sw {cr ca cs cc : Nat} {V' : zV} (h : r_sw V V') : r_gg sd cr ca cs cc V V' := r_gg_ee (r_ee_sw h)
theorem r_gg_I {cr ca cs cc k : Nat} {V' : zV} {x : Int32} (h : r_gg sd cr ca cs cc V V') (hk : k ∈ r_gs) : r_gg sd cr ca cs cc V (zsI V' 0 k x) :=
  ⟨r_fx_I h.1 ((show ∀ k ∈ r_gs, k ∈ r_sc by decide) k hk), fun k' m => by rw [y_get.1, if_neg (fun z => m (by rw [z.2]; exact hk))]; exact h.2.1 k' m, h.2.2.1, h.2.2.2.1, h.2.2.2.2⟩
/-- a row is written at its counter -/
theorem r_gg_H {cr ca cs cc r n k : Nat} {V' : zV} {x : Int32} (h : r_gg sd cr ca cs cc V V') (hr : r ∈ r_ga) (hr2 : r ∈ r_hr) (hn : n = sd * r_hs r + k) (hk : k < r_hs r) (hc : ¬ r_gb sd cr ca cs cc r n) : r_gg sd cr ca cs cc V (zsA V' r (upd (zA V' r) n x)) := by
  have e : ∀ f a, zA (zsA V' r f) a = if a = r then f else zA V' a := fun _ _ => rfl
  refine ⟨r_fx_H h.1 hr2 hn hk, h.2.1, fun a m => ?_, h.2.2.2.1, fun a c m => ?_⟩
  · rw [e, if_neg (fun z => m (by rw [z]; exact hr))]; exact h.2.2.1 a m
  · rw [e]
    by_cases q : a = r
    · subst q
      rw [if_pos rfl, y_upd, if_neg (fun z => hc (by rw [← z]; exact m))]
      exact h.2.2.2.2 a c m
    · rw [if_neg q]; exact h.2.2.2.2 a c m
theorem r_gg_W {cr ca cs cc r n : Nat} {V' : zV} {x : Int32} (h : r_gg sd cr ca cs cc V V') (hr : r = 35 ∨ r = 36) (hc : cs ≤ n) : r_gg sd cr ca cs cc V (zsA V' r (upd (zA V' r) n x)) := by
  have e : ∀ f a, zA (zsA V' r f) a = if a = r then f else zA V' a := fun _ _ => rfl
  refine ⟨r_fx_W h.1 (by rcases hr with rfl | rfl <;> decide), h.2.1, fun a m => ?_, h.2.2.2.1, fun a c m => ?_⟩
  · rw [e, if_neg (fun z => m (by rw [z]; rcases hr with rfl | rfl <;> decide))]; exact h.2.2.1 a m
  · rw [e]
    by_cases q : a = r
    · subst q
      rw [if_pos rfl, y_upd, if_neg (fun z => by
        subst z
        unfold r_gb at m
        rcases m with m | m | m | m
        · omega
        · omega
        · omega
        · omega)]
      exact h.2.2.2.2 a c m
    · rw [if_neg q]; exact h.2.2.2.2 a c m
theorem r_mr_gg {i cr ca cs cc : Nat} {V' : zV} (h : r_mr b L M sd i V) (f : r_gg sd cr ca cs cc V V') (h11 : zI V' 0 11 = zI V 0 11) (h13 : zI V' 0 13 = zI V 0 13) (h15 : zI V' 0 15 = zI V 0 15) (h16 : zI V' 0 16 = zI V 0 16) : r_mr b L M sd i V' :=
  r_ms_eq h f.1 (h11.trans h.2.1.1) (h13.trans h.2.1.2.1) h.2.1.2.2 h15 h16 (f.2.1 22 (by decide)) (f.2.2.2.1 9) (f.2.2.1 10 (by decide)) (f.2.2.1 11 (by decide))
theorem m_exp_xx (hF : 2 ≤ F) : r_xg sd (fX12_expression F) := by
  intro V h
  obtain ⟨F', rfl⟩ : ∃ F', F = F' + 1 := ⟨F - 1, by omega⟩
  have hx : r_mx sd V (zsI V 0 58 0) := ⟨r_fx_I r_fx_refl (by decide), rfl, rfl, h.2.1⟩
  unfold fX12_expression
  rw [y_let, m_l14_x (r_mx_mf h hx)]
  exact ⟨_, rfl, hx⟩
theorem m_b54_x (hF : 2 ≤ F) (x1 x2 : Int32) : r_xg sd (fun V => fX12_relation_b54 F V x1 x2) := by
  intro V h
  obtain ⟨V1, a1, a2⟩ := m_next_x (F := F) V h
  obtain ⟨V2, d1, d2⟩ := m_exp_xx (F := F) hF V1 (r_mx_mf h a2)
  dsimp only
  rw [fX12_relation_b54, a1, y_bd, d1, y_bd, if_neg (r_mf_ne (r_mx_mf (r_mx_mf h a2) d2)).1]
  exact ⟨V2, rfl, r_mx_trans a2 d2⟩
theorem m_rel_x (hF : 2 ≤ F) : r_xg sd (fX12_relation F) := by
  intro V h
  obtain ⟨V1, a1, a2⟩ := m_exp_xx (F := F) hF V h
  have h1 := r_mx_mf h a2
  obtain ⟨V2, d1, d2⟩ := m_b54_x (F := F) hF (zI V 0 54) 0 V1 h1
  have d1 : fX12_relation_b54 F V1 (zI V 0 54) 0 = some V2 := d1
  rw [fX12_relation, a1, y_bd, if_neg (r_mf_ne h1).1, fX12_relation_b32, if_neg (r_mf_ne h1).2, d1]
  exact ⟨V2, rfl, r_mx_trans a2 d2⟩
/-- a token behind which an E, a COND or an ACT has its end -/
def r_fol (k : Nat) : Prop := k = 15 ∨ (29 ≤ k ∧ k ≤ 31) ∨ 37 ≤ k
/-- relation number k (from token i up to e) in the reference's rows -/
def r_re (b : Nat → Nat) (L sd i e k cm : Nat) (V : zV) : Prop := ∃ a c d s, 1200 * sd ≤ a ∧ a ≤ c ∧ c ≤ d ∧ d ≤ 1200 * sd + cm ∧ zA V 28 k = nI a ∧ zA V 29 k = nI c ∧ zA V 30 k = nI d ∧ s ≤ 3 ∧ zA V 27 k = nI s ∧
  ∀ E T, r_TT b L E T → e < E → r_fol (r_tK b L e) → ∀ vars left ip, ∃ x y j, y_E T vars left ip i = some (x, j) ∧ y_E T vars left ip (j + 1) = some (y, e) ∧ y_K T j = nI s + 37 ∧ y_mE V vars left ip a c = some x ∧ y_mE V vars left ip c d = some y
theorem r_mE_same {V' : zV} {vars : Nat → Int32} {left ip : Int32} {a c : Nat} (h : ∀ k, k < c → zA V' 37 k = zA V 37 k ∧ zA V' 38 k = zA V 38 k) : y_mE V' vars left ip a c = y_mE V vars left ip a c := by
  unfold y_mE
  by_cases q : a ≤ c
  · rw [r_mx_ext _ _ _ fun j h1 h2 => h j (by omega)]
  · rw [show c - a = 0 by omega]; rfl
theorem r_relk : ∀ k : Fin 43, ¬ (37 ≤ k.1 ∧ k.1 ≤ 40) → (nI (r_rk k.1) - 12 < 0 ∨ ¬ nI (r_rk k.1) - 12 ≤ 3) := by decide +kernel
theorem r_relk2 : ∀ k : Fin 43, (37 ≤ k.1 ∧ k.1 ≤ 40) → nI (r_rk k.1) - 12 = nI (k.1 - 37) := by decide +kernel
/-- outcome of a piece within rules -/
def r_oo (b : Nat → Nat) (L M sd cr ca cs cc : Nat) (V : zV) (res : Option zV) (s : r_r) (Q : Nat → zV → Prop) : Prop := match s with
  | .error (f, j) => ∃ V', res = some V' ∧ r_me b L sd f j V V'
  | .ok j => ∃ V', res = some V' ∧ r_mr b L M sd j V' ∧ zI V' 0 12 = 0 ∧ r_gg sd cr ca cs cc V V' ∧ Q j V'
theorem m_rel {i cr ca cs cc : Nat} (hF : 1200 ≤ F) (hL : L ≤ 4000) (h : r_mr b L M sd i V) (h12 : zI V 0 12 = 0) (hk : r_kt sd cr ca cs cc V) (hcc : cc ≤ i) (hcr : cr ≤ 390) (hpv : r_pv (r_tK b L) i) (h16 : ∀ s c, r_lk (r_tl b L i) s 6 = some c → c < 16) :
    r_oo b L M sd cr ca cs cc V (fX12_relation F V) (r_rel (r_tK b L) i) fun e V' => ∃ cc', r_kt sd (cr + 1) ca cs cc' V' ∧ cc ≤ cc' ∧ cc' ≤ e ∧ r_re b L sd i e (400 * sd + cr) cc' V' ∧ i + 3 ≤ e ∧ r_tl b L e = r_tl b L i := by
  have hsd := h.2.2.1.2
  have ex1 := m_exp (F := F) hF hL h h12 hk.2.2.2 hcc hpv h16
  unfold r_rel fX12_relation
  cases hs : r_exp (r_tK b L) i with
  | error e =>
    rw [hs] at ex1
    obtain ⟨V1, a1, a2⟩ := ex1
    have h1 := r_me_mf a2 h.2.2.1
    obtain ⟨V2, d1, d2⟩ := m_b54_x (F := F) (by omega) (zI V 0 54) 0 V1 h1
    have d1 : fX12_relation_b54 F V1 (zI V 0 54) 0 = some V2 := d1
    rw [a1, y_bd, if_neg (r_mf_ne h1).1, fX12_relation_b32, if_neg (r_mf_ne h1).2, d1]
    exact ⟨V2, rfl, r_me_trans a2 d2⟩
  | ok j =>
    rw [hs] at ex1
    obtain ⟨V1, c1, a1, a2, a3, a4, a5, a6, a7, a8⟩ := ex1
    have lt1 := r_ms_lt a2
    have hij := r_exp_lt hs
    have kle := r_tK_le (b := b) (L := L) j
    rw [a1, y_bd, if_pos (show zI V1 0 13 ≤ 0 by rw [a2.2.1.2.1]; decide), a2.2.1.1, y_ck (by omega) (by decide), nI_clamp (by omega), m_kt a2, fX12_relation_b32, if_pos a2.2.1.2.1]
    show r_oo b L M sd cr ca cs cc V _ (if 37 ≤ r_tK b L j ∧ r_tK b L j ≤ 40 then r_b (r_pass j) (r_exp (r_tK b L)) else .error (1, j)) _
    by_cases q : 37 ≤ r_tK b L j ∧ r_tK b L j ≤ 40
    rotate_left
    · -- no relation's sign
      have hme := r_me_pre a7.1 (m_fail_me a2 (f := 1) (Or.inl rfl))
      obtain ⟨V2, d1, d2⟩ := m_b54_x (F := F) (by omega) (zI V 0 54) (nI (r_rk (r_tK b L j)) - 12) _ (r_me_mf hme h.2.2.1)
      have e49 : fX12_relation_b49 F V1 (zI V 0 54) (nI (r_rk (r_tK b L j)) - 12) = some V2 := by
        rw [fX12_relation_b49, show (1 : Int32) = nI 1 from rfl, m_fail a2, y_bd]; exact d1
      rw [if_neg q]
      refine ⟨V2, ?_, r_me_trans hme d2⟩
      rcases r_relk ⟨r_tK b L j, by omega⟩ q with z | z
      · rw [if_pos z, e49]
      · rw [if_neg z, e49, ite_self]
    have hs3 := r_relk2 ⟨r_tK b L j, by omega⟩ q
    have hs3 : nI (r_rk (r_tK b L j)) - 12 = nI (r_tK b L j - 37) := hs3
    rw [if_pos q, hs3, if_neg (nI_pos (by omega)), if_pos (show nI (r_tK b L j - 37) ≤ (3 : Int32) from nI_le (b := 3) (by omega) (by decide)), fX12_relation_b54]
    unfold r_pass
    by_cases qi : j < 1000
    rotate_left
    · rw [m_next_e a2 qi, y_bd, if_neg qi]
      have hme := r_me_pre a7.1 (m_fail_me a2 (f := 2) (Or.inr rfl))
      have h1 := r_me_mf hme h.2.2.1
      obtain ⟨V2, d1, d2⟩ := m_exp_xx (F := F) (by omega) _ h1
      rw [d1, y_bd, if_neg (r_mf_ne (r_mx_mf h1 d2)).1]
      exact ⟨V2, rfl, r_me_trans hme d2⟩
    obtain ⟨n1, n2⟩ := m_nextq (F := F) a2 (by omega) (by omega) (by omega) (by omega) qi
    have htl : r_tl b L j = r_tl b L i := (r_exp_in hs hpv).1
    rw [n1, y_bd, if_pos qi]
    have ex2 := m_exp (F := F) (i := j + 1) (cc := c1) hF hL n2 a3 a4 (by omega) (r_pv_of (by omega)) (by rw [(r_quiet (b := b) (L := L) (i := j) (by omega) (by omega)).1, htl]; exact h16)
    show r_oo b L M sd cr ca cs cc V _ (r_exp (r_tK b L) (j + 1)) _
    cases hs2 : r_exp (r_tK b L) (j + 1) with
    | error e =>
      rw [hs2] at ex2
      obtain ⟨V2, d1, d2⟩ := ex2
      have hme := r_me_pre (r_fx_I (k := 11) a7.1 (by decide)) d2
      rw [d1, y_bd, if_neg (r_mf_ne (r_me_mf hme h.2.2.1)).1]
      exact ⟨V2, rfl, hme⟩
    | ok e =>
      rw [hs2] at ex2
      obtain ⟨V2, c2, d1, d2, d3, d4, d5, d6, d7, d8⟩ := ex2
      have hje := r_exp_lt hs2
      have lt2 := r_ms_lt d2
      rw [d1, y_bd, if_pos (show zI V2 0 13 ≤ 0 by rw [d2.2.1.2.1]; decide), hk.2.2.2]
      have f12 : r_gg sd cr ca cs cc V V2 := r_gg_trans (r_gg_I (r_gg_ee (cr := cr) (ca := ca) (cs := cs) a7) (show 11 ∈ r_gs by decide)) (r_gg_ee (cr := cr) (ca := ca) (cs := cs) d7) (Nat.le_refl _) (Nat.le_refl _) (Nat.le_refl _) a5
      have e41 : zI V2 0 41 = nI (400 * sd + cr) := ((d7.2.1 41 (by decide)).trans (a7.2.1 41 (by decide))).trans hk.1
      have e46 : zI V2 0 46 = nI (1000 * sd + ca) := ((d7.2.1 46 (by decide)).trans (a7.2.1 46 (by decide))).trans hk.2.1
      have e51 : zI V2 0 51 = nI cs := ((d7.2.1 51 (by decide)).trans (a7.2.1 51 (by decide))).trans hk.2.2.1
      have e54 : zI (zsI V1 0 11 (nI (j + 1))) 0 54 = nI (1200 * sd + c1) := a4
      have g1 : ∀ f, zI (zsA V2 27 f) 0 41 = nI (400 * sd + cr) := fun _ => e41
      have g2 : ∀ f g, zI (zsA (zsA V2 27 f) 28 g) 0 41 = nI (400 * sd + cr) := fun _ _ => e41
      have g3 : ∀ f g u, zI (zsA (zsA (zsA V2 27 f) 28 g) 29 u) 0 41 = nI (400 * sd + cr) := fun _ _ _ => e41
      have g4 : ∀ f g u v, zI (zsA (zsA (zsA (zsA V2 27 f) 28 g) 29 u) 30 v) 0 41 = nI (400 * sd + cr) := fun _ _ _ _ => e41
      have g5 : ∀ f g u, zI (zsA (zsA (zsA V2 27 f) 28 g) 29 u) 0 54 = nI (1200 * sd + c2) := fun _ _ _ => d4
      have g6 : ∀ f, zA (zsA V2 27 f) 28 = zA V2 28 := fun _ => rfl
      have g7 : ∀ f g, zA (zsA (zsA V2 27 f) 28 g) 29 = zA V2 29 := fun _ _ => rfl
      have g8 : ∀ f g u, zA (zsA (zsA (zsA V2 27 f) 28 g) 29 u) 30 = zA V2 30 := fun _ _ _ => rfl
      simp only [e41, e54, g1, g2, g3, g4, g5, g6, g7, g8, y_let, y_ck (show 400 * sd + cr < 800 by omega) (show 800 < 2 ^ 31 by decide), nI_clamp (show 400 * sd + cr < 2 ^ 31 by omega), nI_1]
      have hb : ∀ r, (r = 27 ∨ r = 28 ∨ r = 29 ∨ r = 30) → ¬ r_gb sd cr ca cs cc r (400 * sd + cr) := by
        intro r hr z
        unfold r_gb at z
        omega
      have hh : ∀ r, (r = 27 ∨ r = 28 ∨ r = 29 ∨ r = 30) → 400 * sd + cr = sd * r_hs r + cr ∧ cr < r_hs r := by
        intro r hr
        have : r_hs r = 400 := by rcases hr with rfl | rfl | rfl | rfl <;> rfl
        rw [this]
        exact ⟨by rw [Nat.mul_comm], by omega⟩
      have w27 := r_gg_H (x := nI (r_tK b L j - 37)) f12 (r := 27) (by decide) (by decide) (hh 27 (by omega)).1 (hh 27 (by omega)).2 (hb 27 (by omega))
      have w28 := r_gg_H (x := nI (1200 * sd + cc)) w27 (r := 28) (by decide) (by decide) (hh 28 (by omega)).1 (hh 28 (by omega)).2 (hb 28 (by omega))
      have w29 := r_gg_H (x := nI (1200 * sd + c1)) w28 (r := 29) (by decide) (by decide) (hh 29 (by omega)).1 (hh 29 (by omega)).2 (hb 29 (by omega))
      have w30 := r_gg_H (x := nI (1200 * sd + c2)) w29 (r := 30) (by decide) (by decide) (hh 30 (by omega)).1 (hh 30 (by omega)).2 (hb 30 (by omega))
      rw [g6, g7, g8] at w30
      generalize hV3 : zsA (zsA (zsA (zsA V2 27 (upd (zA V2 27) (400 * sd + cr) (nI (r_tK b L j - 37)))) 28 (upd (zA V2 28) (400 * sd + cr) (nI (1200 * sd + cc)))) 29 (upd (zA V2 29) (400 * sd + cr) (nI (1200 * sd + c1)))) 30 (upd (zA V2 30) (400 * sd + cr) (nI (1200 * sd + c2))) = V3 at w30 ⊢
      have q27 : zA V3 27 (400 * sd + cr) = nI (r_tK b L j - 37) := by rw [← hV3]; show upd _ _ _ _ = _; rw [y_upd, if_pos rfl]
      have q28 : zA V3 28 (400 * sd + cr) = nI (1200 * sd + cc) := by rw [← hV3]; show upd _ _ _ _ = _; rw [y_upd, if_pos rfl]
      have q29 : zA V3 29 (400 * sd + cr) = nI (1200 * sd + c1) := by rw [← hV3]; show upd _ _ _ _ = _; rw [y_upd, if_pos rfl]
      have q30 : zA V3 30 (400 * sd + cr) = nI (1200 * sd + c2) := by rw [← hV3]; show upd _ _ _ _ = _; rw [y_upd, if_pos rfl]
      have e37 : zA (zsI V3 0 41 (nI (400 * sd + cr + 1))) 37 = zA V2 37 := by rw [← hV3]; rfl
      have e38 : zA (zsI V3 0 41 (nI (400 * sd + cr + 1))) 38 = zA V2 38 := by rw [← hV3]; rfl
      refine ⟨zsI V3 0 41 (nI (400 * sd + cr + 1)), rfl, ?_, ?_, r_gg_I w30 (by decide), c2, ⟨?_, ?_, ?_, ?_⟩, by omega, by omega, ⟨1200 * sd + cc, 1200 * sd + c1, 1200 * sd + c2, r_tK b L j - 37, by omega, by omega, by omega, by omega, q28, q29, q30, by omega, q27, fun E T hT hE hfol vars left ip => ?_⟩, by omega, ?_⟩
      · rw [← hV3]
        exact r_ms_eq d2 (r_fx_I (r_fx_H (k := cr) (r_fx_H (k := cr) (r_fx_H (k := cr) (r_fx_H (k := cr) r_fx_refl (by decide) (hh 27 (by omega)).1 (hh 27 (by omega)).2) (by decide) (hh 28 (by omega)).1 (hh 28 (by omega)).2) (by decide) (hh 29 (by omega)).1 (hh 29 (by omega)).2) (by decide) (hh 30 (by omega)).1 (hh 30 (by omega)).2) (by decide)) d2.2.1.1 d2.2.1.2.1 d2.2.1.2.2 rfl rfl rfl rfl rfl rfl
      · rw [← hV3]; exact d3
      · rfl
      · rw [← hV3]; exact e46
      · rw [← hV3]; exact e51
      · rw [← hV3]; exact d4
      · obtain ⟨y, y1, y2⟩ := d8 E T hT (by omega) (by unfold r_fol at hfol; omega) vars left ip
        obtain ⟨x, x1, x2⟩ := a8 E T hT (by omega) (by omega) vars left ip
        refine ⟨x, y, j, x1, y1, ?_, ?_, ?_⟩
        · rw [(hT j (by omega)).2.1, show (37 : Int32) = nI 37 from rfl, nI_add, Nat.sub_add_cancel q.1]
        · rw [← x2, r_mE_same (V := V1)]
          intro k hk
          rw [e37, e38]
          exact ⟨(d7.2.2.2.2 k hk).1, (d7.2.2.2.2 k hk).2⟩
        · rw [← y2]
          unfold y_mE
          rw [e37, e38]
      · rw [(r_exp_in hs2 (r_pv_of (by omega))).1, r_tl_same (fun z => by omega), htl]
end
