/-! ===== E's in the reference ===== -/
section
variable {F : Nat} {b : Nat → Nat} {L M sd : Nat} {V : zV}
def r_wp (b : Nat → Nat) (L i : Nat) : Nat → Nat → Prop := fun j k => j < i ∧ r_fb b L j k
/-- all tokens ahead of i are seen to -/
def r_mr (b : Nat → Nat) (L M sd i : Nat) (V : zV) : Prop := r_ms b L M sd i (r_tl b L i) (r_wp b L i) V
def r_pv (K : Nat → Nat) (i : Nat) : Prop := r_ro K i = 6 ∧ ¬ K (i - 1) = 9
theorem r_quiet {i : Nat} (h1 : ¬ r_tK b L i = 27) (h2 : ¬ (r_tK b L i = 28 ∧ r_tK b L (i - 1) = 9)) : r_tl b L (i + 1) = r_tl b L i ∧ ∀ j k, r_wp b L (i + 1) j k ↔ r_wp b L i j k := by
  refine ⟨by rw [r_tl, if_neg (fun z => h1 z.1)], fun j k => ⟨fun z => ⟨?_, z.2⟩, fun z => ⟨by have := z.1; omega, z.2⟩⟩⟩
  by_cases q : j = i
  · subst q
    exfalso
    rcases z.2 with z | z
    · exact h1 z.1
    · exact h2 ⟨z.2.1, z.2.2.1⟩
  · have := z.1; omega
/-- a NAME that is looked up -/
theorem r_use {i s : Nat} (h1 : r_tK b L i = 27) (h2 : r_ro (r_tK b L) i = s) (hs : s < 7) (h3 : ¬ (r_tK b L (i - 1) = 27 ∧ (r_tK b L (i - 2) = 2 ∨ r_tK b L (i - 2) = 5))) : r_tl b L (i + 1) = r_tl b L i ∧ ∀ j k, r_wp b L (i + 1) j k ↔ (r_wp b L i j k ∨ (r_lk (r_tl b L i) (r_tW b L i) s = none ∧ j = i ∧ k = 4)) := by
  refine ⟨by rw [r_tl, if_neg (fun z => by have := z.2.1; omega)], fun j k => ⟨fun z => ?_, fun z => ?_⟩⟩
  · by_cases q : j = i
    · subst q
      right
      rcases z.2 with ⟨-, z | z | z⟩ | z
      · have := z.2.1; omega
      · rw [h2] at z; exact ⟨z.2.2, rfl, z.1⟩
      · exact absurd ⟨z.2.1, z.2.2.1⟩ h3
      · have := z.2.1; omega
    · exact Or.inl ⟨by have := z.1; omega, z.2⟩
  · rcases z with z | ⟨z1, rfl, rfl⟩
    · exact ⟨by have := z.1; omega, z.2⟩
    · exact ⟨by omega, Or.inl ⟨h1, Or.inr (Or.inl ⟨rfl, by omega, by rw [h2]; exact z1⟩)⟩⟩
theorem r_mr_P {i : Nat} {l : List r_E} {P : Nat → Nat → Prop} (h : r_ms b L M sd i l P V) (e1 : l = r_tl b L i) (e2 : ∀ j k, r_wp b L i j k ↔ P j k) : r_mr b L M sd i V := by
  subst e1
  exact ⟨h.1, h.2.1, h.2.2.1, h.2.2.2.1, r_ws_iff h.2.2.2.2 fun j k => (e2 j k).symm⟩
/-- the next token, which has no name -/
theorem m_nextq {i : Nat} (h : r_mr b L M sd i V) (h1 : ¬ r_tK b L i = 27) (h2 : ¬ (r_tK b L i = 28 ∧ r_tK b L (i - 1) = 9)) (h3 : ¬ r_tK b L i = 41) (h4 : ¬ r_tK b L i = 42) (h5 : i < 1000) : fX12_next F V = some (zsI V 0 11 (nI (i + 1))) ∧ r_mr b L M sd (i + 1) (zsI V 0 11 (nI (i + 1))) := by
  have hn := m_next (F := F) h h3 h4
  unfold r_pass at hn
  rw [if_pos h5] at hn
  obtain ⟨q1, q2⟩ := r_quiet h1 h2
  exact ⟨hn.1, r_mr_P hn.2.1 q1.symm q2⟩
theorem m_next_e {i : Nat} {l : List r_E} {P : Nat → Nat → Prop} (h : r_ms b L M sd i l P V) (h5 : ¬ i < 1000) : fX12_next F V = some (zsI (zsI V 0 13 (nI 2)) 0 14 (nI (r_tS b L i))) := by
  have lt := r_ms_lt h
  have e : i = 1000 := by omega
  unfold fX12_next
  rw [h.2.1.1, if_pos (show nI i = (1000 : Int32) by rw [e]; rfl), show (2 : Int32) = nI 2 from rfl, m_fail h, y_bd]
/-- the frame of an E -/
def r_ee (sd cc : Nat) (V V' : zV) : Prop := r_fx sd V V' ∧ (∀ k, k ∉ [11, 12, 13, 14, 15, 16, 54, 58] → zI V' 0 k = zI V 0 k) ∧ (∀ r, r ∉ [37, 38, 39] → zA V' r = zA V r) ∧ (∀ r, zB V' r = zB V r) ∧ ∀ k, k < 1200 * sd + cc → zA V' 37 k = zA V 37 k ∧ zA V' 38 k = zA V 38 k
theorem r_ee_refl {cc : Nat} : r_ee sd cc V V := ⟨r_fx_refl, fun _ _ => rfl, fun _ _ => rfl, fun _ => rfl, fun _ _ => ⟨rfl, rfl⟩⟩
theorem r_ee_trans {cc cc' : Nat} {V' V'' : zV} (h : r_ee sd cc V V') (g : r_ee sd cc' V' V'') (hc : cc ≤ cc') : r_ee sd cc V V'' :=
  ⟨r_fx_trans h.1 g.1, fun k h1 => (g.2.1 k h1).trans (h.2.1 k h1), fun r h1 => (g.2.2.1 r h1).trans (h.2.2.1 r h1), fun r => (g.2.2.2.1 r).trans (h.2.2.2.1 r), fun k hk => ⟨(g.2.2.2.2 k (by omega)).1.trans (h.2.2.2.2 k hk).1, (g.2.2.2.2 k (by omega)).2.trans (h.2.2.2.2 k hk).2⟩⟩
theorem r_ee_ce {cc : Nat} {V' : zV} (h : r_ce sd cc V V') : r_ee sd cc V V' :=
  ⟨h.1, fun k hk => h.2.1 k (fun z => hk (by rw [z]; decide)) (fun z => hk (by rw [z]; decide)), fun r hr => h.2.2.1 r (fun z => hr (by rw [z]; decide)) (fun z => hr (by rw [z]; decide)), h.2.2.2.1, h.2.2.2.2⟩
theorem r_ee_I {cc k : Nat} {V' : zV} {x : Int32} (h : r_ee sd cc V V') (hk : k ∈ [11, 12, 13, 14, 15, 16, 54, 58]) : r_ee sd cc V (zsI V' 0 k x) :=
  ⟨r_fx_I h.1 ((show ∀ k ∈ [11, 12, 13, 14, 15, 16, 54, 58], k ∈ r_sc by decide) k hk), fun k' m => by rw [y_get.1, if_neg (fun z => m (by rw [z.2]; exact hk))]; exact h.2.1 k' m, h.2.2.1, h.2.2.2.1, h.2.2.2.2⟩
theorem r_ee_W {cc : Nat} {V' : zV} {f : Nat → Int32} (h : r_ee sd cc V V') : r_ee sd cc V (zsA V' 39 f) := by
  refine ⟨r_fx_W h.1 (by decide), h.2.1, fun r hr => ?_, h.2.2.2.1, h.2.2.2.2⟩
  have e : zA (zsA V' 39 f) r = if r = 39 then f else zA V' r := rfl
  rw [e, if_neg (fun z => hr (by rw [z]; decide))]
  exact h.2.2.1 r hr
theorem r_ee_sw {cc : Nat} {V' : zV} (h : r_sw V V') : r_ee sd cc V V' := ⟨r_sw_fx h, fun k hk => h.1 0 k fun z => hk (by rcases z.2 with rfl | rfl <;> decide), fun r _ => h.2.1 r, h.2.2.1, fun k _ => ⟨by rw [h.2.1], by rw [h.2.1]⟩⟩
/-- what an E left behind itself -/
def r_eo (b : Nat → Nat) (L M sd i0 lo cc : Nat) (V : zV) (res : Option zV) (s : r_r) : Prop := match s with
  | .error (f, j) => ∃ V', res = some V' ∧ r_me b L sd f j V V'
  | .ok j => ∃ V' cc', res = some V' ∧ r_mr b L M sd j V' ∧ zI V' 0 12 = 0 ∧ zI V' 0 54 = nI (1200 * sd + cc') ∧ cc ≤ cc' ∧ cc' ≤ j ∧ r_ee sd cc V V' ∧
    ∀ E T, r_TT b L E T → j < E → (15 = r_tK b L j ∨ (29 ≤ r_tK b L j ∧ r_tK b L j ≤ 31) ∨ 37 ≤ r_tK b L j) → ∀ vars left ip, ∃ v, y_E T vars left ip i0 = some (v, j) ∧ y_mE V' vars left ip lo (1200 * sd + cc') = some v
theorem r_eo_pre {i0 lo cc cc1 : Nat} {V1 : zV} {res : Option zV} {s : r_r} (h : r_ee sd cc V V1) (hc : cc ≤ cc1) (g : r_eo b L M sd i0 lo cc1 V1 res s) : r_eo b L M sd i0 lo cc V res s := by
  unfold r_eo at *
  split
  · obtain ⟨V', a1, a2⟩ := g
    exact ⟨V', a1, r_me_pre h.1 a2⟩
  · obtain ⟨V', cc', a1, a2, a3, a4, a5, a6, a7, a8⟩ := g
    exact ⟨V', cc', a1, a2, a3, a4, by omega, a6, r_ee_trans h a7 hc, a8⟩
/-- a unit is wanted -/
def r_wnt (b : Nat → Nat) (L sd i0 lo i : Nat) (x : r_X) (sh : List r_X) (m : Bool) (cc : Nat) (V : zV) : Prop :=
  r_wc sd (r_seg x ++ r_wo sh) cc V ∧ zI V 0 12 = nI sh.length ∧ sh.length ≤ 6 ∧ lo ≤ 1200 * sd + cc ∧ i0 ≤ i ∧ cc + (r_seg x ++ r_wo sh).length ≤ i + sh.length ∧ (m = true → x = (false, false, false)) ∧ r_pv (r_tK b L) i ∧ (∀ s c, r_lk (r_tl b L i) s 6 = some c → c < 16) ∧
  ∀ E T, r_TT b L E T → i ≤ E → ∀ vars left ip, ∃ v vs f3 f4 fr, r_fo sh vs f3 f4 ∧ (m = true → fr = 1) ∧ y_mx (zA V 37) (zA V 38) vars left ip (1200 * sd + cc - lo) lo [] = some (r_pt x v ++ r_pile sh vs) ∧
    y_E T vars left ip i0 = y_W T vars left ip (1001 - (i - i0)) sh.length f3 f4 (r_s x v) (r_t x v) fr i
/-- a unit was read -/
def r_hav (b : Nat → Nat) (L sd i0 lo i : Nat) (x : r_X) (sh : List r_X) (cc : Nat) (V : zV) : Prop :=
  r_wc sd (r_seg x ++ r_wo sh) cc V ∧ zI V 0 12 = nI sh.length ∧ sh.length ≤ 6 ∧ lo ≤ 1200 * sd + cc ∧ i0 ≤ i ∧ cc + (r_seg x ++ r_wo sh).length ≤ i + sh.length ∧ (∀ s c, r_lk (r_tl b L i) s 6 = some c → c < 16) ∧
  ∀ E T, r_TT b L E T → i ≤ E → ∀ vars left ip, ∃ v vs f3 f4 u, r_fo sh vs f3 f4 ∧ y_mx (zA V 37) (zA V 38) vars left ip (1200 * sd + cc - lo) lo [] = some (u :: (r_pt x v ++ r_pile sh vs)) ∧
    y_E T vars left ip i0 = y_W T vars left ip (1001 - (i - i0)) sh.length f3 f4 (r_s x v) (r_t x v * u) 0 i
theorem r_sum_m {K : Nat → Nat} : ∀ (n o : Nat) (m : Bool) (i : Nat), r_sum K n o false m i = r_sum K n o false false i := by
  intro n
  induction n with
  | zero => intro o m i; rfl
  | succ n ih =>
    intro o m i
    rw [r_sum_f, r_sum_f]
    have : r_sum K n (o - 1) false m = r_sum K n (o - 1) false false := funext fun j => ih _ _ _
    rw [this]
theorem m_l14_x (h : r_mf sd V) (N : Nat) (x1 x2 x3 : Int32) : fX12_expression_l14 F (N + 1) V x1 x2 x3 = some V := by
  rw [fX12_expression_l14, if_neg (r_mf_ne h).2]
  split <;> rfl
theorem m_l264_x {W : List Nat} {cc : Nat} (h : r_mf sd V) (hw : r_wc sd W cc V) (hF : 100 ≤ F) (hW : W.length ≤ 48) (hc : cc + W.length ≤ 1200) {k14 : zV → Int32 → Int32 → Int32 → Option zV} (N : Nat) (x1 x2 : Int32) : ∃ V', fX12_expression_l264 F k14 (N + 1) V x1 x2 = some V' ∧ r_mx sd V V' := by
  have b363 : ∃ V', fX12_expression_b363 F V = some V' ∧ r_mx sd V V' := by
    obtain ⟨V', a1, a2, a3, -⟩ := m_col (F := F) false W F cc V (by omega) hW hc hw
    have a1 : fX12_comesOut F V 0 = some V' := a1
    rw [fX12_expression_b363, a1, y_bd]
    obtain ⟨i, hi, e⟩ := h.2.1
    exact ⟨V', rfl, a3.1, a3.2.1 13 (by decide) (by decide), a3.2.1 14 (by decide) (by decide), i, hi, (a3.2.1 11 (by decide) (by decide)).trans e⟩
  rw [fX12_expression_l264, m_is_x h, y_bd, if_pos rfl, fX12_expression_b313, m_is_x h, y_bd, if_pos rfl, m_is_x h, y_bd, if_pos rfl, m_is_x h, y_bd, if_pos rfl, fX12_expression_b345, if_pos rfl, m_fail_x h, y_bd]
  split <;> exact b363
theorem r_pv_of {K : Nat → Nat} {i : Nat} (h : K i = 32 ∨ K i = 34 ∨ K i = 35 ∨ K i = 36 ∨ (37 ≤ K i ∧ K i ≤ 40) ∨ K i = 14 ∨ K i = 15 ∨ K i = 16) : r_pv K (i + 1) := by
  unfold r_pv r_ro
  rw [show i + 1 - 1 = i by omega]
  refine ⟨?_, by omega⟩
  rw [if_neg (by omega), if_neg (by omega), if_neg (by omega), if_neg (by omega), if_neg (by omega), if_neg (by omega)]
theorem r_fuel {i i0 : Nat} (h : i0 ≤ i) (h2 : i ≤ 1000) : 1001 - (i - i0) = (1001 - (i + 1 - i0)) + 1 := by omega
theorem r_wnt_weak {i0 lo i : Nat} {x : r_X} {sh : List r_X} {m : Bool} {cc : Nat} (h : r_wnt b L sd i0 lo i x sh m cc V) : r_wnt b L sd i0 lo i x sh false cc V := by
  obtain ⟨h1, h2, h3, h4, h5, h6, h7, h8, h9, h10⟩ := h
  refine ⟨h1, h2, h3, h4, h5, h6, fun z => (by cases z), h8, h9, fun E T hT hi vars left ip => ?_⟩
  obtain ⟨v, vs, f3, f4, fr, g1, g2, g3, g4⟩ := h10 E T hT hi vars left ip
  exact ⟨v, vs, f3, f4, fr, g1, fun z => (by cases z), g3, g4⟩
end
