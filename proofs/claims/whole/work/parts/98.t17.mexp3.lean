/-! ===== E's in the reference: behind a unit; the whole ===== -/
section
variable {F : Nat} {b : Nat → Nat} {L M sd : Nat} {V : zV}
/-- all of a level comes out -/
theorem m_exp_out {i cc : Nat} {x : r_X} {sh : List r_X} (hF : 1200 ≤ F) (hw : r_wc sd (r_seg x ++ r_wo sh) cc V) (h1 : (r_seg x ++ r_wo sh).length ≤ 20) (h2 : cc ≤ 1100) (tm : Bool) : ∃ V', fX12_comesOut F V (if tm = true then 1 else 0) = some V' ∧ r_wc sd (r_pop tm (r_seg x ++ r_wo sh)).2 (cc + (r_pop tm (r_seg x ++ r_wo sh)).1.length) V' ∧ r_ce sd cc V V' ∧
      ∀ lo, lo ≤ 1200 * sd + cc → ∀ vars left ip st, y_mx (zA V 37) (zA V 38) vars left ip (1200 * sd + cc - lo) lo [] = some st → y_mx (zA V' 37) (zA V' 38) vars left ip (1200 * sd + (cc + (r_pop tm (r_seg x ++ r_wo sh)).1.length) - lo) lo [] = r_run vars left ip (r_pop tm (r_seg x ++ r_wo sh)).1 st :=
  m_col (F := F) tm (r_seg x ++ r_wo sh) F cc V (by omega) (by omega) (by omega) hw
theorem m_exp_H {i0 lo n : Nat} (hF : 1200 ≤ F) (hn : n ≤ 1001) (hW : r_Wn F b L M sd i0 lo n) (hH : r_Hn F b L M sd i0 lo n) : r_Hn F b L M sd i0 lo (n + 1) := by
  intro N N2 i x sh m cc V hN hN2 hi h hw
  obtain ⟨N, rfl⟩ : ∃ N', N = N' + 1 := ⟨N - 1, by omega⟩
  obtain ⟨N2, rfl⟩ : ∃ N', N2 = N' + 1 := ⟨N2 - 1, by omega⟩
  obtain ⟨w1, w2, w3, w4, w5, w6, w9, w10⟩ := hw
  have lt := r_ms_lt h
  have kle := r_tK_le (b := b) (L := L) i
  have h13 := h.2.1.2.1
  have h11 := h.2.1.1
  have hlen : (r_seg x ++ r_wo sh).length ≤ 20 := by
    have := r_seg_len x
    have := r_wo_len sh
    rw [List.length_append]
    omega
  have hcc : cc ≤ 1100 := by omega
  -- all comes out
  have out := m_exp_out (F := F) (i := i) hF w1 hlen hcc false
  rw [r_pop_all] at out
  obtain ⟨V1, o1, o2, o3, o4⟩ := out
  have o1 : fX12_comesOut F V 0 = some V1 := o1
  have o2 : r_wc sd (r_wo sh) (cc + (r_all x).length) V1 := o2
  have al : (r_all x).length = (r_seg x).length := by
    obtain ⟨a, c, d⟩ := x
    cases a <;> cases c <;> cases d <;> rfl
  have ll : (r_seg x ++ r_wo sh).length = (r_seg x).length + (r_wo sh).length := List.length_append
  have m1 := r_mr_ce h o3
  -- what it comes to
  have sem : ∀ E T, r_TT b L E T → i ≤ E → ∀ vars left ip, ∃ v vs f3 f4 u, r_fo sh vs f3 f4 ∧ y_mx (zA V1 37) (zA V1 38) vars left ip (1200 * sd + (cc + (r_all x).length) - lo) lo [] = some ((r_s x v + r_t x v * u) :: r_pile sh vs) ∧
      y_E T vars left ip i0 = y_W T vars left ip (1001 - (i - i0)) sh.length f3 f4 (r_s x v) (r_t x v * u) 0 i := by
    intro E T hT hE vars left ip
    obtain ⟨v, vs, f3, f4, u, g1, g2, g3⟩ := w10 E T hT hE vars left ip
    exact ⟨v, vs, f3, f4, u, g1, by rw [o4 lo w4 vars left ip _ g2]; exact r_run_all x v, g3⟩
  rw [fX12_expression_l264, m_is h (k := 33) (x := 8) (by decide) rfl, y_bd, r_sum_f]
  -- not a bracket that closes
  have b313 : ¬ (r_tK b L i = 33 ∧ 0 < sh.length) → r_eo b L M sd i0 lo cc V (fX12_expression_b313 F (fX12_expression_l14 F (N2 + 1)) V 0 0) (if r_tK b L i = 34 ∨ r_tK b L i = 35 ∨ r_tK b L i = 36 then r_b (r_pass i) (r_sum (r_tK b L) n sh.length true false)
    else if 0 < sh.length then (if r_tK b L i = 33 then r_b (r_pass i) (r_sum (r_tK b L) n (sh.length - 1) false m) else .error (1, i)) else .ok i) := by
    intro hnb
    rw [fX12_expression_b313, m_is h (k := 34) (x := 9) (by decide) rfl, y_bd, m_is h (k := 35) (x := 10) (by decide) rfl, y_bd, m_is h (k := 36) (x := 11) (by decide) rfl, y_bd]
    -- a sign
    have sign : ∀ (y : Nat) (x' : r_X) (V2 : zV) (cc2 : Nat), y ≤ 11 → zA V 3 i = nI y → (r_tK b L i = 34 ∨ r_tK b L i = 35 ∨ r_tK b L i = 36) → r_ce sd cc V V2 → cc ≤ cc2 → r_wc sd (r_seg x' ++ r_wo sh).tail cc2 V2 → r_seg x' ++ r_wo sh = y :: (r_seg x' ++ r_wo sh).tail → cc2 + (r_seg x' ++ r_wo sh).length ≤ i + 1 + sh.length →
        (∀ E T, r_TT b L E T → i < E → ∀ vars left ip, ∃ v vs f3 f4, r_fo sh vs f3 f4 ∧ y_mx (zA V2 37) (zA V2 38) vars left ip (1200 * sd + cc2 - lo) lo [] = some (r_pt x' v ++ r_pile sh vs) ∧ y_E T vars left ip i0 = y_W T vars left ip (1001 - (i + 1 - i0)) sh.length f3 f4 (r_s x' v) (r_t x' v) 0 (i + 1)) →
        r_eo b L M sd i0 lo cc V (zchk (zix (zI V2 0 58) 48) <| zlet (zsA V2 39 (upd (zA V2 39) (zI V2 0 58).toNatClampNeg (nI y))) fun V7_4 => zlet (zsI V7_4 0 58 ((zI V7_4 0 58) + (1 : Int32))) fun V7_6 => zbd (fX12_next F V7_6) fun q8 => fX12_expression_l14 F (N2 + 1) q8 0 0 1) (r_b (r_pass i) (r_sum (r_tK b L) n sh.length true false)) := by
      intro y x' V2 cc2 hy hy3 hk f2 hcc2 wc2 htl hcl hsem
      have hl2 : (r_seg x' ++ r_wo sh).tail.length + 1 = (r_seg x' ++ r_wo sh).length := by
        have := congrArg List.length htl
        rw [List.length_cons] at this
        exact this.symm
      have hlen2 : (r_seg x' ++ r_wo sh).length ≤ 20 := by
        have := r_seg_len x'
        have := r_wo_len sh
        rw [List.length_append]
        omega
      have m2 := r_mr_ce h f2
      have wp := m_wpush wc2 (by omega) hy
      rw [← htl] at wp
      have e58 : zI V2 0 58 = nI (r_seg x' ++ r_wo sh).tail.length := wc2.1
      have e58' : ∀ f, zI (zsA V2 39 f) 0 58 = nI (r_seg x' ++ r_wo sh).tail.length := fun _ => wc2.1
      simp only [y_let, e58, e58', y_ck (show (r_seg x' ++ r_wo sh).tail.length < 48 by omega) (show 48 < 2 ^ 31 by decide), nI_clamp (show (r_seg x' ++ r_wo sh).tail.length < 2 ^ 31 by omega), nI_1]
      generalize hV3 : zsI (zsA V2 39 (upd (zA V2 39) (r_seg x' ++ r_wo sh).tail.length (nI y))) 0 58 (nI ((r_seg x' ++ r_wo sh).tail.length + 1)) = V3 at wp ⊢
      have f3 : r_ee sd cc V V3 := by rw [← hV3]; exact r_ee_I (r_ee_W (r_ee_ce f2)) (by decide)
      have m3 : r_mr b L M sd i V3 := by
        rw [← hV3]
        exact r_mr_ee (cc := cc) m2 (r_ee_I (r_ee_W r_ee_refl) (by decide)) m2.2.1.1 m2.2.1.2.1 rfl rfl
      by_cases qi : i < 1000
      rotate_left
      · rw [m_next_e m3 qi, y_bd]
        have hme := r_me_pre f3.1 (m_fail_me m3 (f := 2) (Or.inr rfl))
        rw [m_l14_x (r_me_mf hme h.2.2.1)]
        unfold r_pass
        rw [if_neg qi]
        exact ⟨_, rfl, hme⟩
      obtain ⟨n1, n2⟩ := m_nextq (F := F) m3 (by omega) (by omega) (by omega) (by omega) qi
      rw [n1, y_bd]
      have h12 : zI V3 0 12 = nI sh.length := by
        rw [← hV3]
        exact (f2.2.1 12 (by decide) (by decide)).trans w2
      have e37 : zA (zsI V3 0 11 (nI (i + 1))) 37 = zA V2 37 := by rw [← hV3]; rfl
      have e38 : zA (zsI V3 0 11 (nI (i + 1))) 38 = zA V2 38 := by rw [← hV3]; rfl
      have := hW (N2 + 1) (i + 1) x' sh false cc2 (zsI V3 0 11 (nI (i + 1))) (by omega) (by omega) n2 ⟨wp, h12, w3, by omega, by omega, hcl, fun z => (by cases z), r_pv_of (by omega), by rw [(r_quiet (b := b) (L := L) (i := i) (by omega) (by omega)).1]; exact w9, fun E T hT hE vars left ip => by
        obtain ⟨v, vs, f3, f4, g1, g2, g3⟩ := hsem E T hT (by omega) vars left ip
        exact ⟨v, vs, f3, f4, 0, g1, fun z => (by cases z), by rw [e37, e38]; exact g2, g3⟩⟩
      unfold r_pass
      rw [if_pos qi]
      exact r_eo_pre (r_ee_I f3 (by decide)) hcc2 this
    by_cases q34 : r_tK b L i = 34
    · rw [if_pos q34, if_neg (show ¬ (1 : Int32) = 0 by decide), if_pos (show r_tK b L i = 34 ∨ r_tK b L i = 35 ∨ r_tK b L i = 36 from Or.inl q34), fX12_expression_b340, fX12_expression_b345, if_neg (show ¬ (1 : Int32) = 0 by decide), h11, y_ck (by omega) (by decide), y_let, nI_clamp (by omega), m_kt h, show nI (r_rk (r_tK b L i)) = (9 : Int32) by rw [q34]; rfl, if_neg (show ¬ (9 : Int32) = 11 by decide), fX12_expression_b393, o1, y_bd]
      refine sign 9 (true, false, false) V1 (cc + (r_all x).length) (by decide) (by rw [m_kt h, q34]; rfl) (Or.inl q34) o3 (by omega) o2 rfl ?_ fun E T hT hE vars left ip => ?_
      · show cc + (r_all x).length + ((r_wo sh).length + 1) ≤ i + 1 + sh.length
        omega
      · obtain ⟨v, vs, f3, f4, u, g1, g2, g3⟩ := sem E T hT (by omega) vars left ip
        refine ⟨(r_s x v + r_t x v * u, 0), vs, f3, f4, g1, g2, ?_⟩
        rw [g3, r_fuel w5 lt.2.1, r_Wk hT (by omega), if_neg (by omega), if_neg (by omega), if_pos (Or.inl q34), if_pos q34, if_pos rfl]
        rfl
    rw [if_neg q34, if_pos rfl]
    by_cases q35 : r_tK b L i = 35
    · rw [if_pos q35, if_neg (show ¬ (1 : Int32) = 0 by decide), if_pos (show r_tK b L i = 34 ∨ r_tK b L i = 35 ∨ r_tK b L i = 36 from Or.inr (Or.inl q35)), fX12_expression_b340, fX12_expression_b345, if_neg (show ¬ (1 : Int32) = 0 by decide), h11, y_ck (by omega) (by decide), y_let, nI_clamp (by omega), m_kt h, show nI (r_rk (r_tK b L i)) = (10 : Int32) by rw [q35]; rfl, if_neg (show ¬ (10 : Int32) = 11 by decide), fX12_expression_b393, o1, y_bd]
      refine sign 10 (true, true, false) V1 (cc + (r_all x).length) (by decide) (by rw [m_kt h, q35]; rfl) (Or.inr (Or.inl q35)) o3 (by omega) o2 rfl ?_ fun E T hT hE vars left ip => ?_
      · show cc + (r_all x).length + ((r_wo sh).length + 1) ≤ i + 1 + sh.length
        omega
      · obtain ⟨v, vs, f3, f4, u, g1, g2, g3⟩ := sem E T hT (by omega) vars left ip
        refine ⟨(r_s x v + r_t x v * u, 0), vs, f3, f4, g1, g2, ?_⟩
        rw [g3, r_fuel w5 lt.2.1, r_Wk hT (by omega), if_neg (by omega), if_neg (by omega), if_pos (Or.inr q35), if_neg q34, if_pos rfl]
        rfl
    rw [if_neg q35, if_pos rfl]
    by_cases q36 : r_tK b L i = 36
    · rw [if_pos q36, if_neg (show ¬ (1 : Int32) = 0 by decide), if_pos (show r_tK b L i = 34 ∨ r_tK b L i = 35 ∨ r_tK b L i = 36 from Or.inr (Or.inr q36)), fX12_expression_b340, fX12_expression_b345, if_neg (show ¬ (1 : Int32) = 0 by decide), h11, y_ck (by omega) (by decide), y_let, nI_clamp (by omega), m_kt h, show nI (r_rk (r_tK b L i)) = (11 : Int32) by rw [q36]; rfl, if_pos rfl, fX12_expression_b393]
      have out2 := m_exp_out (F := F) (i := i) hF w1 hlen hcc true
      rw [r_pop_times] at out2
      obtain ⟨V2, p1, p2, p3, p4⟩ := out2
      have p1 : fX12_comesOut F V 1 = some V2 := p1
      rw [p1, y_bd]
      have p2 : r_wc sd (r_seg (x.1, x.2.1, false) ++ r_wo sh) (cc + (if x.2.2 = true then [6] else [] : List Nat).length) V2 := p2
      have es : r_seg (x.1, x.2.1, true) ++ r_wo sh = 11 :: (r_seg (x.1, x.2.1, false) ++ r_wo sh) := rfl
      have el : (if x.2.2 = true then [6] else [] : List Nat).length + (r_seg (x.1, x.2.1, false)).length = (r_seg x).length := by
        obtain ⟨a, c, d⟩ := x
        cases a <;> cases c <;> cases d <;> rfl
      refine sign 11 (x.1, x.2.1, true) V2 (cc + (if x.2.2 = true then [6] else [] : List Nat).length) (by decide) (by rw [m_kt h, q36]; rfl) (Or.inr (Or.inr q36)) p3 (by omega) p2 rfl ?_ fun E T hT hE vars left ip => ?_
      · rw [es, List.length_cons, List.length_append]
        omega
      · obtain ⟨v, vs, f3, f4, u, g1, g2, g3⟩ := w10 E T hT (by omega) vars left ip
        obtain ⟨v', t1, t2, t3⟩ := r_run_times (vars := vars) (left := left) (ip := ip) (u := u) (st := r_pile sh vs) x v
        refine ⟨v', vs, f3, f4, g1, (p4 lo w4 vars left ip _ g2).trans t1, ?_⟩
        rw [g3, r_fuel w5 lt.2.1, r_Wk hT (by omega), if_neg (by omega), if_neg (by omega), if_neg (by omega), if_neg (by omega), if_pos q36, t2, t3]
    rw [if_neg q36, if_pos rfl, if_neg (show ¬ (r_tK b L i = 34 ∨ r_tK b L i = 35 ∨ r_tK b L i = 36) from fun z => by rcases z with z | z | z <;> contradiction), fX12_expression_b345, if_pos rfl, w2]
    by_cases qo : 0 < sh.length
    · -- a bracket stands open
      have q33 : ¬ r_tK b L i = 33 := fun z => hnb ⟨z, qo⟩
      rw [if_neg (nI_nle qo (by omega)), if_pos qo, if_neg q33, show (1 : Int32) = nI 1 from rfl, m_fail h, y_bd]
      have hme := m_fail_me h (f := 1) (Or.inl rfl)
      have w1' : r_wc sd (r_seg x ++ r_wo sh) cc (zsI (zsI V 0 13 (nI 1)) 0 14 (nI (r_tS b L i))) := w1
      obtain ⟨V3, a1, -, a3, -⟩ := m_exp_out (F := F) (i := i) hF w1' hlen hcc false
      have a1 : fX12_comesOut F (zsI (zsI V 0 13 (nI 1)) 0 14 (nI (r_tS b L i))) 0 = some V3 := a1
      rw [fX12_expression_b363, a1, y_bd]
      refine ⟨V3, rfl, r_me_trans hme ⟨a3.1, a3.2.1 13 (by decide) (by decide), a3.2.1 14 (by decide) (by decide), i, lt.2.1, (a3.2.1 11 (by decide) (by decide)).trans h11⟩⟩
    · -- the end
      have e0 : sh = [] := List.length_eq_zero_iff.mp (by omega)
      subst e0
      rw [if_pos (show nI ([] : List r_X).length ≤ (0 : Int32) by decide), if_neg qo, fX12_expression_b363, o1, y_bd]
      refine ⟨V1, cc + (r_all x).length, rfl, m1, (o3.2.1 12 (by decide) (by decide)).trans w2, o2.2.2.1, by omega, ?_, r_ee_ce o3, fun E T hT hE hfol vars left ip => ?_⟩
      · have : (r_wo []).length = 0 := rfl
        have w6 : cc + (r_seg x ++ r_wo []).length ≤ i + 0 := w6
        omega
      · obtain ⟨v, vs, f3, f4, u, g1, g2, g3⟩ := sem E T hT (by omega) vars left ip
        refine ⟨r_s x v + r_t x v * u, ?_, ?_⟩
        · rw [g3, r_fuel w5 lt.2.1, r_Wk hT hE, if_neg (by omega), if_neg (by omega), if_neg (by omega), if_neg (by omega), if_neg (by omega)]
        · have e : r_pile [] vs = [] := by cases vs <;> rfl
          rw [e] at g2
          unfold y_mE
          rw [g2]
  by_cases q33 : r_tK b L i = 33
  rotate_left
  · rw [if_neg q33, if_pos rfl]
    exact b313 fun z => q33 z.1
  rw [if_pos q33, if_neg (show ¬ (1 : Int32) = 0 by decide), w2]
  by_cases qo : 0 < sh.length
  rotate_left
  · rw [if_pos (show nI sh.length ≤ (0 : Int32) by rw [show sh.length = 0 by omega]; decide)]
    exact b313 fun z => qo z.2
  -- a bracket closes
  cases sh with
  | nil => exact absurd qo (by decide)
  | cons y l =>
    have hl1 : (y :: l).length = l.length + 1 := List.length_cons
    have hll : (r_wo (y :: l)).length = (r_seg y ++ r_wo l).length + 1 := rfl
    rw [if_neg (nI_nle qo (by omega)), o1, y_bd, if_neg (by omega), if_pos qo, if_pos q33]
    have e58 : zI V1 0 58 = nI ((r_seg y ++ r_wo l).length + 1) := o2.1
    have e12 : zI V1 0 12 = nI (l.length + 1) := (o3.2.1 12 (by decide) (by decide)).trans w2
    have e12' : ∀ x, zI (zsI V1 0 58 x) 0 12 = nI (l.length + 1) := fun _ => e12
    simp only [y_let, e58, e12', nI_pred]
    have wc3 : r_wc sd (r_seg y ++ r_wo l) (cc + (r_all x).length) (zsI (zsI V1 0 58 (nI (r_seg y ++ r_wo l).length)) 0 12 (nI l.length)) := ⟨rfl, fun k z hk => o2.2.1 k z (r_rev_low hk), o2.2.2.1, o2.2.2.2⟩
    have f3 : r_ee sd cc V (zsI (zsI V1 0 58 (nI (r_seg y ++ r_wo l).length)) 0 12 (nI l.length)) := r_ee_I (r_ee_I (r_ee_ce o3) (by decide)) (by decide)
    have m3 : r_mr b L M sd i (zsI (zsI V1 0 58 (nI (r_seg y ++ r_wo l).length)) 0 12 (nI l.length)) := r_mr_ee (cc := cc) m1 (r_ee_I (r_ee_I r_ee_refl (by decide)) (by decide)) m1.2.1.1 m1.2.1.2.1 rfl rfl
    by_cases qi : i < 1000
    rotate_left
    · rw [m_next_e m3 qi, y_bd]
      have hme := r_me_pre f3.1 (m_fail_me m3 (f := 2) (Or.inr rfl))
      obtain ⟨N', rfl⟩ : ∃ N', N = N' + 1 := ⟨N - 1, by omega⟩
      obtain ⟨V4, a1, a2⟩ := m_l264_x (F := F) (W := r_seg y ++ r_wo l) (cc := cc + (r_all x).length) (r_me_mf hme h.2.2.1) wc3 (by omega) (by omega) (by omega) (k14 := fX12_expression_l14 F (N2 + 1)) N' 0 0
      rw [a1]
      unfold r_pass
      rw [if_neg qi]
      exact ⟨V4, rfl, r_me_trans hme a2⟩
    obtain ⟨n1, n2⟩ := m_nextq (F := F) m3 (by omega) (by omega) (by omega) (by omega) qi
    rw [n1, y_bd]
    have := hH N (N2 + 1) (i + 1) y l m (cc + (r_all x).length) (zsI (zsI (zsI V1 0 58 (nI (r_seg y ++ r_wo l).length)) 0 12 (nI l.length)) 0 11 (nI (i + 1))) (by omega) (by omega) (by omega) n2 ⟨wc3, rfl, by omega, by omega, by omega, by omega, by rw [(r_quiet (b := b) (L := L) (i := i) (by omega) (by omega)).1]; exact w9, fun E T hT hE vars left ip => by
      obtain ⟨v, vs, f3, f4, u, g1, g2, g3⟩ := sem E T hT (by omega) vars left ip
      cases vs with
      | nil => exact absurd g1 id
      | cons v2 vs =>
        refine ⟨v2, vs, f3, f4, r_s x v + r_t x v * u, g1.2.2, g2, ?_⟩
        rw [g3, r_fuel w5 lt.2.1, r_Wk hT (by omega), if_neg (by omega), if_pos ⟨q33, by omega⟩, hl1, Nat.add_sub_cancel, g1.1, g1.2.1]⟩
    unfold r_pass
    rw [if_pos qi]
    exact r_eo_pre (r_ee_I f3 (by decide)) (show cc ≤ cc + (r_all x).length by omega) this
theorem m_exp_W {i0 lo n : Nat} (hF : 1200 ≤ F) (hn : n ≤ 1001) (hB : r_Bn F b L M sd i0 lo n) (hB1 : r_Bn F b L M sd i0 lo (n + 1)) : r_Wn F b L M sd i0 lo (n + 1) := by
  intro N i x sh m cc V hN hi h hw
  obtain ⟨N, rfl⟩ : ∃ N', N = N' + 1 := ⟨N - 1, by omega⟩
  have hw' := hw
  obtain ⟨w1, w2, w3, w4, w5, w6, w7, w8, w9, w10⟩ := hw
  have lt := r_ms_lt h
  have h13 := h.2.1.2.1
  have h11 := h.2.1.1
  rw [fX12_expression_l14, if_neg (show ¬ (1 : Int32) = 0 by decide), if_pos h13]
  cases m with
  | false =>
    rw [r_b0, if_pos rfl]
    exact hB1 N i x sh cc V (by omega) hi h hw'
  | true =>
    rw [r_b1, if_neg (show ¬ (1 : Int32) = 0 by decide), m_is h (k := 35) (x := 10) (by decide) rfl, y_bd]
    have ex := w7 rfl
    subst ex
    by_cases q35 : r_tK b L i = 35
    rotate_left
    · rw [if_neg q35, if_pos rfl]
      have e : r_sum (r_tK b L) (n + 1) sh.length true true i = r_sum (r_tK b L) (n + 1) sh.length true false i := by
        rw [r_sum_t, r_sum_t, if_neg (show ¬ (r_tK b L i = 35 ∧ true = true) from fun z => q35 z.1), if_neg (show ¬ (r_tK b L i = 35 ∧ false = true) from fun z => q35 z.1)]
        have : r_sum (r_tK b L) n sh.length false true = r_sum (r_tK b L) n sh.length false false := funext fun j => r_sum_m _ _ _ _
        rw [this]
      rw [e]
      exact hB1 N i _ sh cc V (by omega) hi h (r_wnt_weak hw')
    rw [if_pos q35, if_neg (show ¬ (1 : Int32) = 0 by decide), r_sum_t, if_neg (show ¬ r_tK b L i = 32 by omega), if_pos (show r_tK b L i = 35 ∧ true = true from ⟨q35, rfl⟩)]
    have w1' : r_wc sd (r_wo sh) cc V := w1
    have hwl := r_wo_len sh
    by_cases qi : i < 1000
    rotate_left
    · rw [m_next_e h qi, y_bd]
      have hme := m_fail_me h (f := 2) (Or.inr rfl)
      have e58 : zI (zsI (zsI V 0 13 (nI 2)) 0 14 (nI (r_tS b L i))) 0 58 = nI (r_wo sh).length := w1.1
      rw [e58]
      simp only [y_let, y_ck (show (r_wo sh).length < 48 by omega) (show 48 < 2 ^ 31 by decide)]
      have hmx : r_mx sd (zsI (zsI V 0 13 (nI 2)) 0 14 (nI (r_tS b L i))) (zsI (zsA (zsI (zsI V 0 13 (nI 2)) 0 14 (nI (r_tS b L i))) 39 (upd (zA (zsI (zsI V 0 13 (nI 2)) 0 14 (nI (r_tS b L i))) 39) (nI (r_wo sh).length).toNatClampNeg 3)) 0 58 (zI (zsA (zsI (zsI V 0 13 (nI 2)) 0 14 (nI (r_tS b L i))) 39 (upd (zA (zsI (zsI V 0 13 (nI 2)) 0 14 (nI (r_tS b L i))) 39) (nI (r_wo sh).length).toNatClampNeg 3)) 0 58 + 1)) :=
        ⟨r_fx_I (r_fx_W r_fx_refl (by decide)) (by decide), rfl, rfl, i, lt.2.1, h11⟩
      have hmf := r_mx_mf (r_me_mf hme h.2.2.1) hmx
      unfold r_pass
      rw [if_neg qi]
      rw [fX12_expression_b62, m_is_x hmf, y_bd, if_pos rfl, if_neg (r_mf_ne hmf).1, fX12_expression_b155, if_neg (show ¬ (3 : Int32) = 2 by decide), if_neg (show ¬ (3 : Int32) = 1 by decide), if_neg (show ¬ (3 : Int32) = 45 by decide), if_neg (show ¬ (3 : Int32) = 46 by decide), m_fail_x hmf, y_bd, fX12_expression_b188, if_neg (r_mf_ne hmf).1]
      exact ⟨_, rfl, r_me_trans hme hmx⟩
    obtain ⟨n1, n2⟩ := m_nextq (F := F) h (by omega) (by omega) (by omega) (by omega) qi
    rw [n1, y_bd]
    have e58 : zI (zsI V 0 11 (nI (i + 1))) 0 58 = nI (r_wo sh).length := w1.1
    have e58' : ∀ f, zI (zsA (zsI V 0 11 (nI (i + 1))) 39 f) 0 58 = nI (r_wo sh).length := fun _ => w1.1
    simp only [y_let, e58, e58', y_ck (show (r_wo sh).length < 48 by omega) (show 48 < 2 ^ 31 by decide), nI_clamp (show (r_wo sh).length < 2 ^ 31 by omega), nI_1]
    have wc2 := m_wpush (V := zsI V 0 11 (nI (i + 1))) (x := 3) w1' (by omega) (by decide)
    have := hB N (i + 1) (false, true, false) sh cc (zsI (zsA (zsI V 0 11 (nI (i + 1))) 39 (upd (zA (zsI V 0 11 (nI (i + 1))) 39) (r_wo sh).length (nI 3))) 0 58 (nI ((r_wo sh).length + 1))) (by omega) (by omega) (r_mr_ee (cc := cc) n2 (r_ee_I (r_ee_W r_ee_refl) (by decide)) rfl h13 rfl rfl)
      ⟨wc2, w2, w3, w4, by omega, by
        show cc + ((r_wo sh).length + 1) ≤ i + 1 + sh.length
        have w6 : cc + (r_wo sh).length ≤ i + sh.length := w6
        omega, fun z => (by cases z), r_pv_of (by omega), by rw [(r_quiet (b := b) (L := L) (i := i) (by omega) (by omega)).1]; exact w9, fun E T hT hE vars left ip => by
        obtain ⟨v, vs, f3, f4, fr, g1, g2, g3, g4⟩ := w10 E T hT (by omega) vars left ip
        refine ⟨v, vs, f3, f4, 1, g1, fun z => (by cases z), g3, ?_⟩
        rw [g4, r_fuel w5 lt.2.1, r_Wk hT (by omega), if_neg (by omega), if_neg (by omega), if_pos (Or.inr q35), if_neg (show ¬ r_tK b L i = 34 by omega), g2 rfl, if_neg (show ¬ (1 : Int32) = 0 by decide)]
        rfl⟩
    unfold r_pass
    rw [if_pos qi]
    exact r_eo_pre (r_ee_I (r_ee_W (r_ee_I r_ee_refl (by decide))) (by decide)) (Nat.le_refl _) this
theorem m_exp_all {i0 lo : Nat} (hF : 1200 ≤ F) (hL : L ≤ 4000) : ∀ n, n ≤ 1001 → r_Wn F b L M sd i0 lo n ∧ r_Hn F b L M sd i0 lo n ∧ r_Bn F b L M sd i0 lo n := by
  intro n
  induction n with
  | zero =>
    intro _
    refine ⟨fun N i x sh m cc V _ hi h _ => ?_, fun N N2 i x sh m cc V _ _ hi h _ => ?_, fun N2 i x sh cc V _ hi h _ => ?_⟩
    · have := (r_ms_lt h).2.1; omega
    · have := (r_ms_lt h).2.1; omega
    · have := (r_ms_lt h).2.1; omega
  | succ n ih =>
    intro hn
    obtain ⟨i1, i2, i3⟩ := ih (by omega)
    have b1 := m_exp_B hF (by omega) hL i1 i2
    exact ⟨m_exp_W hF (by omega) i3 b1, m_exp_H hF (by omega) i1 i2, b1⟩
/-- an E -/
theorem m_exp {i cc : Nat} (hF : 1200 ≤ F) (hL : L ≤ 4000) (h : r_mr b L M sd i V) (h12 : zI V 0 12 = 0) (h54 : zI V 0 54 = nI (1200 * sd + cc)) (hcc : cc ≤ i) (hpv : r_pv (r_tK b L) i) (h16 : ∀ s c, r_lk (r_tl b L i) s 6 = some c → c < 16) : r_eo b L M sd i (1200 * sd + cc) cc V (fX12_expression F V) (r_exp (r_tK b L) i) := by
  have lt := r_ms_lt h
  have m0 : r_mr b L M sd i (zsI V 0 58 0) := r_mr_ee (cc := cc) h (r_ee_I r_ee_refl (by decide)) h.2.1.1 h.2.1.2.1 rfl rfl
  unfold fX12_expression r_exp
  rw [y_let, show zI (zsI V 0 58 0) 0 12 = 0 from h12]
  have := (m_exp_all (F := F) (b := b) (L := L) (M := M) (sd := sd) (i0 := i) (lo := 1200 * sd + cc) hF hL 1001 (Nat.le_refl _)).1 F i (false, false, false) [] true cc (zsI V 0 58 0) (by omega) (by omega) m0
    ⟨⟨rfl, fun k x hk => (by cases hk), h54, h.2.2.1.2⟩, h12, by decide, Nat.le_refl _, Nat.le_refl _, by show cc + 0 ≤ i + 0; omega, fun _ => rfl, hpv, h16, fun E T hT hE vars left ip => by
      refine ⟨(0, 0), [], fun _ => 0, fun _ => 0, 1, trivial, fun _ => rfl, ?_, ?_⟩
      · rw [Nat.sub_self]; rfl
      · rw [Nat.sub_self]; rfl⟩
  exact r_eo_pre (r_ee_I r_ee_refl (by decide)) (Nat.le_refl _) this
end
