/-! ===== E's in the reference: a unit, what is behind it ===== -/
section
variable {F : Nat} {b : Nat → Nat} {L M sd : Nat} {V : zV}
/-- what three statements about an E's rest of so many tokens say -/
def r_Wn (F : Nat) (b : Nat → Nat) (L M sd i0 lo : Nat) (n : Nat) : Prop := ∀ (N i : Nat) (x : r_X) (sh : List r_X) (m : Bool) (cc : Nat) (V : zV), n + 1 ≤ N → 1001 ≤ n + i → r_mr b L M sd i V → r_wnt b L sd i0 lo i x sh m cc V →
  r_eo b L M sd i0 lo cc V (fX12_expression_l14 F N V 0 (if m = true then 1 else 0) 1) (r_sum (r_tK b L) n sh.length true m i)
def r_Hn (F : Nat) (b : Nat → Nat) (L M sd i0 lo : Nat) (n : Nat) : Prop := ∀ (N N2 i : Nat) (x : r_X) (sh : List r_X) (m : Bool) (cc : Nat) (V : zV), n + 1 ≤ N → n ≤ N2 → 1001 ≤ n + i → r_mr b L M sd i V → r_hav b L sd i0 lo i x sh cc V →
  r_eo b L M sd i0 lo cc V (fX12_expression_l264 F (fX12_expression_l14 F N2) N V 0 0) (r_sum (r_tK b L) n sh.length false m i)
def r_Bn (F : Nat) (b : Nat → Nat) (L M sd i0 lo : Nat) (n : Nat) : Prop := ∀ (N2 i : Nat) (x : r_X) (sh : List r_X) (cc : Nat) (V : zV), n ≤ N2 → 1001 ≤ n + i → r_mr b L M sd i V → r_wnt b L sd i0 lo i x sh false cc V →
  r_eo b L M sd i0 lo cc V (fX12_expression_b62 F (fX12_expression_l14 F N2) V 0 1) (r_sum (r_tK b L) n sh.length true false i)
theorem r_mr_ee {i cc : Nat} {V' : zV} (h : r_mr b L M sd i V) (f : r_ee sd cc V V') (h11 : zI V' 0 11 = nI i) (h13 : zI V' 0 13 = 0) (h15 : zI V' 0 15 = zI V 0 15) (h16 : zI V' 0 16 = zI V 0 16) : r_mr b L M sd i V' :=
  r_ms_eq h f.1 h11 h13 h.2.1.2.2 h15 h16 (f.2.1 22 (by decide)) (f.2.2.2.1 9) (f.2.2.1 10 (by decide)) (f.2.2.1 11 (by decide))
theorem r_mr_ce {i cc : Nat} {V' : zV} (h : r_mr b L M sd i V) (f : r_ce sd cc V V') : r_mr b L M sd i V' :=
  r_mr_ee h (r_ee_ce f) ((f.2.1 11 (by decide) (by decide)).trans h.2.1.1) ((f.2.1 13 (by decide) (by decide)).trans h.2.1.2.1) (f.2.1 15 (by decide) (by decide)) (f.2.1 16 (by decide) (by decide))
theorem r_t0 (v : r_Y) : r_t (false, false, false) v = 1 := rfl
/-- a token goes by -/
theorem r_fail2 {i cc : Nat} (h : r_mr b L M sd i V) : r_me b L sd 2 i V (zsI (zsI V 0 13 (nI 2)) 0 14 (nI (r_tS b L i))) := m_fail_me h (Or.inr rfl)
theorem m_exp_B {i0 lo n : Nat} (hF : 1200 ≤ F) (hn : n ≤ 1001) (hL : L ≤ 4000) (hW : r_Wn F b L M sd i0 lo n) (hH : r_Hn F b L M sd i0 lo n) : r_Bn F b L M sd i0 lo (n + 1) := by
  intro N2 i x sh cc V hN hi h hw
  obtain ⟨N2, rfl⟩ : ∃ N', N2 = N' + 1 := ⟨N2 - 1, by omega⟩
  obtain ⟨w1, w2, w3, w4, w5, w6, -, w8, w9, w10⟩ := hw
  have lt := r_ms_lt h
  have kle := r_tK_le (b := b) (L := L) i
  have h13 := h.2.1.2.1
  have h11 := h.2.1.1
  have hlen : (r_seg x ++ r_wo sh).length ≤ 20 := by
    have := r_seg_len x
    have := r_wo_len sh
    rw [List.length_append]
    omega
  rw [fX12_expression_b62, m_is h (k := 32) (x := 7) (by decide) rfl, y_bd, r_sum_t]
  by_cases q32 : r_tK b L i = 32
  · -- a bracket
    rw [if_pos q32, if_neg (by decide), if_pos q32, w2]
    by_cases qo : sh.length < 6
    rotate_left
    · rw [if_pos (show nI sh.length = (6 : Int32) by rw [show sh.length = 6 by omega]; rfl), show (2 : Int32) = nI 2 from rfl, m_fail h, y_bd, if_neg qo, fX12_expression_b85, if_neg (show ¬ zI (zsI (zsI V 0 13 (nI 2)) 0 14 (nI (r_tS b L i))) 0 13 ≤ 0 by show ¬ nI 2 ≤ (0 : Int32); decide)]
      exact ⟨_, rfl, m_fail_me h (Or.inr rfl)⟩
    rw [if_neg (show ¬ nI sh.length = (6 : Int32) from fun z => by have := (nI_eq (b := 6) (by omega) (by decide)).mp z; omega), if_pos qo, fX12_expression_b85, if_pos (show zI V 0 13 ≤ 0 by rw [h13]; decide), w2, nI_1, y_let]
    have f1 : r_ee sd cc V (zsI V 0 12 (nI (sh.length + 1))) := r_ee_I r_ee_refl (by decide)
    have m1 : r_mr b L M sd i (zsI V 0 12 (nI (sh.length + 1))) := r_mr_ee h f1 h11 h13 rfl rfl
    have wc1 : r_wc sd (r_seg x ++ r_wo sh) cc (zsI V 0 12 (nI (sh.length + 1))) := w1
    by_cases qi : i < 1000
    rotate_left
    · -- no room
      rw [m_next_e m1 qi, y_bd]
      have e58 : zI (zsI (zsI (zsI V 0 12 (nI (sh.length + 1))) 0 13 (nI 2)) 0 14 (nI (r_tS b L i))) 0 58 = nI (r_seg x ++ r_wo sh).length := w1.1
      have hme := r_me_pre f1.1 (m_fail_me m1 (f := 2) (Or.inr rfl))
      rw [e58]
      simp only [y_let, y_ck (show (r_seg x ++ r_wo sh).length < 48 by omega) (show 48 < 2 ^ 31 by decide)]
      have hmx : r_mx sd (zsI (zsI (zsI V 0 12 (nI (sh.length + 1))) 0 13 (nI 2)) 0 14 (nI (r_tS b L i))) (zsI (zsA (zsI (zsI (zsI V 0 12 (nI (sh.length + 1))) 0 13 (nI 2)) 0 14 (nI (r_tS b L i))) 39 (upd (zA (zsI (zsI (zsI V 0 12 (nI (sh.length + 1))) 0 13 (nI 2)) 0 14 (nI (r_tS b L i))) 39) (nI (r_seg x ++ r_wo sh).length).toNatClampNeg 7)) 0 58 (zI (zsA (zsI (zsI (zsI V 0 12 (nI (sh.length + 1))) 0 13 (nI 2)) 0 14 (nI (r_tS b L i))) 39 (upd (zA (zsI (zsI (zsI V 0 12 (nI (sh.length + 1))) 0 13 (nI 2)) 0 14 (nI (r_tS b L i))) 39) (nI (r_seg x ++ r_wo sh).length).toNatClampNeg 7)) 0 58 + 1)) :=
        ⟨r_fx_I (r_fx_W r_fx_refl (by decide)) (by decide), rfl, rfl, i, lt.2.1, h11⟩
      have hmf := r_mx_mf (r_me_mf hme h.2.2.1) hmx
      rw [m_l14_x hmf]
      unfold r_pass
      rw [if_neg qi]
      exact ⟨_, rfl, r_me_trans hme hmx⟩
    obtain ⟨n1, n2⟩ := m_nextq (F := F) m1 (by omega) (by omega) (by omega) (by omega) qi
    rw [n1, y_bd]
    have e58 : zI (zsI (zsI V 0 12 (nI (sh.length + 1))) 0 11 (nI (i + 1))) 0 58 = nI (r_seg x ++ r_wo sh).length := w1.1
    have e58' : ∀ f, zI (zsA (zsI (zsI V 0 12 (nI (sh.length + 1))) 0 11 (nI (i + 1))) 39 f) 0 58 = nI (r_seg x ++ r_wo sh).length := fun _ => w1.1
    simp only [y_let, e58, e58', y_ck (show (r_seg x ++ r_wo sh).length < 48 by omega) (show 48 < 2 ^ 31 by decide), nI_clamp (show (r_seg x ++ r_wo sh).length < 2 ^ 31 by omega), nI_1]
    have wc2 : r_wc sd (7 :: (r_seg x ++ r_wo sh)) cc (zsI (zsA (zsI (zsI V 0 12 (nI (sh.length + 1))) 0 11 (nI (i + 1))) 39 (upd (zA (zsI (zsI V 0 12 (nI (sh.length + 1))) 0 11 (nI (i + 1))) 39) (r_seg x ++ r_wo sh).length (nI 7))) 0 58 (nI ((r_seg x ++ r_wo sh).length + 1))) :=
      m_wpush (V := zsI (zsI V 0 12 (nI (sh.length + 1))) 0 11 (nI (i + 1))) w1 (by omega) (by decide)
    have f2 : r_ee sd cc V (zsI (zsA (zsI (zsI V 0 12 (nI (sh.length + 1))) 0 11 (nI (i + 1))) 39 (upd (zA (zsI (zsI V 0 12 (nI (sh.length + 1))) 0 11 (nI (i + 1))) 39) (r_seg x ++ r_wo sh).length (nI 7))) 0 58 (nI ((r_seg x ++ r_wo sh).length + 1))) := r_ee_I (r_ee_W (r_ee_I f1 (by decide))) (by decide)
    have m2 : r_mr b L M sd (i + 1) (zsI (zsA (zsI (zsI V 0 12 (nI (sh.length + 1))) 0 11 (nI (i + 1))) 39 (upd (zA (zsI (zsI V 0 12 (nI (sh.length + 1))) 0 11 (nI (i + 1))) 39) (r_seg x ++ r_wo sh).length (nI 7))) 0 58 (nI ((r_seg x ++ r_wo sh).length + 1))) := r_mr_ee (cc := cc) n2 (r_ee_I (r_ee_W r_ee_refl) (by decide)) rfl h13 rfl rfl
    have := hW (N2 + 1) (i + 1) (false, false, false) (x :: sh) true cc _ (by omega) (by omega) m2 ⟨wc2, rfl, by rw [List.length_cons]; omega, w4, by omega, by
        show cc + ((r_seg x ++ r_wo sh).length + 1) ≤ i + 1 + (sh.length + 1)
        omega, fun _ => rfl, r_pv_of (Or.inl q32), by rw [(r_quiet (b := b) (L := L) (i := i) (by omega) (by omega)).1]; exact w9, fun E T hT hE vars left ip => by
        obtain ⟨v, vs, f3, f4, fr, g1, -, g3, g4⟩ := w10 E T hT (by omega) vars left ip
        refine ⟨(0, 0), v :: vs, upd f3 sh.length (r_s x v), upd f4 sh.length (r_t x v), 1, ⟨by rw [y_upd, if_pos rfl], by rw [y_upd, if_pos rfl], r_fo_upd sh vs (Nat.le_refl _) g1⟩, fun _ => rfl, g3, ?_⟩
        rw [g4, r_fuel w5 lt.2.1, r_Wk hT (by omega), if_pos ⟨q32, qo⟩]
        rfl⟩
    unfold r_pass
    rw [if_pos qi]
    exact r_eo_pre f2 (Nat.le_refl _) this
  rw [if_neg q32, if_pos rfl, if_pos (show zI V 0 13 ≤ 0 by rw [h13]; decide), h11, y_ck (by omega) (by decide), nI_clamp (by omega), m_kt h, if_neg q32, if_neg (show ¬ (r_tK b L i = 35 ∧ false = true) from fun z => by cases z.2)]
  -- a unit was seen to: the next token
  have fin : ∀ (V1 : zV) (u : (Nat → Int32) → Int32 → Int32 → Int32), (r_tK b L i = 28 ∨ r_tK b L i = 27 ∨ r_tK b L i = 25 ∨ r_tK b L i = 26) → r_ee sd cc V V1 → zI V1 0 12 = nI sh.length → r_wc sd (r_seg x ++ r_wo sh) (cc + 1) V1 → r_ms b L M sd i (r_tl b L (i + 1)) (r_wp b L (i + 1)) V1 → r_tl b L (i + 1) = r_tl b L i →
      (∀ vars left ip st, st.length ≤ 900 → y_mx (zA V 37) (zA V 38) vars left ip (1200 * sd + cc - lo) lo [] = some st → y_mx (zA V1 37) (zA V1 38) vars left ip (1200 * sd + (cc + 1) - lo) lo [] = some (u vars left ip :: st)) →
      (∀ E T, r_TT b L E T → i < E → ∀ vars left ip, y_unit vars left ip (nI (r_tK b L i)) (y_N T i) = u vars left ip) →
      r_eo b L M sd i0 lo cc V (fX12_expression_b260 F (fX12_expression_l14 F (N2 + 1)) V1 0 0) (r_b (r_pass i) (r_sum (r_tK b L) n sh.length false false)) := by
    intro V1 u hk f1 h12 wc1 m1 htl hm hu
    rw [fX12_expression_b260]
    by_cases qi : i < 1000
    rotate_left
    · rw [m_next_e m1 qi, y_bd]
      have hme := r_me_pre f1.1 (m_fail_me m1 (f := 2) (Or.inr rfl))
      obtain ⟨F', rfl⟩ : ∃ F', F = F' + 1 := ⟨F - 1, by omega⟩
      obtain ⟨V3, a1, a2⟩ := m_l264_x (F := F' + 1) (cc := cc + 1) (W := r_seg x ++ r_wo sh) (r_me_mf hme h.2.2.1) wc1 (by omega) (by omega) (by omega) (k14 := fX12_expression_l14 (F' + 1) (N2 + 1)) F' 0 0
      rw [a1]
      unfold r_pass
      rw [if_neg qi]
      exact ⟨V3, rfl, r_me_trans hme a2⟩
    have hn := m_next (F := F) m1 (by omega) (by omega)
    unfold r_pass at hn ⊢
    rw [if_pos qi] at hn ⊢
    obtain ⟨n1, n2, n3⟩ := hn
    rw [n1, y_bd]
    have := hH F (N2 + 1) (i + 1) x sh false (cc + 1) (zsI V1 0 11 (nI (i + 1))) (by omega) (by omega) (by omega) n2 ⟨wc1, h12, w3, by omega, by omega, by omega, by rw [htl]; exact w9, fun E T hT hE vars left ip => by
      obtain ⟨v, vs, f3, f4, fr, g1, -, g3, g4⟩ := w10 E T hT (by omega) vars left ip
      refine ⟨v, vs, f3, f4, u vars left ip, g1, hm vars left ip _ ?_ g3, ?_⟩
      · have := r_pile_len sh vs
        have h2 : (r_pt x v).length ≤ 2 := by
          obtain ⟨a, c, d⟩ := x
          unfold r_pt
          cases a <;> cases d <;> simp
        rw [List.length_append]
        omega
      · rw [g4, r_fuel w5 lt.2.1, r_Wk hT (by omega), if_neg (by omega), if_neg (by omega), if_neg (by omega), if_pos hk, hu E T hT (by omega)]⟩
    exact r_eo_pre (r_ee_I f1 (by decide)) (by omega) this
  by_cases q28 : r_tK b L i = 28
  · rw [if_pos (show r_tK b L i = 28 ∨ r_tK b L i = 27 ∨ r_tK b L i = 25 ∨ r_tK b L i = 26 from Or.inl q28), show nI (r_rk (r_tK b L i)) = (2 : Int32) by rw [q28]; rfl, fX12_expression_b155, if_pos rfl, fX12_expression_b188, if_pos (show zI V 0 13 ≤ 0 by rw [h13]; decide), if_pos rfl, h11, y_ck (by omega) (by decide), nI_clamp (by omega), (h.1.1.2 i lt.1).2.2.1 q28]
    obtain ⟨V1, a1, a2, a3, a4⟩ := m_emit (F := F) w1 (by omega) 0 (nI (r_tV b L i))
    obtain ⟨u1, u2⟩ := r_quiet (b := b) (L := L) (i := i) (by omega) (fun z => w8.2 z.2)
    rw [a1, y_bd]
    refine fin V1 (fun _ _ _ => nI (r_tV b L i)) (Or.inl q28) (r_ee_ce a3) ((a3.2.1 12 (by decide) (by decide)).trans w2) a2 ?_ u1 (fun vars left ip st hl hst => ?_) fun E T hT hE vars left ip => ?_
    · rw [u1]
      have := r_mr_ce h a3
      exact ⟨this.1, this.2.1, this.2.2.1, this.2.2.2.1, r_ws_iff this.2.2.2.2 fun j k => (u2 j k).symm⟩
    · rw [a4 lo w4 vars left ip st hst]
      show (if 999 < st.length then none else some (nI (r_tV b L i) :: st)) = some (nI (r_tV b L i) :: st)
      rw [if_neg (by omega)]
    · rw [(hT i hE).2.2 (Or.inr q28), q28]
      unfold r_nu
      rw [if_neg (by omega), if_pos q28]; rfl
  by_cases q27 : r_tK b L i = 27
  · rw [if_pos (show r_tK b L i = 28 ∨ r_tK b L i = 27 ∨ r_tK b L i = 25 ∨ r_tK b L i = 26 from Or.inr (Or.inl q27)), show nI (r_rk (r_tK b L i)) = (1 : Int32) by rw [q27]; rfl, fX12_expression_b155, if_neg (show ¬ (1 : Int32) = 2 by decide), if_pos rfl, fX12_expression_b188, if_pos (show zI V 0 13 ≤ 0 by rw [h13]; decide), if_neg (show ¬ (1 : Int32) = 2 by decide), if_pos rfl, h11]
    obtain ⟨V0, c1, c2, c3⟩ := m_named (F := F) (by omega) hL h (fun j k z => by have := z.1; omega) (j := i) (s := 6) (Nat.le_refl _) q27 (by omega)
    have c1 : fX12_named F V (nI i) 6 = _ := c1
    rw [c1, y_bd]
    have w1' : r_wc sd (r_seg x ++ r_wo sh) cc V0 := ⟨(c3.1 0 58 (fun z => by omega)).trans w1.1, by rw [c3.2.1 39]; exact w1.2.1, (c3.1 0 54 (fun z => by omega)).trans w1.2.2.1, w1.2.2.2⟩
    obtain ⟨V1, a1, a2, a3, a4⟩ := m_emit (F := F) w1' (by omega) 1 (nI ((r_lk (r_tl b L i) (r_tW b L i) 6).getD 0))
    have hno : ¬ (r_tK b L (i - 1) = 27 ∧ (r_tK b L (i - 2) = 2 ∨ r_tK b L (i - 2) = 5)) := by
      intro z
      have := w8.1
      unfold r_ro at this
      rw [if_neg (by omega), if_neg (by omega), if_neg (by omega), if_neg (by omega), if_neg (by omega), if_pos z.1] at this
      split at this
      · omega
      split at this
      · omega
      split at this <;> omega
    obtain ⟨u1, u2⟩ := r_use (b := b) (L := L) (i := i) q27 w8.1 (by omega) hno
    dsimp only
    rw [a1, y_bd]
    have hc16 : (r_lk (r_tl b L i) (r_tW b L i) 6).getD 0 < 16 := by
      cases hlk : r_lk (r_tl b L i) (r_tW b L i) 6 with
      | none => exact Nat.zero_lt_succ _
      | some c => exact w9 _ c hlk
    refine fin V1 (fun vars _ _ => vars ((r_lk (r_tl b L i) (r_tW b L i) 6).getD 0)) (Or.inr (Or.inl q27)) (r_ee_trans (r_ee_sw c3) (r_ee_ce a3) (Nat.le_refl _)) ?_ a2 ?_ u1 (fun vars left ip st hl hst => ?_) fun E T hT hE vars left ip => ?_
    · exact (a3.2.1 12 (by decide) (by decide)).trans ((c3.1 0 12 (fun z => by omega)).trans w2)
    · rw [u1]
      have c2' : r_ms b L M sd i (r_tl b L i) (r_wp b L (i + 1)) V0 := ⟨c2.1, c2.2.1, c2.2.2.1, c2.2.2.2.1, r_ws_iff c2.2.2.2.2 fun j k => (u2 j k).symm⟩
      exact r_ms_eq c2' a3.1 ((a3.2.1 11 (by decide) (by decide)).trans c2.2.1.1) ((a3.2.1 13 (by decide) (by decide)).trans c2.2.1.2.1) c2.2.1.2.2 (a3.2.1 15 (by decide) (by decide)) (a3.2.1 16 (by decide) (by decide)) (a3.2.1 22 (by decide) (by decide)) (a3.2.2.2.1 9) (a3.2.2.1 10 (by decide) (by decide)) (a3.2.2.1 11 (by decide) (by decide))
    · rw [a4 lo w4 vars left ip st (by rw [c3.2.1 37, c3.2.1 38]; exact hst)]
      show (if 999 < st.length then none else if (nI ((r_lk (r_tl b L i) (r_tW b L i) 6).getD 0)).toNatClampNeg < 16 ∧ ¬ nI ((r_lk (r_tl b L i) (r_tW b L i) 6).getD 0) < 0 then some (vars (nI ((r_lk (r_tl b L i) (r_tW b L i) 6).getD 0)).toNatClampNeg :: st) else none) = some (vars ((r_lk (r_tl b L i) (r_tW b L i) 6).getD 0) :: st)
      rw [if_neg (by omega), nI_clamp (by omega), if_pos ⟨hc16, nI_pos (by omega)⟩]
    · rw [(hT i hE).2.2 (Or.inl q27), q27]
      have e : r_nu b L E i = (r_lk (r_tl b L i) (r_tW b L i) 6).getD 0 := by
        unfold r_nu
        rw [if_pos q27, w8.1, if_neg (by decide), if_neg (by decide)]
      rw [e]
      show (if nI ((r_lk (r_tl b L i) (r_tW b L i) 6).getD 0) < 0 then 0 else if (16 : Int32) ≤ nI ((r_lk (r_tl b L i) (r_tW b L i) 6).getD 0) then 0 else vars (nI ((r_lk (r_tl b L i) (r_tW b L i) 6).getD 0)).toNatClampNeg) = _
      rw [if_neg (nI_pos (by omega)), if_neg (show ¬ (16 : Int32) ≤ nI ((r_lk (r_tl b L i) (r_tW b L i) 6).getD 0) from nI_ge (b := 16) hc16 (by decide)), nI_clamp (by omega)]
  -- a word
  have word : ∀ (k : Nat) (c : Int32) (u : (Nat → Int32) → Int32 → Int32 → Int32), r_tK b L i = k → (k = 25 ∨ k = 26) → (∀ vars left ip st, st.length ≤ 900 → r_m1 c 0 vars left ip st = some (u vars left ip :: st)) → (∀ x vars left ip, y_unit vars left ip (nI k) x = u vars left ip) →
      r_eo b L M sd i0 lo cc V (fX12_expression_b256 F (fX12_expression_l14 F (N2 + 1)) V 0 0 c) (r_b (r_pass i) (r_sum (r_tK b L) n sh.length false false)) := by
    intro k c u hk hk2 h1 h2
    obtain ⟨V1, a1, a2, a3, a4⟩ := m_emit (F := F) w1 (by omega) c 0
    obtain ⟨u1, u2⟩ := r_quiet (b := b) (L := L) (i := i) (by omega) (fun z => w8.2 z.2)
    rw [fX12_expression_b256, a1, y_bd]
    refine fin V1 u (by omega) (r_ee_ce a3) ((a3.2.1 12 (by decide) (by decide)).trans w2) a2 ?_ u1 (fun vars left ip st hl hst => ?_) fun E T hT hE vars left ip => ?_
    · rw [u1]
      have := r_mr_ce h a3
      exact ⟨this.1, this.2.1, this.2.2.1, this.2.2.2.1, r_ws_iff this.2.2.2.2 fun j k => (u2 j k).symm⟩
    · rw [a4 lo w4 vars left ip st hst]; exact h1 vars left ip st hl
    · rw [hk]; exact h2 _ vars left ip
  by_cases q25 : r_tK b L i = 25
  · rw [if_pos (show r_tK b L i = 28 ∨ r_tK b L i = 27 ∨ r_tK b L i = 25 ∨ r_tK b L i = 26 from Or.inr (Or.inr (Or.inl q25))), show nI (r_rk (r_tK b L i)) = (45 : Int32) by rw [q25]; rfl, fX12_expression_b155, if_neg (show ¬ (45 : Int32) = 2 by decide), if_neg (show ¬ (45 : Int32) = 1 by decide), if_pos rfl, fX12_expression_b188, if_pos (show zI V 0 13 ≤ 0 by rw [h13]; decide), if_neg (show ¬ (45 : Int32) = 2 by decide), if_neg (show ¬ (45 : Int32) = 1 by decide), if_pos rfl]
    refine word 25 2 (fun _ left _ => left) q25 (Or.inl rfl) (fun vars left ip st hl => ?_) fun x vars left ip => rfl
    show (if 999 < st.length then none else some (left :: st)) = some (left :: st)
    rw [if_neg (by omega)]
  by_cases q26 : r_tK b L i = 26
  · rw [if_pos (show r_tK b L i = 28 ∨ r_tK b L i = 27 ∨ r_tK b L i = 25 ∨ r_tK b L i = 26 from Or.inr (Or.inr (Or.inr q26))), show nI (r_rk (r_tK b L i)) = (46 : Int32) by rw [q26]; rfl, fX12_expression_b155, if_neg (show ¬ (46 : Int32) = 2 by decide), if_neg (show ¬ (46 : Int32) = 1 by decide), if_neg (show ¬ (46 : Int32) = 45 by decide), if_pos rfl, fX12_expression_b188, if_pos (show zI V 0 13 ≤ 0 by rw [h13]; decide), if_neg (show ¬ (46 : Int32) = 2 by decide), if_neg (show ¬ (46 : Int32) = 1 by decide), if_neg (show ¬ (46 : Int32) = 45 by decide)]
    refine word 26 3 (fun _ _ ip => ip) q26 (Or.inr rfl) (fun vars left ip st hl => ?_) fun x vars left ip => rfl
    show (if 999 < st.length then none else some (ip :: st)) = some (ip :: st)
    rw [if_neg (by omega)]
  -- no unit
  have nk : ∀ a, a ≤ 42 → ¬ r_tK b L i = a → ¬ nI (r_rk (r_tK b L i)) = nI (r_rk a) := fun a ha hne z => hne ((r_rk_eq kle ha).mp z)
  rw [if_neg (show ¬ (r_tK b L i = 28 ∨ r_tK b L i = 27 ∨ r_tK b L i = 25 ∨ r_tK b L i = 26) from fun z => by rcases z with z | z | z | z <;> contradiction), fX12_expression_b155, if_neg (show ¬ nI (r_rk (r_tK b L i)) = (2 : Int32) from nk 28 (by omega) q28), if_neg (show ¬ nI (r_rk (r_tK b L i)) = (1 : Int32) from nk 27 (by omega) q27), if_neg (show ¬ nI (r_rk (r_tK b L i)) = (45 : Int32) from nk 25 (by omega) q25), if_neg (show ¬ nI (r_rk (r_tK b L i)) = (46 : Int32) from nk 26 (by omega) q26), show (1 : Int32) = nI 1 from rfl, m_fail h, y_bd, fX12_expression_b188, if_neg (show ¬ zI (zsI (zsI V 0 13 (nI 1)) 0 14 (nI (r_tS b L i))) 0 13 ≤ 0 by show ¬ nI 1 ≤ (0 : Int32); decide)]
  exact ⟨_, rfl, m_fail_me h (Or.inl rfl)⟩
end
