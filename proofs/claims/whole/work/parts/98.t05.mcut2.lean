/-! ===== the reference cuts a text: the loop ===== -/
section
variable {F : Nat} {b : Nat → Nat} {L : Nat} {V7 : zV}
theorem r_te_sg {s : Nat} (hs : s < L) (hl : r_lt (b s) = false) (hd : r_dg (b s) = false) : r_te b L s = if (b s = 61 ∨ b s = 33 ∨ b s = 60) ∧ r_at0 b L (s + 1) = 61 then s + 2 else s + 1 := by
  unfold r_te r_at0
  rw [if_neg (by omega), if_neg (by rw [hl]; decide), if_neg (by rw [hd]; decide)]
  by_cases q : s + 1 < L
  · rw [if_pos q]
    by_cases q2 : (b s = 61 ∨ b s = 33 ∨ b s = 60) ∧ b (s + 1) = 61
    · rw [if_pos ⟨q2.1, q, q2.2⟩, if_pos q2]
    · rw [if_neg (fun z => q2 ⟨z.1, z.2.2⟩), if_neg q2]
  · rw [if_neg q, if_neg (fun z => q z.2.1), if_neg (fun z => by cases z.2)]
theorem m_sign {k : Nat} (h : r_mb b L V7) (hr : r_rt b L k V7) (hk : k < 1003) {s : Nat} (hs : s < L) (hl : r_lt (b s) = false) (hd : r_dg (b s) = false) (es : s = r_tS b L k) :
    ∃ V', fX12_sign F V7 (nI s) (nI (b s)) (nI (r_at0 b L (s + 1))) = some (nI (r_te b L s - s), V') ∧ r_rt b L (k + 1) V' ∧ r_fq [(0, 10)] [3, 4, 5] [6] V7 V' := by
  have hL := h.1
  have hb := h.2.1 s
  have hd' := r_at0_lt h (s + 1)
  have te := r_te_sg hs hl hd
  have hk27 : ¬ r_tK b L k = 27 := fun z => by
    have := (r_kd_27 (show r_kd b L (r_tS b L k) ≤ 27 by have : r_kd b L (r_tS b L k) = 27 := z; omega)).2.1
    rw [← es, hl] at this
    cases this
  have hk28 : ¬ r_tK b L k = 28 := fun z => by
    have := (r_kd_28 (show r_kd b L (r_tS b L k) = 28 from z)).2.2.1
    rw [← es, hd] at this
    cases this
  have kd : r_tK b L k = if r_te b L s - s = 2 then (if b s = 33 then 38 else if b s = 61 then 37 else 40) else r_ss (b s) := by
    unfold r_tK r_kd
    rw [← es, if_neg (by omega), if_neg (by rw [hl]; decide), if_neg (by rw [hd]; decide)]
  -- one sign
  have one : ¬ ((b s = 61 ∨ b s = 33 ∨ b s = 60) ∧ r_at0 b L (s + 1) = 61) → ∃ V', fX12_sign_b44 F V7 (nI s) (nI (b s)) 0 = some (nI (r_te b L s - s), V') ∧ r_rt b L (k + 1) V' ∧ r_fq [(0, 10)] [3, 4, 5] [6] V7 V' := by
    intro z
    rw [if_neg z] at te
    rw [te, show s + 1 - s = 1 by omega, if_neg (by decide)] at kd
    obtain ⟨V', a1, a2, a3⟩ := m_token (F := F) (x1 := nI (r_rk (r_ss (b s)))) (x3 := 0) (x4 := 0) hr hk (by rw [kd]) es (fun z => absurd z hk28) (fun z => absurd z hk27)
    refine ⟨V', ?_, a2, a3⟩
    rw [m_sg1 hb, fX12_sign_b173, a1, y_bd, if_pos (show (0 : Int32) ≤ 0 by decide), te, show s + 1 - s = 1 by omega]; rfl
  -- two signs
  have two : ∀ (c : Nat) (x : Int32) (n : Nat), b s = c → (c = 61 ∨ c = 33 ∨ c = 60) → r_at0 b L (s + 1) = 61 → x = nI n → 0 < n → n < 2 ^ 31 → n = r_rk (if c = 33 then 38 else if c = 61 then 37 else 40) → ∃ V', fX12_sign_b44 F V7 (nI s) (nI c) x = some (nI (r_te b L s - s), V') ∧ r_rt b L (k + 1) V' ∧ r_fq [(0, 10)] [3, 4, 5] [6] V7 V' := by
    intro c x n hc h3 h61 hx hn hn2 hrk
    subst hc
    rw [if_pos ⟨h3, h61⟩] at te
    rw [te, show s + 2 - s = 2 by omega, if_pos rfl] at kd
    obtain ⟨V', a1, a2, a3⟩ := m_token (F := F) (x1 := x) (x3 := 0) (x4 := 0) hr hk (by rw [kd, hx, hrk]) es (fun z => absurd z hk28) (fun z => absurd z hk27)
    refine ⟨V', ?_, a2, a3⟩
    rw [fX12_sign_b44, hx, if_neg (nI_nle hn hn2), fX12_sign_b173, ← hx, a1, y_bd, hx, if_neg (nI_nle hn hn2), te, show s + 2 - s = 2 by omega]; rfl
  unfold fX12_sign
  by_cases q : r_at0 b L (s + 1) = 61
  rotate_left
  · rw [if_neg (show ¬ nI (r_at0 b L (s + 1)) = (61 : Int32) from fun z => q ((nI_eq (b := 61) (by omega) (by decide)).mp z))]
    exact one fun z => q z.2
  rw [if_pos (show nI (r_at0 b L (s + 1)) = (61 : Int32) by rw [q]; rfl)]
  by_cases q1 : b s = 61
  · rw [if_pos (show nI (b s) = (61 : Int32) by rw [q1]; rfl), q1]
    exact two 61 12 12 q1 (Or.inl rfl) q rfl (by decide) (by decide) rfl
  rw [if_neg (show ¬ nI (b s) = (61 : Int32) from fun z => q1 ((nI_eq (b := 61) (by omega) (by decide)).mp z))]
  by_cases q2 : b s = 33
  · rw [if_pos (show nI (b s) = (33 : Int32) by rw [q2]; rfl), q2]
    exact two 33 13 13 q2 (Or.inr (Or.inl rfl)) q rfl (by decide) (by decide) rfl
  rw [if_neg (show ¬ nI (b s) = (33 : Int32) from fun z => q2 ((nI_eq (b := 33) (by omega) (by decide)).mp z))]
  by_cases q3 : b s = 60
  · rw [if_pos (show nI (b s) = (60 : Int32) by rw [q3]; rfl), q3]
    exact two 60 15 15 q3 (Or.inr (Or.inr rfl)) q rfl (by decide) (by decide) rfl
  rw [if_neg (show ¬ nI (b s) = (60 : Int32) from fun z => q3 ((nI_eq (b := 60) (by omega) (by decide)).mp z))]
  exact one fun z => by rcases z.1 with z | z | z <;> contradiction
theorem r_bl_bk {i : Nat} (hi : i < L) (h : r_bk (b i) = true) : r_bl b L i = r_bl b L (i + 1) := by
  unfold r_bl
  rw [show L - i = (L - (i + 1)) + 1 by omega, r_sp, if_pos h]
theorem r_bl_no {i : Nat} (hi : i < L) (h : r_bk (b i) = false) : r_bl b L i = i := by
  unfold r_bl
  rw [show L - i = (L - (i + 1)) + 1 by omega, r_sp, if_neg (by rw [h]; decide)]
theorem r_bl_L : r_bl b L L = L := by
  unfold r_bl
  rw [Nat.sub_self]; rfl
theorem r_mb_fq {V' : zV} (h : r_mb b L V7) (f : r_fq [(0, 10)] [3, 4, 5] [6] V7 V') : r_mb b L V' := ⟨h.1, h.2.1, (f.1 0 4 (by decide)).trans h.2.2.1, fun i hi => by rw [f.2.1 2 (by decide)]; exact h.2.2.2 i hi⟩
theorem r_mw_fq {V' : zV} (h : r_mw V7) (f : r_fq [(0, 10)] [3, 4, 5] [6] V7 V') : r_mw V' := fun k w hk => by rw [f.2.2.1 7 (by decide)]; exact h k w hk
theorem m_cutl (hF : 4100 ≤ F) : ∀ (n N i k : Nat) (V7 : zV), i + n = L → n + 2 ≤ N → r_mb b L V7 → r_mw V7 → r_rt b L k V7 → k ≤ 1001 → r_bl b L i = r_tS b L k →
    ∃ V' M, fX12_cut_l7 F N V7 (nI i) = some V' ∧ r_rt b L M V' ∧ k ≤ M ∧ M ≤ 1001 ∧ r_fq [(0, 10)] [3, 4, 5] [6] V7 V' ∧ (∀ j, k ≤ j → j + 1 < M → ¬ r_tK b L j = 41) ∧ (k < 1001 → k < M) ∧ (k < M → M = 1001 ∨ r_tK b L (M - 1) = 41) := by
  intro n
  induction n using Nat.strongRecOn with
  | ind n ih =>
    intro N i k V7 e hN h hw hr hk hbl
    obtain ⟨N, rfl⟩ : ∃ N', N = N' + 1 := ⟨N - 1, by omega⟩
    have hL := h.1
    rw [fX12_cut_l7, hr.1]
    by_cases qk : k = 1001
    · subst qk
      rw [if_pos (show (1000 : Int32) < nI 1001 by decide)]
      exact ⟨V7, 1001, rfl, hr, Nat.le_refl _, by omega, r_fq_refl, fun j h1 h2 => by omega, fun z => by omega, fun z => by omega⟩
    rw [if_neg (show ¬ (1000 : Int32) < nI k from nI_nlt (a := 1000) (by omega) (by omega)), m_at h (by omega), y_bd, h.2.2.1]
    by_cases qi : i < L
    rotate_left
    · -- the text's end
      have ei : i = L := by omega
      have es : L = r_tS b L k := by rw [← hbl, ei, r_bl_L]
      have k41 : r_tK b L k = 41 := (r_kd_41 (r_tS_L b L k)).mpr es.symm
      obtain ⟨V', a1, a2, a3⟩ := m_token (F := F) (x1 := 0) (x3 := 0) (x4 := 0) hr (by omega) (by rw [k41]; rfl) es (fun z => by omega) (fun z => by omega)
      rw [if_neg (nI_nlt (by omega) (by omega)), a1, y_bd]
      exact ⟨V', k + 1, rfl, a2, by omega, by omega, a3, fun j h1 h2 => by omega, fun _ => by omega, fun _ => Or.inr k41⟩
    have ea : r_at0 b L i = b i := if_pos qi
    have hb := h.2.1 i
    rw [if_pos (nI_lt qi (by omega)), ea, nI_1]
    have blank : r_bk (b i) = true → ∃ V' M, fX12_cut_b67 F (fX12_cut_l7 F N) V7 (nI i) = some V' ∧ r_rt b L M V' ∧ k ≤ M ∧ M ≤ 1001 ∧ r_fq [(0, 10)] [3, 4, 5] [6] V7 V' ∧ (∀ j, k ≤ j → j + 1 < M → ¬ r_tK b L j = 41) ∧ (k < 1001 → k < M) ∧ (k < M → M = 1001 ∨ r_tK b L (M - 1) = 41) := by
      intro z
      rw [fX12_cut_b67, fX12_cut_b304, nI_1]
      exact ih (n - 1) (by omega) N (i + 1) k V7 (by omega) (by omega) h hw hr hk (by rw [← r_bl_bk qi z]; exact hbl)
    by_cases c1 : b i = 9
    · rw [if_pos (show nI (b i) = (9 : Int32) by rw [c1]; rfl)]; exact blank (by rw [c1]; rfl)
    rw [if_neg (show ¬ nI (b i) = (9 : Int32) from fun z => c1 ((nI_eq (b := 9) (by omega) (by decide)).mp z))]
    by_cases c2 : b i = 10
    · rw [if_pos (show nI (b i) = (10 : Int32) by rw [c2]; rfl)]; exact blank (by rw [c2]; rfl)
    rw [if_neg (show ¬ nI (b i) = (10 : Int32) from fun z => c2 ((nI_eq (b := 10) (by omega) (by decide)).mp z))]
    by_cases c3 : b i = 13
    · rw [if_pos (show nI (b i) = (13 : Int32) by rw [c3]; rfl)]; exact blank (by rw [c3]; rfl)
    rw [if_neg (show ¬ nI (b i) = (13 : Int32) from fun z => c3 ((nI_eq (b := 13) (by omega) (by decide)).mp z))]
    by_cases c4 : b i = 32
    · rw [if_pos (show nI (b i) = (32 : Int32) by rw [c4]; rfl)]; exact blank (by rw [c4]; rfl)
    rw [if_neg (show ¬ nI (b i) = (32 : Int32) from fun z => c4 ((nI_eq (b := 32) (by omega) (by decide)).mp z))]
    have nb : r_bk (b i) = false := by unfold r_bk; simp [c1, c2, c3, c4]
    have es : i = r_tS b L k := by rw [← hbl, r_bl_no qi nb]
    have te := r_te_le (b := b) qi
    have eps : r_ps b L (k + 1) = r_te b L i := by rw [es]; rfl
    have hk1 : fX12_isDigit F (nI (b i)) = some (if r_dg (b i) = true then 1 else 0) := r_nI_dg ⟨_, hb⟩
    have hl1 : fX12_isLetter F (nI (b i)) = some (if r_lt (b i) = true then 1 else 0) := r_nI_lt ⟨_, hb⟩
    have not41 : ¬ r_tK b L k = 41 := fun z => by have := (r_kd_41 (r_tS_L b L k)).mp z; omega
    -- behind the token
    have fin : ∀ V', r_rt b L (k + 1) V' → r_fq [(0, 10)] [3, 4, 5] [6] V7 V' → ∃ V'' M, fX12_cut_l7 F N V' (nI (r_te b L i)) = some V'' ∧ r_rt b L M V'' ∧ k ≤ M ∧ M ≤ 1001 ∧ r_fq [(0, 10)] [3, 4, 5] [6] V7 V'' ∧ (∀ j, k ≤ j → j + 1 < M → ¬ r_tK b L j = 41) ∧ (k < 1001 → k < M) ∧ (k < M → M = 1001 ∨ r_tK b L (M - 1) = 41) := by
      intro V' r' f'
      obtain ⟨V'', M, b1, b2, b3, b4, b5, b6, b7, b8⟩ := ih (L - r_te b L i) (by omega) N (r_te b L i) (k + 1) V' (by omega) (by omega) (r_mb_fq h f') (r_mw_fq hw f') r' (by omega) (by rw [← eps]; rfl)
      refine ⟨V'', M, b1, b2, by omega, b4, r_fq_trans f' b5, fun j h1 h2 => ?_, fun _ => by omega, fun _ => ?_⟩
      · by_cases qj : j = k
        · subst qj; exact not41
        · exact b6 j (by omega) h2
      · by_cases qm : M = k + 1
        · subst qm
          by_cases z : k + 1 < 1001
          · have := b7 z; omega
          · left; omega
        · exact b8 (by omega)
    rw [hl1, y_bd, hk1]
    by_cases ql : r_lt (b i) = true
    · -- a name or word
      rw [if_pos ql, if_neg (show ¬ (1 : Int32) = 0 by decide)]
      obtain ⟨x4', a1, a2⟩ := m_lets (F := F) h (k7 := fX12_cut_l7 F N) qi ql rfl (r_te b L i - i) 0 F 0 (by omega) (by omega)
      have a1' : fX12_cut_l85 F (fX12_cut_l7 F N) F V7 (nI i) 0 0 = _ := a1
      rw [a1', fX12_cut_b148]
      have han := r_str_an qi ql
      have hkd : r_tK b L k = if r_te b L i - i ≤ 8 then r_fi (r_str b i (r_te b L i)) r_words 0 else 42 := by
        unfold r_tK r_kd
        rw [← es, if_neg (by omega), if_pos ql]
      have lay : ∀ x6 : Int32, x6 = nI (r_rk (r_tK b L k)) → ∃ V' M, fX12_cut_b192 F (fX12_cut_l7 F N) V7 (nI i) (nI (r_te b L i - i)) x4' x6 = some V' ∧ r_rt b L M V' ∧ k ≤ M ∧ M ≤ 1001 ∧ r_fq [(0, 10)] [3, 4, 5] [6] V7 V' ∧ (∀ j, k ≤ j → j + 1 < M → ¬ r_tK b L j = 41) ∧ (k < 1001 → k < M) ∧ (k < M → M = 1001 ∨ r_tK b L (M - 1) = 41) := by
        intro x6 hx6
        obtain ⟨V', c1, c2, c3⟩ := m_token (F := F) (x1 := x6) (x3 := 0) (x4 := x4') hr (by omega) hx6 es (fun z => by
          have := (r_kd_28 (show r_kd b L (r_tS b L k) = 28 from z)).2.1
          rw [← es, ql] at this; cases this) (fun z => by
          have h8 := (r_kd_27 (show r_kd b L (r_tS b L k) ≤ 27 by have : r_kd b L (r_tS b L k) = 27 := z; omega)).2.2
          rw [← es] at h8
          rw [a2 0 rfl h8]
          unfold r_tW
          rw [← es]; rfl)
        rw [fX12_cut_b192, c1, y_bd, fX12_cut_b304, nI_add, show i + (r_te b L i - i) = r_te b L i by omega]
        exact fin V' c2 c3
      by_cases q6 : 6 < r_te b L i - i
      · rw [if_pos (show (6 : Int32) < nI (r_te b L i - i) from nI_lt (a := 6) q6 (by omega))]
        refine lay _ ?_
        by_cases q8 : r_te b L i - i ≤ 8
        · rw [if_pos q8] at hkd ⊢
          rw [hkd, r_wd_7 (by rw [r_str_len]; exact q6)]; rfl
        · rw [if_neg q8] at hkd ⊢
          rw [hkd]; rfl
      · rw [if_neg (show ¬ (6 : Int32) < nI (r_te b L i - i) from nI_nlt (a := 6) (by omega) (by omega)), if_pos (by omega)]
        rw [if_pos (by omega)] at hkd
        have e4 := a2 0 rfl (by omega)
        have hwd := m_wdl (F := F) hw (k7 := fX12_cut_l7 F N) (x1 := nI i) (x3 := nI (r_te b L i - i)) (s := r_str b i (r_te b L i)) han (by rw [r_str_len]; omega) 27 F 0 1 r_mwords rfl rfl rfl (by omega)
        rw [show i + 0 = i from rfl] at e4
        rw [e4]
        have hwd' : fX12_cut_l159 F (fX12_cut_l7 F N) F V7 (nI i) (nI (r_te b L i - i)) (lN (r_pk 37 r_d37 0 (r_str b i (r_te b L i)))) 1 0 = _ := hwd
        rw [hwd', ← e4]
        exact lay _ (by rw [r_wd_rk, hkd])
    rw [if_neg ql, if_pos rfl, y_bd]
    have ql' : r_lt (b i) = false := by simpa using ql
    by_cases qd : r_dg (b i) = true
    · -- an int
      rw [if_pos qd, if_neg (show ¬ (1 : Int32) = 0 by decide)]
      obtain ⟨x4', a1, a2⟩ := m_digs (F := F) h (k7 := fX12_cut_l7 F N) qi ql' qd rfl (r_te b L i - i) 0 F 0 (by omega) (by omega)
      have a1' : fX12_cut_l221 F (fX12_cut_l7 F N) F V7 (nI i) 0 0 = _ := a1
      have hkd : r_tK b L k = if r_te b L i - i ≤ 5 then 28 else 42 := by
        unfold r_tK r_kd
        rw [← es, if_neg (by omega), if_neg ql, if_pos qd]
      obtain ⟨V', c1, c2, c3⟩ := m_token (F := F) (x1 := (if r_te b L i - i ≤ 5 then 2 else 3)) (x3 := x4') (x4 := 0) hr (by omega) (by
        by_cases q5 : r_te b L i - i ≤ 5
        · rw [if_pos q5] at hkd ⊢; rw [hkd]; rfl
        · rw [if_neg q5] at hkd ⊢; rw [hkd]; rfl) es (fun z => by
          have h5 := (r_kd_28 (show r_kd b L (r_tS b L k) = 28 from z)).2.2.2
          rw [← es] at h5
          rw [a2 0 rfl h5]
          unfold r_tV r_dec r_tW
          rw [← es]; rfl) (fun z => by
          have := (r_kd_27 (show r_kd b L (r_tS b L k) ≤ 27 by have : r_kd b L (r_tS b L k) = 27 := z; omega)).2.1
          rw [← es, ql'] at this; cases this)
      rw [a1', fX12_cut_b274, c1, y_bd, fX12_cut_b304, nI_add, show i + (r_te b L i - i) = r_te b L i by omega]
      exact fin V' c2 c3
    · -- a sign
      have qd' : r_dg (b i) = false := by simpa using qd
      rw [if_neg qd, if_pos rfl, m_at h (by omega), y_bd]
      obtain ⟨V', c1, c2, c3⟩ := m_sign (F := F) h hr (by omega) qi ql' qd' es
      rw [c1, y_bd]
      dsimp only
      rw [fX12_cut_b304, nI_add, show i + (r_te b L i - i) = r_te b L i by omega]
      exact fin V' c2 c3
/-- how many tokens the reference has -/
def r_rn7 (b : Nat → Nat) (L M : Nat) : Prop := 0 < M ∧ M ≤ 1001 ∧ (∀ j, j + 1 < M → ¬ r_tK b L j = 41) ∧ (M = 1001 ∨ r_tK b L (M - 1) = 41)
theorem m_cut (hF : 4100 ≤ F) (h : r_mb b L V7) (hw : r_mw V7) : ∃ V' M, fX12_cut F V7 = some V' ∧ r_rt b L M V' ∧ r_rn7 b L M ∧ r_fq [(0, 10)] [3, 4, 5] [6] V7 V' := by
  unfold fX12_cut
  rw [y_let]
  have f0 : r_fq [(0, 10)] [3, 4, 5] [6] V7 (zsI V7 0 10 0) := r_fq_I r_fq_refl (by decide)
  obtain ⟨V', M, a1, a2, a3, a4, a5, a6, a7, a8⟩ := m_cutl (F := F) hF L F 0 0 (zsI V7 0 10 0) (by omega) (by have := h.1; omega) (r_mb_fq h f0) (r_mw_fq hw f0) ⟨rfl, fun j hj => by omega⟩ (by omega) rfl
  have hM := a7 (by omega)
  exact ⟨V', M, a1, a2, ⟨hM, a4, fun j hj => a6 j (by omega) hj, a8 hM⟩, r_fq_trans f0 a5⟩
end
