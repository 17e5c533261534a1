/-! ===== lamps: the reference, and both ===== -/
section
variable {F : Nat} {T : zV} {w : Bool} {lv n b : Nat} {S : y_S} {V V0 V5 V7 : zV}
theorem m_rull (hF : 3000 ≤ F) (hTT : y_T T) {ev x3 : Int32} {m : Nat} (hm : m < y_many T 7) {k55 : zV → Int32 → Int32 → Option (Int32 × zV)} : ∀ (c r N : Nat) (V : zV), r + c = y_hd T (m + 1) → c + 1 ≤ N → y_mt T lv V → y_mg T S V →
    ∃ V', y_fr [] [63] V V' ∧ fX12_lamp_l103 F k55 N V ev x3 (nI m) (nI r) = match y_lr T S ev m (List.range' r c) with
      | some q => some ((if q = true then 1 else 0), V')
      | none => fX12_lamp_b272 F k55 V' ev x3 := by
  have h12 := hTT.2.1.1.2
  obtain ⟨R, hR, hR3, hh, hcond⟩ := hTT.2.2.2.2.1
  have hRm := (hh (m + 1) (by omega)).2
  intro c
  induction c with
  | zero =>
    intro r N V e hN hT hg
    obtain ⟨N, rfl⟩ : ∃ N', N = N' + 1 := ⟨N - 1, by omega⟩
    have hlv := hT.1.1
    have h23 : zA V 23 (13 * lv + m + 1) = nI (y_hd T (m + 1)) := (hT.2.2.2.1 (m + 1) (by omega)).trans (hh (m + 1) (by omega)).1
    rw [fX12_lamp_l103, hT.1.2, show (13 : Int32) = nI 13 from rfl, pk_mul, nI_add, nI_1, y_ck (by omega) (by decide), nI_clamp (by omega), h23, if_pos (nI_le (by omega) (by omega))]
    exact ⟨V, y_fr_refl, rfl⟩
  | succ c ih =>
    intro r N V e hN hT hg
    obtain ⟨N, rfl⟩ : ∃ N', N = N' + 1 := ⟨N - 1, by omega⟩
    have hlv := hT.1.1
    have hr : r < R := by omega
    have h23 : zA V 23 (13 * lv + m + 1) = nI (y_hd T (m + 1)) := (hT.2.2.2.1 (m + 1) (by omega)).trans (hh (m + 1) (by omega)).1
    obtain ⟨g24, ⟨lo, hi, l1, l2, l3, l4, l5, l6⟩, ⟨lo2, hi2, b1, b2, b3, b4, b5, b6⟩⟩ := hT.2.2.2.2.1 R hR3 hR r hr
    have next : ∀ V1, y_fr [] [63] V V1 → ∃ V', y_fr [] [63] V V' ∧ fX12_lamp_b266 F (fX12_lamp_l103 F k55 N) V1 ev x3 (nI m) (nI r) = match y_lr T S ev m (List.range' (r + 1) c) with
      | some q => some ((if q = true then 1 else 0), V')
      | none => fX12_lamp_b272 F k55 V' ev x3 := by
      intro V1 f1
      rw [fX12_lamp_b266, nI_1]
      obtain ⟨V2, a1, a2⟩ := ih (r + 1) N V1 (by omega) (by omega) (y_mt_fr hT f1 List.not_mem_nil (by decide)) (y_mg_fr hg f1 (fun _ _ => List.not_mem_nil) (by decide))
      exact ⟨V2, y_fr_trans f1 a1, a2⟩
    rw [fX12_lamp_l103, hT.1.2, show (13 : Int32) = nI 13 from rfl, pk_mul, nI_add, nI_1, y_ck (by omega) (by decide), nI_clamp (show 13 * lv + m + 1 < 2 ^ 31 by omega), h23, if_neg (nI_ge (by omega) (by omega)), show (80 : Int32) = nI 80 from rfl, pk_mul, nI_add, y_ck (by omega) (by decide), nI_clamp (show 80 * lv + r < 2 ^ 31 by omega), g24, List.range'_succ, y_lr]
    by_cases q1 : zA T 17 r = ev
    rotate_left
    · rw [if_neg q1, if_neg (fun z => q1 z.1)]
      exact next V y_fr_refl
    rw [if_pos q1]
    obtain ⟨bb, hbb⟩ := (hcond r hr).1 (y_R S 1) (y_R S 20 m) (y_I S 14 7)
    have hl6 := l6.1 (zA V 43) (zA V 50 m) (zI V 0 67)
    have hc : y_cond T r (zA V 43) (zA V 50 m) (zI V 0 67) = some bb := by
      rw [y_mg_at hg (r := 14) (k := 7) (k7 := 67) (by decide), y_mg_r hg (r := 20) (r7 := 50) (n := 12) (by decide) (show m < 12 by omega), l6.2 _ (y_R S 1) _ _ (fun j hj => y_mg_v hg hj)]
      exact hbb
    rw [hc] at hl6
    obtain ⟨V1, e1, f1⟩ := m_holds (F := F) hF (m := m) (by omega) hlv (show r < 80 by omega) l1 l2 hT.1.2 l3 l4 l5 hl6
    rw [e1, y_bd]
    cases bb with
    | false =>
      rw [if_pos (show (if false = true then (1 : Int32) else 0) = 0 from rfl), if_neg (show ¬ (zA T 17 r = ev ∧ (y_pay T r = true ∨ y_hol T r = true) ∧ y_cond T r (y_R S 1) (y_R S 20 m) (y_I S 14 7) = some true) from fun z => by have z := hbb.symm.trans z.2.2; cases z)]
      exact next V1 f1
    | true =>
      have hT1 := y_mt_fr hT f1 List.not_mem_nil (by decide)
      have e26 : zA V1 26 = zA V 26 := f1.2.1 26 (by decide)
      rw [if_neg (show ¬ (if true = true then (1 : Int32) else 0) = 0 by decide)]
      dsimp only
      rw [hT1.1.2, show (81 : Int32) = nI 81 from rfl, pk_mul, nI_add, y_ck (by omega) (by decide), y_let, nI_clamp (show 81 * lv + r < 2 ^ 31 by omega), e26, b3,
        m_actl (F := F) hT1 (show r < 80 by omega) (y_ra T r) lo2 F 0 (by omega) (by omega) (by rw [e26, b4]; congr 1; omega) (fun i x hx => y_ma_eq (fun q hq => f1.2.1 q ((show ∀ q ∈ y_st, q ∉ [63] by decide) q hq)) (b6 i x hx))]
      show ∃ V', y_fr [] [63] V V' ∧ (if y_pay T r = true then some (1, V1) else if (0 : Int32) = 0 ∧ y_hol T r = false then fX12_lamp_b266 F (fX12_lamp_l103 F k55 N) V1 ev x3 (nI m) (nI r) else some (0, V1)) = _
      cases qp : y_pay T r with
      | true =>
        rw [if_pos rfl, if_pos ⟨q1, Or.inl rfl, hbb⟩]
        exact ⟨V1, f1, rfl⟩
      | false =>
        rw [if_neg (show ¬ false = true from fun z => by cases z)]
        cases qh : y_hol T r with
        | true =>
          rw [if_neg (show ¬ ((0 : Int32) = 0 ∧ true = false) from fun z => by cases z.2), if_pos ⟨q1, Or.inr rfl, hbb⟩]
          exact ⟨V1, f1, rfl⟩
        | false =>
          rw [if_pos (show (0 : Int32) = 0 ∧ false = false from ⟨rfl, rfl⟩), if_neg (show ¬ (zA T 17 r = ev ∧ (false = true ∨ false = true) ∧ y_cond T r (y_R S 1) (y_R S 20 m) (y_I S 14 7) = some true) from fun z => by rcases z.2.1 with z | z <;> cases z)]
          exact next V1 f1
theorem m_lampl (hF : 3000 ≤ F) (hTT : y_T T) (hmo : ∀ m, m < y_many T 7 → y_hd T m ≤ y_hd T (m + 1)) {ev : Int32} : ∀ (r i N : Nat) (V : zV), i + r = y_many T 7 → r + 1 ≤ N → y_mt T lv V → y_mg T S V → (∀ i, i < y_many T 7 → zA V 56 i = zA T 12 i) →
    ∃ V', y_fr [] [63] V V' ∧ fX12_lamp_l55 F N V ev (nI i) = some ((if y_lo T S ev ((List.range' i r).map fun i => (zA T 12 i).toNatClampNeg) = true then 1 else 0), V') := by
  have h7 := hTT.2.1.1
  intro r
  induction r with
  | zero =>
    intro i N V e hN hT hg hod
    obtain ⟨N, rfl⟩ : ∃ N', N = N' + 1 := ⟨N - 1, by omega⟩
    rw [fX12_lamp_l55, show (7 : Int32) = nI 7 from rfl, m_sort hT (by decide), y_bd, h7.1, if_pos (nI_le (by omega) (by omega))]
    exact ⟨V, y_fr_refl, rfl⟩
  | succ r ih =>
    intro i N V e hN hT hg hod
    obtain ⟨N, rfl⟩ : ∃ N', N = N' + 1 := ⟨N - 1, by omega⟩
    obtain ⟨R, hR, hR3, hh, hcond⟩ := id hTT.2.2.2.2.1
    obtain ⟨m, hm, em⟩ := hTT.2.2.2.2.2.2 i (by omega)
    have e56 : zA V 56 i = nI m := (hod i (by omega)).trans em
    have hm12 : m < 12 := by omega
    have hlv := hT.1.1
    have r49 : zA V 49 m = y_R S 19 m := y_mg_r hg (r := 19) (r7 := 49) (n := 12) (by decide) hm12
    have h23 : zA V 23 (13 * lv + m) = nI (y_hd T m) := (hT.2.2.2.1 m (by omega)).trans (hh m (by omega)).1
    have next : ∀ V1, y_fr [] [63] V V1 → ∃ V', y_fr [] [63] V V' ∧ fX12_lamp_b272 F (fX12_lamp_l55 F N) V1 ev (nI i) = some ((if y_lo T S ev ((List.range' (i + 1) r).map fun i => (zA T 12 i).toNatClampNeg) = true then 1 else 0), V') := by
      intro V1 f1
      rw [fX12_lamp_b272, nI_1]
      obtain ⟨V2, a1, a2⟩ := ih (i + 1) N V1 (by omega) (by omega) (y_mt_fr hT f1 List.not_mem_nil (by decide)) (y_mg_fr hg f1 (fun _ _ => List.not_mem_nil) (by decide)) (fun j hj => by rw [f1.2.1 56 (by decide)]; exact hod j hj)
      exact ⟨V2, y_fr_trans f1 a1, a2⟩
    rw [fX12_lamp_l55, show (7 : Int32) = nI 7 from rfl, m_sort hT (by decide), y_bd, h7.1, if_neg (nI_ge (by omega) (by omega)), y_ck (by omega) (by decide), y_let, hT.1.2, show (13 : Int32) = nI 13 from rfl, List.range'_succ, List.map_cons, y_lo]
    simp only [nI_clamp (show i < 2 ^ 31 by omega), e56, em, nI_clamp (show m < 2 ^ 31 by omega), y_ck hm12 (by decide), r49, pk_mul, nI_add, y_ck (show 13 * lv + m < 26 by omega) (by decide), nI_clamp (show 13 * lv + m < 2 ^ 31 by omega), h23, y_let]
    by_cases q : y_R S 19 m = 0
    · rw [if_pos q, if_pos q]; exact next V y_fr_refl
    · rw [if_neg q, if_neg q]
      have hmm := hmo m hm
      obtain ⟨V1, a1, a2⟩ := m_rull (F := F) (S := S) (ev := ev) (x3 := nI i) (k55 := fX12_lamp_l55 F N) hF hTT hm (y_hd T (m + 1) - y_hd T m) (y_hd T m) F V (by omega) (by have := (hh (m + 1) (by omega)).2; omega) hT hg
      rw [a2]
      unfold y_rs
      cases q2 : y_lr T S ev m (List.range' (y_hd T m) (y_hd T (m + 1) - y_hd T m)) with
      | some bb => exact ⟨V1, a1, rfl⟩
      | none => exact next V1 a1
theorem b_lamp (hF : 3000 ≤ F) (hTT : y_T T) (hp : y_pw T) (hmo : ∀ m, m < y_many T 7 → y_hd T m ≤ y_hd T (m + 1)) (h3' : zA T 1 3 = nI (y_many T 3) ∧ y_many T 3 ≤ 16) (hT : y_mt T lv V7) (x : Int32) (h : y_op w lv n b T S V0 V5 V7) :
    ∃ a V5' V7', fX11_lamp F V0 T V5 x = some (a, V5') ∧ fX12_lamp F V7 x = some (a, V7') ∧ y_op w lv n b T S V0 V5' V7' ∧ (zI V0 0 9 = 0 → V5' = V5 ∧ V7' = V7) ∧ y_fr [] [63] V7 V7' := by
  have hc : fX9_has F T 3 x = some (if x < 0 then 0 else if zA T 1 3 ≤ x then 0 else 1) := c_hasx (k := 3) (by decide)
  have hs : fX12_sort F V7 3 = some (zA T 1 3) := m_sort (k := 3) hT (by decide)
  have hop := h
  unfold fX11_lamp fX12_lamp
  rcases h with ⟨h1, h2⟩ | ⟨h1, h2, h3, h4, h5, h6, h7⟩
  · rw [if_pos h1, if_pos h2]; exact ⟨_, V5, V7, rfl, rfl, hop, fun _ => ⟨rfl, rfl⟩, y_fr_refl⟩
  have hlv := hT.1.1
  rw [if_neg h1, if_neg h2, hc, y_bd, hs, y_bd, h3'.1]
  rcases y_cut (y_many T 3) (by omega) x with q | ⟨q, q2⟩ | ⟨s, hs', rfl⟩
  · rw [if_pos q, if_pos rfl, if_pos q]; exact ⟨_, V5, V7, rfl, rfl, hop, fun z => absurd z h1, y_fr_refl⟩
  · rw [if_neg q, if_pos q2, if_pos rfl, if_neg q, if_neg (Int32.not_lt.mpr q2)]; exact ⟨_, V5, V7, rfl, rfl, hop, fun z => absurd z h1, y_fr_refl⟩
  have hs16 : s < 16 := by omega
  have e16 : zA V7 16 (16 * lv + s) = zA T 5 s := hT.2.2.2.2.2.1.2.2.1 s hs'
  rw [if_neg (nI_pos (by omega)), if_neg (nI_ge hs' (by omega)), if_neg (show ¬ (1 : Int32) = 0 by decide), if_neg (nI_pos (by omega)), if_pos (nI_lt hs' (by omega)), y_ck hs16 (by decide), nI_clamp (by omega), hT.1.2, show (16 : Int32) = nI 16 from rfl, pk_mul, nI_add, y_ck (show 16 * lv + s < 32 by omega) (by decide), y_let, nI_clamp (by omega), e16, y_mg_at h4.2.1 (r := 0) (k := 9) (k7 := 66) (by decide), y_mg_at h4.2.1 (r := 0) (k := 12) (k7 := 71) (by decide)]
  unfold fX1_wouldPay
  rw [y_rb_at h3 (r := 0) (k := 9) (by decide), y_rb_at h3 (r := 0) (k := 12) (by decide)]
  by_cases q9 : y_I S 0 9 = 0
  · rw [if_pos q9, if_pos q9, y_bd, if_pos rfl]; exact ⟨_, V5, V7, rfl, rfl, hop, fun z => absurd z h1, y_fr_refl⟩
  rw [if_neg q9, if_neg q9]
  by_cases q12 : y_I S 0 12 = 0
  rotate_left
  · rw [if_neg q12, if_neg q12, y_bd, if_pos rfl]; exact ⟨_, V5, V7, rfl, rfl, hop, fun z => absurd z h1, y_fr_refl⟩
  rw [if_pos q12, if_pos q12]
  obtain ⟨A, a1, a2⟩ := c_lampl (F := F) (ev := zA T 5 s) (by omega) hTT hp hmo (y_many T 7) 0 F V5 (by omega) (by have := hTT.2.1.1.2; omega) h3
  obtain ⟨B, b1, b2⟩ := m_lampl (F := F) (ev := zA T 5 s) hF hTT hmo (y_many T 7) 0 F V7 (by omega) (by have := hTT.2.1.1.2; omega) hT h4.2.1 h4.2.2.2.1
  have a2' : fX1_wouldPay_l18 F F T V5 (zA T 5 s) 0 = _ := a2
  have b2' : fX12_lamp_l55 F F V7 (zA T 5 s) 0 = _ := b2
  rw [a2', y_bd, b2']
  refine ⟨_, A, B, ?_, rfl, Or.inr ⟨h1, by rw [b1.1 0 64 List.not_mem_nil]; exact h2, a1, ⟨y_mt_fr h4.1 b1 List.not_mem_nil (by decide), y_mg_fr h4.2.1 b1 (fun _ _ => List.not_mem_nil) (by decide), fun s hs => by rw [b1.2.1 47 (by decide)]; exact h4.2.2.1 s hs, fun i hi => by rw [b1.2.1 56 (by decide)]; exact h4.2.2.2.1 i hi, (b1.1 0 72 List.not_mem_nil).trans h4.2.2.2.2⟩, h5, h6, h7⟩, fun z => absurd z h1, b1⟩
  cases y_lo T S (zA T 5 s) ((List.range' 0 (y_many T 7)).map fun i => (zA T 12 i).toNatClampNeg) with
  | true => rfl
  | false => rfl
end
