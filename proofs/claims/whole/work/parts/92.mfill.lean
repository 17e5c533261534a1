/-! ===== a new game in the reference: its rows are laid anew ===== -/
def y_bt (F : Nat) (V7 : zV) : Option (Int32 × zV) :=
  zbd (fX12_orders F V7) fun q4 =>
  zbd (fX12_noBalls F q4) fun q6 =>
  zbd (fX12_serves F q6) fun q8 =>
  zlet (zsI q8 0 88 (0 : Int32)) fun V7_10 =>
  zlet (zsI V7_10 0 89 (0 : Int32)) fun V7_12 =>
  zlet (zsI V7_12 0 90 (0 : Int32)) fun V7_14 =>
  zbd (fX12_sort F V7_14 (7 : Int32)) fun q16 =>
  if q16 ≤ 0 then (
  fX12_begin_b257 F V7_14)
  else
  zbd (fX12_starts F V7_14 (0 : Int32)) fun q19 =>
  zbd (fX12_works F q19) fun q21 =>
  fX12_begin_b257 F q21
section
variable {F : Nat} {T : zV} {lv : Nat} {S : y_S} {V V' : zV}
theorem m_b186 (hF : 3000 ≤ F) : ∀ (r i N : Nat) (V : zV), i + r = 8 → r + 1 ≤ N →
    ∃ V', fX12_begin_l186 F N V (nI i) = y_bt F V' ∧ y_fr [] [53, 54] V V' ∧ (∀ j, i ≤ j → j < 8 → zA V' 53 j = 0 ∧ zA V' 54 j = -1) ∧ ∀ j, j < i → ∀ q ∈ [53, 54], zA V' q j = zA V q j := by
  intro r
  induction r with
  | zero =>
    intro i N V e hN
    obtain ⟨N, rfl⟩ : ∃ N', N = N' + 1 := ⟨N - 1, by omega⟩
    rw [fX12_begin_l186, if_pos (show (8 : Int32) ≤ nI i from nI_le (a := 8) (by omega) (by omega))]
    exact ⟨V, rfl, y_fr_refl, fun j h1 h2 => by omega, fun _ _ _ _ => rfl⟩
  | succ r ih =>
    intro i N V e hN
    obtain ⟨N, rfl⟩ : ∃ N', N = N' + 1 := ⟨N - 1, by omega⟩
    rw [fX12_begin_l186, if_neg (show ¬ (8 : Int32) ≤ nI i from nI_ge (b := 8) (by omega) (by omega))]
    simp only [y_ck (show i < 8 by omega) (by decide), y_let, nI_clamp (show i < 2 ^ 31 by omega), nI_1]
    have f1 : y_fr [] [53, 54] V (zsA (zsA V 53 (upd (zA V 53) i 0)) 54 (upd (zA (zsA V 53 (upd (zA V 53) i 0)) 54) i (-1))) := y_fr_A (y_fr_A y_fr_refl (by decide)) (by decide)
    have e1 : ∀ j, zA (zsA (zsA V 53 (upd (zA V 53) i 0)) 54 (upd (zA (zsA V 53 (upd (zA V 53) i 0)) 54) i (-1))) 53 j = if j = i then 0 else zA V 53 j := fun _ => rfl
    have e2 : ∀ j, zA (zsA (zsA V 53 (upd (zA V 53) i 0)) 54 (upd (zA (zsA V 53 (upd (zA V 53) i 0)) 54) i (-1))) 54 j = if j = i then -1 else zA V 54 j := fun _ => rfl
    generalize zsA (zsA V 53 (upd (zA V 53) i 0)) 54 (upd (zA (zsA V 53 (upd (zA V 53) i 0)) 54) i (-1)) = V1 at f1 e1 e2 ⊢
    obtain ⟨V2, a1, a2, a3, a4⟩ := ih (i + 1) N V1 (by omega) (by omega)
    refine ⟨V2, a1, y_fr_trans f1 a2, fun j h1 h2 => ?_, fun j hj q hq => ?_⟩
    · by_cases c : j = i
      · rw [a4 j (by omega) 53 (by decide), a4 j (by omega) 54 (by decide), e1, e2, if_pos c, if_pos c]; exact ⟨rfl, rfl⟩
      · exact a3 j (by omega) h2
    · rw [a4 j (by omega) q hq]
      have hq : q = 53 ∨ q = 54 := by simpa using hq
      rcases hq with rfl | rfl
      · rw [e1, if_neg (by omega)]
      · rw [e2, if_neg (by omega)]
theorem m_b144 (hF : 3000 ≤ F) : ∀ (r i N : Nat) (V : zV), i + r = 12 → r + 1 ≤ N →
    ∃ V', fX12_begin_l144 F N V (nI i) = fX12_begin_l186 F F V' 0 ∧ y_fr [] [49, 50, 51, 52] V V' ∧ (∀ j, i ≤ j → j < 12 → ∀ q ∈ [49, 50, 51, 52], zA V' q j = 0) ∧ ∀ j, j < i → ∀ q ∈ [49, 50, 51, 52], zA V' q j = zA V q j := by
  intro r
  induction r with
  | zero =>
    intro i N V e hN
    obtain ⟨N, rfl⟩ : ∃ N', N = N' + 1 := ⟨N - 1, by omega⟩
    rw [fX12_begin_l144, if_pos (show (12 : Int32) ≤ nI i from nI_le (a := 12) (by omega) (by omega))]
    exact ⟨V, rfl, y_fr_refl, fun j h1 h2 => by omega, fun _ _ _ _ => rfl⟩
  | succ r ih =>
    intro i N V e hN
    obtain ⟨N, rfl⟩ : ∃ N', N = N' + 1 := ⟨N - 1, by omega⟩
    rw [fX12_begin_l144, if_neg (show ¬ (12 : Int32) ≤ nI i from nI_ge (b := 12) (by omega) (by omega))]
    simp only [y_ck (show i < 12 by omega) (by decide), y_let, nI_clamp (show i < 2 ^ 31 by omega), nI_1, y_bool0]
    generalize hX : zsA (zsA (zsA (zsA V 49 _) 50 _) 51 _) 52 _ = V1
    have f1 : y_fr [] [49, 50, 51, 52] V V1 := by subst hX; exact y_fr_A (y_fr_A (y_fr_A (y_fr_A y_fr_refl (by decide)) (by decide)) (by decide)) (by decide)
    have e1 : ∀ q ∈ [49, 50, 51, 52], ∀ j, zA V1 q j = if j = i then 0 else zA V q j := by
      subst hX
      intro q hq j
      have hq : q = 49 ∨ q = 50 ∨ q = 51 ∨ q = 52 := by simpa using hq
      rcases hq with rfl | rfl | rfl | rfl <;> rfl
    obtain ⟨V2, a1, a2, a3, a4⟩ := ih (i + 1) N V1 (by omega) (by omega)
    refine ⟨V2, a1, y_fr_trans f1 a2, fun j h1 h2 q hq => ?_, fun j hj q hq => ?_⟩
    · by_cases c : j = i
      · rw [a4 j (by omega) q hq, e1 q hq, if_pos c]
      · exact a3 j (by omega) h2 q hq
    · rw [a4 j (by omega) q hq, e1 q hq, if_neg (by omega)]
theorem m_b95 (hF : 3000 ≤ F) : ∀ (r i N : Nat) (V : zV), i + r = 16 → r + 1 ≤ N →
    ∃ V', fX12_begin_l95 F N V (nI i) = fX12_begin_l144 F F V' 0 ∧ y_fr [] [44, 45, 46, 47, 48] V V' ∧ (∀ j, i ≤ j → j < 16 → ∀ q ∈ [44, 45, 46, 47, 48], zA V' q j = if q = 46 then -1 else 0) ∧ ∀ j, j < i → ∀ q ∈ [44, 45, 46, 47, 48], zA V' q j = zA V q j := by
  intro r
  induction r with
  | zero =>
    intro i N V e hN
    obtain ⟨N, rfl⟩ : ∃ N', N = N' + 1 := ⟨N - 1, by omega⟩
    rw [fX12_begin_l95, if_pos (show (16 : Int32) ≤ nI i from nI_le (a := 16) (by omega) (by omega))]
    exact ⟨V, rfl, y_fr_refl, fun j h1 h2 => by omega, fun _ _ _ _ => rfl⟩
  | succ r ih =>
    intro i N V e hN
    obtain ⟨N, rfl⟩ : ∃ N', N = N' + 1 := ⟨N - 1, by omega⟩
    rw [fX12_begin_l95, if_neg (show ¬ (16 : Int32) ≤ nI i from nI_ge (b := 16) (by omega) (by omega))]
    simp only [y_ck (show i < 16 by omega) (by decide), y_let, nI_clamp (show i < 2 ^ 31 by omega), nI_1, y_bool0]
    generalize hX : zsA (zsA (zsA (zsA (zsA V 44 _) 45 _) 46 _) 47 _) 48 _ = V1
    have f1 : y_fr [] [44, 45, 46, 47, 48] V V1 := by subst hX; exact y_fr_A (y_fr_A (y_fr_A (y_fr_A (y_fr_A y_fr_refl (by decide)) (by decide)) (by decide)) (by decide)) (by decide)
    have e1 : ∀ q ∈ [44, 45, 46, 47, 48], ∀ j, zA V1 q j = if j = i then (if q = 46 then -1 else 0) else zA V q j := by
      subst hX
      intro q hq j
      have hq : q = 44 ∨ q = 45 ∨ q = 46 ∨ q = 47 ∨ q = 48 := by simpa using hq
      rcases hq with rfl | rfl | rfl | rfl | rfl <;> rfl
    obtain ⟨V2, a1, a2, a3, a4⟩ := ih (i + 1) N V1 (by omega) (by omega)
    refine ⟨V2, a1, y_fr_trans f1 a2, fun j h1 h2 q hq => ?_, fun j hj q hq => ?_⟩
    · by_cases c : j = i
      · rw [a4 j (by omega) q hq, e1 q hq, if_pos c]
      · exact a3 j (by omega) h2 q hq
    · rw [a4 j (by omega) q hq, e1 q hq, if_neg (by omega)]
theorem m_b61 (hF : 3000 ≤ F) (hlv : lv ≤ 1) : ∀ (r i N : Nat) (V : zV), i + r = 16 → r + 1 ≤ N → zI V 0 18 = nI lv →
    ∃ V', fX12_begin_l61 F N V (nI i) = fX12_begin_l95 F F V' 0 ∧ y_fr [] [43] V V' ∧ (∀ j, i ≤ j → j < 16 → zA V' 43 j = zA V 20 (16 * lv + j)) ∧ ∀ j, j < i → zA V' 43 j = zA V 43 j := by
  intro r
  induction r with
  | zero =>
    intro i N V e hN h18
    obtain ⟨N, rfl⟩ : ∃ N', N = N' + 1 := ⟨N - 1, by omega⟩
    rw [fX12_begin_l61, if_pos (show (16 : Int32) ≤ nI i from nI_le (a := 16) (by omega) (by omega))]
    exact ⟨V, rfl, y_fr_refl, fun j h1 h2 => by omega, fun _ _ => rfl⟩
  | succ r ih =>
    intro i N V e hN h18
    obtain ⟨N, rfl⟩ : ∃ N', N = N' + 1 := ⟨N - 1, by omega⟩
    rw [fX12_begin_l61, if_neg (show ¬ (16 : Int32) ≤ nI i from nI_ge (b := 16) (by omega) (by omega)), h18, show (16 : Int32) = nI 16 from rfl, pk_mul, nI_add, y_ck (by omega) (by decide), y_ck (by omega) (by decide), y_let, nI_clamp (by omega), nI_clamp (by omega), nI_1]
    have f1 : y_fr [] [43] V (zsA V 43 (upd (zA V 43) i (zA V 20 (16 * lv + i)))) := y_fr_A y_fr_refl (by decide)
    obtain ⟨V2, a1, a2, a3, a4⟩ := ih (i + 1) N (zsA V 43 (upd (zA V 43) i (zA V 20 (16 * lv + i)))) (by omega) (by omega) h18
    refine ⟨V2, a1, y_fr_trans f1 a2, fun j h1 h2 => ?_, fun j hj => ?_⟩
    · by_cases c : j = i
      · rw [a4 j (by omega)]
        show upd (zA V 43) i (zA V 20 (16 * lv + i)) j = _
        rw [y_upd, if_pos c, c]
      · exact a3 j (by omega) h2
    · rw [a4 j (by omega)]
      show upd (zA V 43) i (zA V 20 (16 * lv + i)) j = _
      rw [y_upd, if_neg (by omega)]
/-- before modes are put in order -/
def y_bg : List (Nat × Nat) := [(0, 64), (0, 66), (0, 67), (0, 68), (0, 69), (0, 70), (0, 71), (0, 72), (0, 85)]
def y_ba : List Nat := [43, 44, 45, 46, 47, 48, 49, 50, 51, 52, 53, 54]
theorem m_fill (hF : 3000 ≤ F) (hT : y_mt T lv V) (h20 : ¬ zI V 0 20 = 0) :
    ∃ V', fX12_begin F V = y_bt F V' ∧ y_fw y_bg y_ba V V' ∧ zL V' 0 65 = 0 ∧ (zI V' 0 64 = 1 ∧ zI V' 0 66 = 1 ∧ ∀ k ∈ [67, 68, 69, 70, 71, 72, 85], zI V' 0 k = 0) ∧ (∀ j, j < 16 → zA V' 43 j = zA V 20 (16 * lv + j)) ∧
      (∀ j, j < 16 → ∀ q ∈ [44, 45, 46, 47, 48], zA V' q j = if q = 46 then -1 else 0) ∧ (∀ j, j < 12 → ∀ q ∈ [49, 50, 51, 52], zA V' q j = 0) ∧ (∀ j, j < 8 → zA V' 53 j = 0 ∧ zA V' 54 j = -1) := by
  rw [fX12_begin, if_neg h20]
  simp only [y_let]
  generalize hX : zsI (zsI (zsI (zsI (zsI (zsI (zsI (zsI (zsL (zsI V 0 64 1) 0 65 0) 0 66 1) 0 67 0) 0 68 0) 0 69 0) 0 70 0) 0 71 0) 0 72 0) 0 85 0 = V1
  have n1 : ∀ k, ¬ (k = 64 ∨ k = 66 ∨ k = 67 ∨ k = 68 ∨ k = 69 ∨ k = 70 ∨ k = 71 ∨ k = 72 ∨ k = 85) → ∀ r, zI V1 r k = zI V r k := by
    subst hX
    intro k hk r
    show (if r = 0 ∧ k = 85 then _ else if r = 0 ∧ k = 72 then _ else if r = 0 ∧ k = 71 then _ else if r = 0 ∧ k = 70 then _ else if r = 0 ∧ k = 69 then _ else if r = 0 ∧ k = 68 then _ else if r = 0 ∧ k = 67 then _ else if r = 0 ∧ k = 66 then _ else if r = 0 ∧ k = 64 then _ else zI V r k) = zI V r k
    rw [if_neg (by omega), if_neg (by omega), if_neg (by omega), if_neg (by omega), if_neg (by omega), if_neg (by omega), if_neg (by omega), if_neg (by omega), if_neg (by omega)]
  have n2 : ∀ r, ¬ r = 0 → ∀ k, zI V1 r k = zI V r k := by
    subst hX
    intro r hr k
    show (if r = 0 ∧ k = 85 then _ else if r = 0 ∧ k = 72 then _ else if r = 0 ∧ k = 71 then _ else if r = 0 ∧ k = 70 then _ else if r = 0 ∧ k = 69 then _ else if r = 0 ∧ k = 68 then _ else if r = 0 ∧ k = 67 then _ else if r = 0 ∧ k = 66 then _ else if r = 0 ∧ k = 64 then _ else zI V r k) = zI V r k
    rw [if_neg (by omega), if_neg (by omega), if_neg (by omega), if_neg (by omega), if_neg (by omega), if_neg (by omega), if_neg (by omega), if_neg (by omega), if_neg (by omega)]
  have w1 : y_fw y_bg y_ba V V1 := by
    refine ⟨fun r k hk => ?_, fun r hr => by subst hX; rfl, fun r => by subst hX; rfl⟩
    by_cases hr : r = 0
    · refine n1 k (fun z => hk ?_) r
      subst hr
      rcases z with rfl | rfl | rfl | rfl | rfl | rfl | rfl | rfl | rfl <;> decide
    · exact n2 r hr k
  have s1 : zL V1 0 65 = 0 := by subst hX; rfl
  have s2 : zI V1 0 64 = 1 ∧ zI V1 0 66 = 1 ∧ ∀ k ∈ [67, 68, 69, 70, 71, 72, 85], zI V1 0 k = 0 := by
    subst hX
    refine ⟨rfl, rfl, fun k hk => ?_⟩
    have hk : k = 67 ∨ k = 68 ∨ k = 69 ∨ k = 70 ∨ k = 71 ∨ k = 72 ∨ k = 85 := by simpa using hk
    rcases hk with rfl | rfl | rfl | rfl | rfl | rfl | rfl <;> rfl
  have s3 : zA V1 20 = zA V 20 := w1.2.1 20 (by decide)
  have h18 : zI V1 0 18 = nI lv := (w1.1 0 18 (by decide)).trans hT.1.2
  clear hX
  obtain ⟨V2, a1, a2, a3, -⟩ := m_b61 (F := F) hF hT.1.1 16 0 F V1 (by omega) (by omega) h18
  obtain ⟨V3, b1, b2, b3, -⟩ := m_b95 (F := F) hF 16 0 F V2 (by omega) (by omega)
  obtain ⟨V4, c1, c2, c3, -⟩ := m_b144 (F := F) hF 12 0 F V3 (by omega) (by omega)
  obtain ⟨V5, d1, d2, d3, -⟩ := m_b186 (F := F) hF 8 0 F V4 (by omega) (by omega)
  have e : fX12_begin_l61 F F V1 0 = y_bt F V5 := a1.trans (b1.trans (c1.trans d1))
  refine ⟨V5, e, y_fw_trans w1 (y_fw_trans (y_fw_of a2 (fun _ z => absurd z List.not_mem_nil) (by decide)) (y_fw_trans (y_fw_of b2 (fun _ z => absurd z List.not_mem_nil) (by decide)) (y_fw_trans (y_fw_of c2 (fun _ z => absurd z List.not_mem_nil) (by decide)) (y_fw_of d2 (fun _ z => absurd z List.not_mem_nil) (by decide))))), ?_, ?_, fun j hj => ?_, fun j hj q hq => ?_, fun j hj q hq => ?_, fun j hj => d3 j (Nat.zero_le _) hj⟩
  · rw [d2.2.2.1, c2.2.2.1, b2.2.2.1, a2.2.2.1]; exact s1
  · have n : ∀ k, zI V5 0 k = zI V1 0 k := fun k => (d2.1 0 k List.not_mem_nil).trans ((c2.1 0 k List.not_mem_nil).trans ((b2.1 0 k List.not_mem_nil).trans (a2.1 0 k List.not_mem_nil)))
    exact ⟨(n 64).trans s2.1, (n 66).trans s2.2.1, fun k hk => (n k).trans (s2.2.2 k hk)⟩
  · rw [d2.2.1 43 (by decide), c2.2.1 43 (by decide), b2.2.1 43 (by decide), a3 j (Nat.zero_le _) hj, s3]
  · have h := (show ∀ q ∈ [44, 45, 46, 47, 48], q ∉ [53, 54] ∧ q ∉ [49, 50, 51, 52] by decide) q hq
    rw [d2.2.1 q h.1, c2.2.1 q h.2]; exact b3 j (Nat.zero_le _) hj q hq
  · have h := (show ∀ q ∈ [49, 50, 51, 52], q ∉ [53, 54] by decide) q hq
    rw [d2.2.1 q h]; exact c3 j (Nat.zero_le _) hj q hq
end
