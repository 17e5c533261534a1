/-! ===== the next rule of a frame in the reference ===== -/
section
variable {F : Nat} {T : zV} {lv : Nat} {S : y_S} {V V' : zV} {tp : Bool}
theorem y_mw_fr {sc : List (Nat × Nat)} {ar : List Nat} (h : y_mw tp lv T S V) (f : y_fr sc ar V V') (h1 : ∀ q ∈ [(0, 18), (0, 88), (0, 89), (0, 99)], q ∉ sc) (h2 : ∀ r ∈ y_st, r ∉ ar) (h3 : ∀ q ∈ y_gs, q ∉ sc) (h4 : ∀ r ∈ y_gr, r ∉ ar) : y_mw tp lv T S V' :=
  y_mw_new h (y_mg_fr h.2.1 f h3 h4) (y_fw_of f (fun _ z => z) (fun _ z => z)) h1 h2 h.2.2.1 rfl rfl
theorem y_mw_cond (h : y_mw tp lv T S V) {m r : Nat} (hv : ∀ vars vars' left ip, (∀ j, j < y_many T 6 → vars j = vars' j) → y_cond T r vars left ip = y_cond T r vars' left ip) (hm : m < 12) : y_cond T r (zA V 43) (zA V 50 m) (zI V 0 67) = y_cond T r (y_R S 1) (y_R S 20 m) (y_I S 14 7) := by
  rw [y_mg_at h.2.1 (r := 14) (k := 7) (k7 := 67) (by decide), y_mg_r h.2.1 (r := 20) (r7 := 50) (n := 12) (by decide) hm]
  exact hv _ _ _ _ fun j hj => y_mg_v h.2.1 hj
/-- what is asked of a table's acts, besides -/
def y_ax (T : zV) : Prop := ∀ R, zI T 13 3 = nI R ∧ R ≤ 80 → ∀ r, r < R → y_ra T r ≠ [] ∧ ∀ x ∈ y_ra T r, (x.1 = 18 → x.2.1 < y_many T 7) ∧ (x.1 = 20 → x.2.1 < y_many T 1)
theorem m_nextl (hF : 3000 ≤ F) (hTT : y_T T) {fr m : Nat} {ev : Int32} (hfr : fr < 12) (hm : m < y_many T 7) : ∀ (c r n : Nat) (V : zV), r + c = y_hd T (m + 1) → c + 1 ≤ n → y_mw tp lv T S V → zA V 58 fr = ev → zA V 59 fr = nI r →
    ∃ V', y_fr [] [59, 60, 61, 63] V V' ∧ (∀ q ∈ [59, 60, 61], ∀ i, ¬ i = fr → zA V' q i = zA V q i) ∧
      (((∀ rec top o, y_rl T rec top m ev o (List.range' r c) S = S) ∧ fX12_nextRule_l58 F n V (nI fr) (nI m) = some (0, V')) ∨
       (∃ r' c' lo : Nat, r' + 1 + c' = r + c ∧ r ≤ r' ∧ zA T 17 r' = ev ∧ y_cond T r' (y_R S 1) (y_R S 20 m) (y_I S 14 7) = some true ∧ (∀ rec top o, y_rl T rec top m ev o (List.range' r c) S = y_rl T rec top m ev o (r' :: List.range' (r' + 1) c') S) ∧ fX12_nextRule_l58 F n V (nI fr) (nI m) = some (1, V') ∧
         zA V' 59 fr = nI (r' + 1) ∧ zA V' 60 fr = nI lo ∧ zA V' 61 fr = nI (lo + (y_ra T r').length) ∧ lo + (y_ra T r').length ≤ 2000 ∧ (∀ i x, (y_ra T r')[i]? = some x → y_ma T V' (lo + i) x) ∧ (∃ R, (zI T 13 3 = nI R ∧ R ≤ 80) ∧ r' < R))) := by
  obtain ⟨R, hR, hR3, hh, hcond⟩ := hTT.2.2.2.2.1
  have h12 := hTT.2.1.1.2
  have hhd := hh (m + 1) (by omega)
  intro c
  induction c with
  | zero =>
    intro r n V e hn h h58 h59
    obtain ⟨n, rfl⟩ : ∃ n', n = n' + 1 := ⟨n - 1, by omega⟩
    have hlv := h.1.1.1
    have h23 : zA V 23 (13 * lv + m + 1) = nI (y_hd T (m + 1)) := by rw [Nat.add_assoc, h.1.2.2.2.1 (m + 1) (by omega)]; exact hhd.1
    refine ⟨V, y_fr_refl, fun _ _ _ _ => rfl, Or.inl ⟨fun rec top o => rfl, ?_⟩⟩
    rw [fX12_nextRule_l58, h.1.1.2, show (13 : Int32) = nI 13 from rfl, pk_mul, nI_add, nI_1, y_ck hfr (by decide), y_ck (by omega) (by decide)]
    simp only [nI_clamp (show fr < 2 ^ 31 by omega), nI_clamp (show 13 * lv + m + 1 < 2 ^ 31 by omega), h23, h59]
    rw [if_pos (nI_le (by omega) (by omega))]
  | succ c ih =>
    intro r n V e hn h h58 h59
    obtain ⟨n, rfl⟩ : ∃ n', n = n' + 1 := ⟨n - 1, by omega⟩
    have hlv := h.1.1.1
    have hrR : r < R := by omega
    have h23 : zA V 23 (13 * lv + m + 1) = nI (y_hd T (m + 1)) := by rw [Nat.add_assoc, h.1.2.2.2.1 (m + 1) (by omega)]; exact hhd.1
    have f9 : y_fr [] [59, 60, 61, 63] V (zsA V 59 (upd (zA V 59) fr (nI (r + 1)))) := y_fr_A y_fr_refl (by decide)
    have h9 : y_mw tp lv T S (zsA V 59 (upd (zA V 59) fr (nI (r + 1)))) := y_mw_fr h (y_fr_A (sc := []) (ar := [59]) y_fr_refl (by decide)) (fun _ _ => List.not_mem_nil) (by decide) (fun _ _ => List.not_mem_nil) (by decide)
    have e59 : zA (zsA V 59 (upd (zA V 59) fr (nI (r + 1)))) 59 fr = nI (r + 1) := by
      show upd (zA V 59) fr (nI (r + 1)) fr = _
      rw [y_upd, if_pos rfl]
    have o59 : ∀ q ∈ [59, 60, 61], ∀ i, ¬ i = fr → zA (zsA V 59 (upd (zA V 59) fr (nI (r + 1)))) q i = zA V q i := by
      intro q hq i hi
      have hq' : q = 59 ∨ q = 60 ∨ q = 61 := by simpa using hq
      rcases hq' with rfl | rfl | rfl
      · show upd (zA V 59) fr (nI (r + 1)) i = _
        rw [y_upd, if_neg hi]
      · rfl
      · rfl
    obtain ⟨m1, ⟨lo, hi, l1, l2, l3, l4, l5, l6⟩, ⟨lo2, hi2, b1, b2, b3, b4, b5, b6⟩⟩ := h9.1.2.2.2.2.1 R hR3 hR r hrR
    have m1' : zA (zsA V 59 (upd (zA V 59) fr (nI (r + 1)))) 24 (80 * lv + r) = zA T 17 r := m1
    have e58 : zA (zsA V 59 (upd (zA V 59) fr (nI (r + 1)))) 58 fr = ev := h58
    have hbody : fX12_nextRule_l58 F (n + 1) V (nI fr) (nI m) = if zA T 17 r = ev then (zbd (fX12_holds F (zsA V 59 (upd (zA V 59) fr (nI (r + 1)))) (nI r) (nI m)) fun q14 => if q14.1 = 0 then fX12_nextRule_l58 F n q14.2 (nI fr) (nI m) else
        zchk (zix (((81 : Int32) * (zI q14.2 0 18)) + nI r) 162) <| zchk (zix (nI fr) 12) <| zlet (zsA q14.2 60 (upd (zA q14.2 60) (nI fr).toNatClampNeg (zA q14.2 26 ((((81 : Int32) * (zI q14.2 0 18)) + nI r)).toNatClampNeg))) fun V7_19 =>
        zchk (zix ((((81 : Int32) * (zI V7_19 0 18)) + nI r) + (1 : Int32)) 162) <| zchk (zix (nI fr) 12) <| zlet (zsA V7_19 61 (upd (zA V7_19 61) (nI fr).toNatClampNeg (zA V7_19 26 (((((81 : Int32) * (zI V7_19 0 18)) + nI r) + (1 : Int32))).toNatClampNeg))) fun V7_23 => some ((1 : Int32), V7_23)) else fX12_nextRule_l58 F n (zsA V 59 (upd (zA V 59) fr (nI (r + 1)))) (nI fr) (nI m) := by
      rw [fX12_nextRule_l58, h.1.1.2, show (13 : Int32) = nI 13 from rfl, pk_mul, nI_add, nI_1, y_ck hfr (by decide), y_ck (by omega) (by decide)]
      simp only [nI_clamp (show fr < 2 ^ 31 by omega), nI_clamp (show 13 * lv + m + 1 < 2 ^ 31 by omega), h23, h59]
      rw [if_neg (nI_ge (by omega) (by omega)), y_ck hfr (by decide), y_let, y_ck hfr (by decide), y_ck hfr (by decide), y_let, nI_1]
      have e18 : zI (zsA V 59 (upd (zA V 59) fr (nI (r + 1)))) 0 18 = nI lv := h.1.1.2
      rw [e18, show (80 : Int32) = nI 80 from rfl, pk_mul, nI_add, y_ck (by omega) (by decide), y_ck hfr (by decide), nI_clamp (by omega), m1', e58]
    rw [hbody]
    have skip : zA T 17 r = ev → y_cond T r (y_R S 1) (y_R S 20 m) (y_I S 14 7) = some true → False ∨ True := fun _ _ => Or.inr trivial
    have next : ∀ V1, y_fr [] [59, 60, 61, 63] V V1 → (∀ q ∈ [59, 60, 61], ∀ i, ¬ i = fr → zA V1 q i = zA V q i) → y_mw tp lv T S V1 → zA V1 58 fr = ev → zA V1 59 fr = nI (r + 1) → ¬ (zA T 17 r = ev ∧ y_cond T r (y_R S 1) (y_R S 20 m) (y_I S 14 7) = some true) →
        ∃ V', y_fr [] [59, 60, 61, 63] V V' ∧ (∀ q ∈ [59, 60, 61], ∀ i, ¬ i = fr → zA V' q i = zA V q i) ∧
          (((∀ rec top o, y_rl T rec top m ev o (List.range' r (c + 1)) S = S) ∧ fX12_nextRule_l58 F n V1 (nI fr) (nI m) = some (0, V')) ∨
           (∃ r' c' lo : Nat, r' + 1 + c' = r + (c + 1) ∧ r ≤ r' ∧ zA T 17 r' = ev ∧ y_cond T r' (y_R S 1) (y_R S 20 m) (y_I S 14 7) = some true ∧ (∀ rec top o, y_rl T rec top m ev o (List.range' r (c + 1)) S = y_rl T rec top m ev o (r' :: List.range' (r' + 1) c') S) ∧ fX12_nextRule_l58 F n V1 (nI fr) (nI m) = some (1, V') ∧
             zA V' 59 fr = nI (r' + 1) ∧ zA V' 60 fr = nI lo ∧ zA V' 61 fr = nI (lo + (y_ra T r').length) ∧ lo + (y_ra T r').length ≤ 2000 ∧ (∀ i x, (y_ra T r')[i]? = some x → y_ma T V' (lo + i) x) ∧ (∃ R, (zI T 13 3 = nI R ∧ R ≤ 80) ∧ r' < R))) := by
      intro V1 f1 o1 w1 w58 w59 hno
      obtain ⟨V2, g1, g2, g3⟩ := ih (r + 1) n V1 (by omega) (by omega) w1 w58 w59
      have sk : ∀ rec top o, y_rl T rec top m ev o (List.range' r (c + 1)) S = y_rl T rec top m ev o (List.range' (r + 1) c) S := by
        intro rec top o
        rw [List.range'_succ, y_rl, if_neg hno]
      refine ⟨V2, y_fr_trans f1 g1, fun q hq i hi => (g2 q hq i hi).trans (o1 q hq i hi), ?_⟩
      rcases g3 with ⟨a1, a2⟩ | ⟨r', c', lo, a1, a0, a2, a3, a4, a5⟩
      · exact Or.inl ⟨fun rec top o => (sk rec top o).trans (a1 rec top o), a2⟩
      · exact Or.inr ⟨r', c', lo, by omega, by omega, a2, a3, fun rec top o => (sk rec top o).trans (a4 rec top o), a5⟩
    by_cases q1 : zA T 17 r = ev
    rotate_left
    · rw [if_neg q1]
      exact next _ f9 o59 h9 e58 e59 (fun z => q1 z.1)
    rw [if_pos q1]
    obtain ⟨bb, hbb⟩ := (hcond r hrR).1 (y_R S 1) (y_R S 20 m) (y_I S 14 7)
    have hc9 := (y_mw_cond h9 (m := m) (r := r) l6.2 (by omega)).trans hbb
    have hl6 := l6.1 (zA (zsA V 59 (upd (zA V 59) fr (nI (r + 1)))) 43) (zA (zsA V 59 (upd (zA V 59) fr (nI (r + 1)))) 50 m) (zI (zsA V 59 (upd (zA V 59) fr (nI (r + 1)))) 0 67)
    rw [hc9] at hl6
    obtain ⟨V1, e1, e2⟩ := m_holds hF (m := m) (by omega) hlv (by omega) l1 l2 h9.1.1.2 l3 l4 l5 hl6
    have f1 : y_fr [] [59, 60, 61, 63] V V1 := y_fr_trans f9 (y_fr_mono e2 (by decide) (by decide))
    have w1 : y_mw tp lv T S V1 := y_mw_fr h9 e2 (fun _ _ => List.not_mem_nil) (by decide) (fun _ _ => List.not_mem_nil) (by decide)
    have o1 : ∀ q ∈ [59, 60, 61], ∀ i, ¬ i = fr → zA V1 q i = zA V q i := by
      intro q hq i hi
      rw [e2.2.1 q ((show ∀ q ∈ [59, 60, 61], q ∉ [63] by decide) q hq)]
      exact o59 q hq i hi
    have w59 : zA V1 59 fr = nI (r + 1) := by rw [e2.2.1 59 (by decide)]; exact e59
    have w58 : zA V1 58 fr = ev := by rw [e2.2.1 58 (by decide)]; exact e58
    rw [e1, y_bd]
    cases bb with
    | false =>
      rw [if_pos (show (if false = true then (1 : Int32) else 0) = 0 from rfl)]
      exact next V1 f1 o1 w1 w58 w59 (fun z => by rw [hbb] at z; cases z.2)
    | true =>
      rw [if_neg (show ¬ (if true = true then (1 : Int32) else 0) = 0 by decide)]
      have e18 : zI V1 0 18 = nI lv := w1.1.1.2
      have b3' : zA V1 26 (81 * lv + r) = nI lo2 := by rw [e2.2.1 26 (by decide)]; exact b3
      have b4' : zA V1 26 (81 * lv + r + 1) = nI hi2 := by rw [e2.2.1 26 (by decide)]; exact b4
      dsimp only
      rw [e18, show (81 : Int32) = nI 81 from rfl, pk_mul, nI_add, y_ck (by omega) (by decide), y_ck hfr (by decide), y_let]
      have e18' : ∀ f, zI (zsA V1 60 f) 0 18 = nI lv := fun _ => e18
      rw [e18', pk_mul, nI_add, nI_1, y_ck (by omega) (by decide), y_ck hfr (by decide), y_let]
      simp only [nI_clamp (show fr < 2 ^ 31 by omega), nI_clamp (show 81 * lv + r < 2 ^ 31 by omega), nI_clamp (show 81 * lv + r + 1 < 2 ^ 31 by omega), b3']
      have e26 : ∀ f, zA (zsA V1 60 f) 26 (81 * lv + r + 1) = nI hi2 := fun _ => b4'
      rw [e26]
      have ff : y_fr [] [60, 61] V1 (zsA (zsA V1 60 (upd (zA V1 60) fr (nI lo2))) 61 (upd (zA (zsA V1 60 (upd (zA V1 60) fr (nI lo2))) 61) fr (nI hi2))) := y_fr_A (y_fr_A y_fr_refl (by decide)) (by decide)
      have hwT := y_mw_fr w1 ff (fun _ _ => List.not_mem_nil) (by decide) (fun _ _ => List.not_mem_nil) (by decide)
      refine ⟨_, y_fr_trans f1 (y_fr_mono ff (by decide) (by decide)), fun q hq i hi => ?_, Or.inr ⟨r, c, lo2, by omega, Nat.le_refl _, q1, hbb, fun rec top o => by rw [List.range'_succ], rfl, w59, ?_, ?_, by omega, fun i x hx => y_ma_eq (V := zsA V 59 (upd (zA V 59) fr (nI (r + 1)))) (fun q hq => ?_) (b6 i x hx), R, ⟨hR3, hR⟩, hrR⟩⟩
      · have hq' : q = 59 ∨ q = 60 ∨ q = 61 := by simpa using hq
        rcases hq' with rfl | rfl | rfl
        · exact o1 59 hq i hi
        · show upd (zA V1 60) fr (nI lo2) i = _
          rw [y_upd, if_neg hi]; exact o1 60 hq i hi
        · show upd (zA V1 61) fr (nI hi2) i = _
          rw [y_upd, if_neg hi]; exact o1 61 hq i hi
      · show upd (zA V1 60) fr (nI lo2) fr = _
        rw [y_upd, if_pos rfl]
      · show upd (zA V1 61) fr (nI hi2) fr = _
        rw [y_upd, if_pos rfl, show lo2 + (y_ra T r).length = hi2 by omega]
      · rw [ff.2.1 q ((show ∀ q ∈ y_st, q ∉ [60, 61] by decide) q hq), e2.2.1 q ((show ∀ q ∈ y_st, q ∉ [63] by decide) q hq)]
end
