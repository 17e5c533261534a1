/-! ===== the reference finds the first ring ===== -/
/-- what a mode's rules on an event lead to, by the reference's numbers -/
def y_ldm (T : zV) (m : Nat) (ev : Int32) (k : Nat) : Prop := ∃ r, r ∈ y_rs T m ∧ zA T 17 r = ev ∧ ∃ x, x ∈ y_ra T r ∧ ((x.1 = 18 ∧ k = x.2.1) ∨ (x.1 = 19 ∧ k = 12 + m))
def y_ldk (T : zV) (k t : Nat) : Prop := y_ldm T (k % 12) (if k < 12 then -1 else -2) t
def y_nd2 (k : Nat) : Nat := if k < 12 then 2 * k else 2 * (k - 12) + 1
def y_m01 (T V : zV) : Prop := ∀ k, k < 24 → zA V 66 k = 0 ∨ (zA V 66 k = 1 ∧ k % 12 < y_many T 7)
def y_ct (f : Nat → Int32) : Nat → Nat
  | 0 => 0
  | n + 1 => y_ct f n + if f n = 0 then 0 else 1
theorem y_ct_le {f g : Nat → Int32} : ∀ n, (∀ k, k < n → ¬ f k = 0 → ¬ g k = 0) → y_ct f n ≤ y_ct g n ∧ (y_ct g n ≤ y_ct f n → ∀ k, k < n → ¬ g k = 0 → ¬ f k = 0) := by
  intro n
  induction n with
  | zero => intro _; exact ⟨Nat.le_refl _, fun _ k hk => absurd hk (Nat.not_lt_zero _)⟩
  | succ n ih =>
    intro h
    obtain ⟨i1, i2⟩ := ih fun k hk => h k (by omega)
    have hn := h n (by omega)
    rw [y_ct, y_ct]
    by_cases q : f n = 0
    · rw [if_pos q]
      by_cases p : g n = 0
      · rw [if_pos p]
        refine ⟨by omega, fun z k hk => ?_⟩
        by_cases e : k = n
        · subst e; exact fun y => absurd p y
        · exact i2 (by omega) k (by omega)
      · rw [if_neg p]
        exact ⟨by omega, fun z => by omega⟩
    · rw [if_neg q, if_neg (hn q)]
      refine ⟨by omega, fun z k hk => ?_⟩
      by_cases e : k = n
      · subst e; exact fun _ => q
      · exact i2 (by omega) k (by omega)
theorem y_ct_n {f : Nat → Int32} : ∀ n, y_ct f n ≤ n := by
  intro n
  induction n with
  | zero => exact Nat.le_refl _
  | succ n ih => rw [y_ct]; split <;> omega
section
variable {F : Nat} {T : zV} {lv : Nat} {V : zV}
/-- acts of the reference that are told well -/
def y_ad (T : zV) (A : List y_A) : Prop := ∀ x ∈ A, x.1 = 18 → x.2.1 < y_many T 7
theorem m_lda (hTT : y_T T) {ev : Int32} {m r : Nat} (hm : m < y_many T 7) (hr : r < 80) {k15 : zV → Int32 → Int32 → Int32 → Option zV} : ∀ (A : List y_A) (a N : Nat) (V : zV), y_mt T lv V → a + A.length ≤ 2000 → A.length + 1 ≤ N → zA V 26 (81 * lv + r + 1) = nI (a + A.length) → (∀ i x, A[i]? = some x → y_ma T V (a + i) x) → y_ad T A → y_m01 T V →
    ∃ V', fX12_leadsOn_l72 F k15 N V (nI m) ev (nI r) (nI a) = fX12_leadsOn_b146 F k15 V' (nI m) ev (nI r) ∧ y_fr [] [66] V V' ∧ y_m01 T V' ∧ ∀ k, k < 24 → (zA V' 66 k = 1 ↔ zA V 66 k = 1 ∨ ∃ x, x ∈ A ∧ ((x.1 = 18 ∧ k = x.2.1) ∨ (x.1 = 19 ∧ k = 12 + m))) := by
  have h12 := hTT.2.1.1.2
  intro A
  induction A with
  | nil =>
    intro a N V hT h1 hN h26 h hd h01
    obtain ⟨N, rfl⟩ : ∃ N', N = N' + 1 := ⟨N - 1, by omega⟩
    have hlv := hT.1.1
    have h26 : zA V 26 (81 * lv + r + 1) = nI (a + 0) := h26
    rw [fX12_leadsOn_l72, hT.1.2, show (81 : Int32) = nI 81 from rfl, pk_mul, nI_add, nI_1, y_ck (by omega) (by decide), nI_clamp (by omega), h26, if_pos (nI_le (by omega) (by have h1 : a + 0 ≤ 2000 := h1; omega))]
    exact ⟨V, rfl, y_fr_refl, h01, fun k hk => ⟨Or.inl, fun z => z.elim id fun ⟨x, hx, _⟩ => by cases hx⟩⟩
  | cons x A ih =>
    intro a N V hT h1 hN h26 h hd h01
    obtain ⟨N, rfl⟩ : ∃ N', N = N' + 1 := ⟨N - 1, by omega⟩
    have hlv := hT.1.1
    have h1 : a + (A.length + 1) ≤ 2000 := h1
    have h26 : zA V 26 (81 * lv + r + 1) = nI (a + (A.length + 1)) := h26
    have hN : A.length + 1 + 1 ≤ N + 1 := hN
    obtain ⟨k1, k2, k3, k4, -⟩ := h 0 x rfl
    have k1 : zA V 31 a = nI (x.1 + 19) := k1
    have k4 : (x.1 = 17 ∨ x.1 = 18 ∨ x.1 = 20) → zA V 32 a = nI x.2.1 := k4
    have hx := hd x (List.mem_cons_self ..)
    have ne : ∀ c : Nat, c < 100 → (nI (x.1 + 19) = nI (c + 19) ↔ x.1 = c) := fun c hc => by
      rw [nI_eq (by omega) (by omega)]; omega
    -- a node more
    have st : ∀ (V : zV) (j : Nat), j < 24 → j % 12 < y_many T 7 → y_m01 T V → y_m01 T (zsA V 66 (upd (zA V 66) j 1)) ∧ ∀ k, k < 24 → (zA (zsA V 66 (upd (zA V 66) j 1)) 66 k = 1 ↔ zA V 66 k = 1 ∨ k = j) := by
      intro V j hj hj2 g
      have e : ∀ k, zA (zsA V 66 (upd (zA V 66) j 1)) 66 k = if k = j then 1 else zA V 66 k := fun k => by
        show upd (zA V 66) j 1 k = _
        rw [y_upd]
      refine ⟨fun k hk => ?_, fun k hk => ?_⟩
      · rw [e]
        by_cases q : k = j
        · subst q; rw [if_pos rfl]; exact Or.inr ⟨rfl, hj2⟩
        · rw [if_neg q]; exact g k hk
      · rw [e]
        by_cases q : k = j
        · rw [if_pos q]; exact ⟨fun _ => Or.inr q, fun _ => rfl⟩
        · rw [if_neg q]; exact ⟨Or.inl, fun z => z.elim id fun y => absurd y q⟩
    have go : ∀ V1, y_fr [] [66] V V1 → y_m01 T V1 → ∃ V', fX12_leadsOn_b140 F (fX12_leadsOn_l72 F k15 N) V1 (nI m) ev (nI r) (nI a) = fX12_leadsOn_b146 F k15 V' (nI m) ev (nI r) ∧ y_fr [] [66] V V' ∧ y_m01 T V' ∧ ∀ k, k < 24 → (zA V' 66 k = 1 ↔ zA V1 66 k = 1 ∨ ∃ x, x ∈ A ∧ ((x.1 = 18 ∧ k = x.2.1) ∨ (x.1 = 19 ∧ k = 12 + m))) := by
      intro V1 f g
      rw [fX12_leadsOn_b140, nI_1]
      obtain ⟨V2, b1, b2, b3, b4⟩ := ih (a + 1) N V1 (y_mt_fr hT f List.not_mem_nil (by decide)) (by omega) (by omega) (by rw [f.2.1 26 (by decide), h26]; congr 1; omega) (fun i y hy => by
        have := h (i + 1) y hy
        rw [show a + 1 + i = a + (i + 1) by omega]
        exact y_ma_eq (fun q hq => f.2.1 q ((show ∀ q ∈ y_st, q ∉ [66] by decide) q hq)) this) (fun y hy => hd y (List.mem_cons_of_mem _ hy)) g
      exact ⟨V2, b1, y_fr_trans f b2, b3, b4⟩
    have k31 : ∀ V1, y_fr [] [66] V V1 → zA V1 31 a = nI (x.1 + 19) := fun V1 f => by rw [f.2.1 31 (by decide)]; exact k1
    rw [fX12_leadsOn_l72, hT.1.2, show (81 : Int32) = nI 81 from rfl, pk_mul, nI_add, nI_1, y_ck (by omega) (by decide), nI_clamp (by omega), h26, if_neg (nI_ge (by omega) (by omega))]
    simp only [y_ck (show a < 2000 by omega) (show 2000 < 2 ^ 31 by decide), nI_clamp (show a < 2 ^ 31 by omega), k1]
    rw [show (37 : Int32) = nI (18 + 19) from rfl]
    by_cases q18 : x.1 = 18
    · have hx2 := hx q18
      rw [if_pos ((ne 18 (by decide)).mpr q18)]
      simp only [k4 (Or.inr (Or.inl q18)), y_ck (show x.2.1 < 24 by omega) (show 24 < 2 ^ 31 by decide), y_let, nI_clamp (show x.2.1 < 2 ^ 31 by omega), fX12_leadsOn_b118, y_ck (show a < 2000 by omega) (show 2000 < 2 ^ 31 by decide), nI_clamp (show a < 2 ^ 31 by omega)]
      have fz : y_fr [] [66] V (zsA V 66 (upd (zA V 66) x.2.1 (vp_nar .boolean 1))) := y_fr_A y_fr_refl (by decide)
      obtain ⟨s1, s2⟩ := st V x.2.1 (by omega) (by rw [Nat.mod_eq_of_lt (by omega)]; exact hx2) h01
      rw [k31 _ fz, show (38 : Int32) = nI (19 + 19) from rfl, if_neg (fun z => by have := (ne 19 (by decide)).mp z; omega)]
      obtain ⟨V', b1, b2, b3, b4⟩ := go _ fz s1
      refine ⟨V', b1, b2, b3, fun k hk => ?_⟩
      rw [b4 k hk]
      constructor
      · rintro (z | ⟨y, hy, hz⟩)
        · rcases (s2 k hk).mp z with z | z
          · exact Or.inl z
          · exact Or.inr ⟨x, List.mem_cons_self .., Or.inl ⟨q18, z⟩⟩
        · exact Or.inr ⟨y, List.mem_cons_of_mem _ hy, hz⟩
      · rintro (z | ⟨y, hy, hz⟩)
        · exact Or.inl ((s2 k hk).mpr (Or.inl z))
        · rcases List.mem_cons.mp hy with rfl | hy
          · rcases hz with ⟨-, z⟩ | ⟨z, -⟩
            · exact Or.inl ((s2 k hk).mpr (Or.inr z))
            · omega
          · exact Or.inr ⟨y, hy, hz⟩
    rw [if_neg (fun z => q18 ((ne 18 (by decide)).mp z)), fX12_leadsOn_b118]
    simp only [y_ck (show a < 2000 by omega) (show 2000 < 2 ^ 31 by decide), nI_clamp (show a < 2 ^ 31 by omega), k1]
    rw [show (38 : Int32) = nI (19 + 19) from rfl]
    by_cases q19 : x.1 = 19
    · rw [if_pos ((ne 19 (by decide)).mpr q19), show (12 : Int32) = nI 12 from rfl, nI_add, y_ck (by omega) (by decide), y_let, nI_clamp (by omega)]
      have fz : y_fr [] [66] V (zsA V 66 (upd (zA V 66) (12 + m) (vp_nar .boolean 1))) := y_fr_A y_fr_refl (by decide)
      obtain ⟨s1, s2⟩ := st V (12 + m) (by omega) (by rw [Nat.add_mod_left, Nat.mod_eq_of_lt (by omega)]; exact hm) h01
      obtain ⟨V', b1, b2, b3, b4⟩ := go _ fz s1
      refine ⟨V', b1, b2, b3, fun k hk => ?_⟩
      rw [b4 k hk]
      constructor
      · rintro (z | ⟨y, hy, hz⟩)
        · rcases (s2 k hk).mp z with z | z
          · exact Or.inl z
          · exact Or.inr ⟨x, List.mem_cons_self .., Or.inr ⟨q19, z⟩⟩
        · exact Or.inr ⟨y, List.mem_cons_of_mem _ hy, hz⟩
      · rintro (z | ⟨y, hy, hz⟩)
        · exact Or.inl ((s2 k hk).mpr (Or.inl z))
        · rcases List.mem_cons.mp hy with rfl | hy
          · rcases hz with ⟨z, -⟩ | ⟨-, z⟩
            · omega
            · exact Or.inl ((s2 k hk).mpr (Or.inr z))
          · exact Or.inr ⟨y, hy, hz⟩
    · rw [if_neg (fun z => q19 ((ne 19 (by decide)).mp z))]
      obtain ⟨V', b1, b2, b3, b4⟩ := go V y_fr_refl h01
      refine ⟨V', b1, b2, b3, fun k hk => ?_⟩
      rw [b4 k hk]
      constructor
      · rintro (z | ⟨y, hy, hz⟩)
        · exact Or.inl z
        · exact Or.inr ⟨y, List.mem_cons_of_mem _ hy, hz⟩
      · rintro (z | ⟨y, hy, hz⟩)
        · exact Or.inl z
        · rcases List.mem_cons.mp hy with rfl | hy
          · omega
          · exact Or.inr ⟨y, hy, hz⟩
theorem m_ldr (hF : 3000 ≤ F) (hTT : y_T T) (hax : y_ax T) {ev : Int32} {m : Nat} (hm : m < y_many T 7) : ∀ (c r N : Nat) (V : zV), r + c = y_hd T (m + 1) → c + 1 ≤ N → y_mt T lv V → y_m01 T V →
    ∃ V', fX12_leadsOn_l15 F N V (nI m) ev (nI r) = some V' ∧ y_fr [] [66] V V' ∧ y_m01 T V' ∧ ∀ k, k < 24 → (zA V' 66 k = 1 ↔ zA V 66 k = 1 ∨ ∃ r', (r ≤ r' ∧ r' < r + c) ∧ zA T 17 r' = ev ∧ ∃ x, x ∈ y_ra T r' ∧ ((x.1 = 18 ∧ k = x.2.1) ∨ (x.1 = 19 ∧ k = 12 + m))) := by
  have h12 := hTT.2.1.1.2
  obtain ⟨R, hR, hR3, hh, hcond⟩ := hTT.2.2.2.2.1
  have hRm := (hh (m + 1) (by omega)).2
  intro c
  induction c with
  | zero =>
    intro r N V e hN hT h01
    obtain ⟨N, rfl⟩ : ∃ N', N = N' + 1 := ⟨N - 1, by omega⟩
    have hlv := hT.1.1
    have h23 : zA V 23 (13 * lv + m + 1) = nI (y_hd T (m + 1)) := (hT.2.2.2.1 (m + 1) (by omega)).trans (hh (m + 1) (by omega)).1
    rw [fX12_leadsOn_l15, hT.1.2, show (13 : Int32) = nI 13 from rfl, pk_mul, nI_add, nI_1, y_ck (by omega) (by decide), nI_clamp (by omega), h23, if_pos (nI_le (by omega) (by omega))]
    exact ⟨V, rfl, y_fr_refl, h01, fun k hk => ⟨Or.inl, fun z => z.elim id fun ⟨x, hx, _⟩ => by omega⟩⟩
  | succ c ih =>
    intro r N V e hN hT h01
    obtain ⟨N, rfl⟩ : ∃ N', N = N' + 1 := ⟨N - 1, by omega⟩
    have hlv := hT.1.1
    have hr : r < R := by omega
    have h23 : zA V 23 (13 * lv + m + 1) = nI (y_hd T (m + 1)) := (hT.2.2.2.1 (m + 1) (by omega)).trans (hh (m + 1) (by omega)).1
    obtain ⟨g24, -, ⟨lo2, hi2, b1, b2, b3, b4, b5, b6⟩⟩ := hT.2.2.2.2.1 R hR3 hR r hr
    rw [fX12_leadsOn_l15, hT.1.2, show (13 : Int32) = nI 13 from rfl, pk_mul, nI_add, nI_1, y_ck (by omega) (by decide), nI_clamp (show 13 * lv + m + 1 < 2 ^ 31 by omega), h23, if_neg (nI_ge (by omega) (by omega)), show (80 : Int32) = nI 80 from rfl, pk_mul, nI_add, y_ck (by omega) (by decide), nI_clamp (show 80 * lv + r < 2 ^ 31 by omega), g24]
    by_cases q : zA T 17 r = ev
    · rw [if_pos q, show (81 : Int32) = nI 81 from rfl, pk_mul, nI_add, y_ck (by omega) (by decide), y_let, nI_clamp (show 81 * lv + r < 2 ^ 31 by omega), b3]
      obtain ⟨V1, a1, a2, a3, a4⟩ := m_lda (F := F) (ev := ev) (k15 := fX12_leadsOn_l15 F N) hTT hm (show r < 80 by omega) (y_ra T r) lo2 F V hT (by omega) (by omega) (by rw [b4]; congr 1; omega) b6 (fun x hx => ((hax R ⟨hR3, hR⟩ r hr).2 x hx).1) h01
      rw [a1, fX12_leadsOn_b146, nI_1]
      obtain ⟨V2, d1, d2, d3, d4⟩ := ih (r + 1) N V1 (by omega) (by omega) (y_mt_fr hT a2 List.not_mem_nil (by decide)) a3
      refine ⟨V2, d1, y_fr_trans a2 d2, d3, fun k hk => ?_⟩
      rw [d4 k hk, a4 k hk]
      constructor
      · rintro ((z | z) | ⟨r', z1, z2⟩)
        · exact Or.inl z
        · exact Or.inr ⟨r, by omega, q, z⟩
        · exact Or.inr ⟨r', by omega, z2⟩
      · rintro (z | ⟨r', z1, z2, z3⟩)
        · exact Or.inl (Or.inl z)
        · by_cases y : r' = r
          · subst y; exact Or.inl (Or.inr z3)
          · exact Or.inr ⟨r', by omega, z2, z3⟩
    · rw [if_neg q, fX12_leadsOn_b146, nI_1]
      obtain ⟨V2, d1, d2, d3, d4⟩ := ih (r + 1) N V (by omega) (by omega) hT h01
      refine ⟨V2, d1, d2, d3, fun k hk => ?_⟩
      rw [d4 k hk]
      constructor
      · rintro (z | ⟨r', z1, z2⟩)
        · exact Or.inl z
        · exact Or.inr ⟨r', by omega, z2⟩
      · rintro (z | ⟨r', z1, z2, z3⟩)
        · exact Or.inl z
        · by_cases y : r' = r
          · subst y; exact absurd z2 q
          · exact Or.inr ⟨r', by omega, z2, z3⟩
theorem m_leads (hF : 3000 ≤ F) (hTT : y_T T) (hax : y_ax T) (hmo : ∀ m, m < y_many T 7 → y_hd T m ≤ y_hd T (m + 1)) {ev : Int32} {m : Nat} (hm : m < y_many T 7) (hT : y_mt T lv V) (h01 : y_m01 T V) :
    ∃ V', fX12_leadsOn F V (nI m) ev = some V' ∧ y_fr [] [66] V V' ∧ y_m01 T V' ∧ ∀ k, k < 24 → (zA V' 66 k = 1 ↔ zA V 66 k = 1 ∨ y_ldm T m ev k) := by
  have h12 := hTT.2.1.1.2
  obtain ⟨R, hR, hR3, hh, hcond⟩ := hTT.2.2.2.2.1
  have hlv := hT.1.1
  have hle := hmo m hm
  have h23 : zA V 23 (13 * lv + m) = nI (y_hd T m) := (hT.2.2.2.1 m (by omega)).trans (hh m (by omega)).1
  have hRm := (hh (m + 1) (by omega)).2
  obtain ⟨V', a1, a2, a3, a4⟩ := m_ldr (F := F) (ev := ev) hF hTT hax hm (y_hd T (m + 1) - y_hd T m) (y_hd T m) F V (by omega) (by omega) hT h01
  refine ⟨V', ?_, a2, a3, fun k hk => ?_⟩
  · unfold fX12_leadsOn
    rw [hT.1.2, show (13 : Int32) = nI 13 from rfl, pk_mul, nI_add, y_ck (by omega) (by decide), y_let, nI_clamp (by omega), h23]
    exact a1
  · rw [a4 k hk]
    unfold y_ldm
    constructor
    · rintro (z | ⟨r', z1, z2⟩)
      · exact Or.inl z
      · exact Or.inr ⟨r', y_rs_in.mpr (by omega), z2⟩
    · rintro (z | ⟨r', z1, z2⟩)
      · exact Or.inl z
      · have := y_rs_in.mp z1
        exact Or.inr ⟨r', by omega, z2⟩
end
