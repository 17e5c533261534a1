/-! ===== the reference finds the first ring: closed sets ===== -/
section
variable {F : Nat} {T : zV} {lv : Nat} {V : zV}
theorem y_nd2_inj {j k : Nat} (hj : j < 24) (hk : k < 24) (h : y_nd2 j = y_nd2 k) : j = k := by
  unfold y_nd2 at h
  split at h <;> split at h <;> omega
/-- both numberings -/
theorem y_ldk_iff (hTT : y_T T) (hax : y_ax T) {k t : Nat} (hk : k < 24) (hm : k % 12 < y_many T 7) (ht : t < 24) : y_ldk T k t ↔ y_ldp T (y_nd2 k) (y_nd2 t) := by
  have h12 := hTT.2.1.1.2
  obtain ⟨R, hR, hR3, hh, hcond⟩ := hTT.2.2.2.2.1
  have ev : (k < 12 ∧ k % 12 = k ∧ y_nd2 k = 2 * (k % 12) ∧ (if k < 12 then (-1 : Int32) else -2) = -1) ∨ (¬ k < 12 ∧ k % 12 = k - 12 ∧ y_nd2 k = 2 * (k % 12) + 1 ∧ (if k < 12 then (-1 : Int32) else -2) = -2) := by
    unfold y_nd2
    by_cases q : k < 12
    · rw [if_pos q, if_pos q]
      exact Or.inl ⟨q, by omega, by omega, rfl⟩
    · rw [if_neg q, if_neg q]
      exact Or.inr ⟨q, by omega, by omega, rfl⟩
  have lead : ∀ {m r : Nat} {x : y_A}, m < y_many T 7 → r ∈ y_rs T m → x ∈ y_ra T r → (((x.1 = 18 ∧ t = x.2.1) ∨ (x.1 = 19 ∧ t = 12 + m)) ↔ ((x.1 = 18 ∧ y_nd2 t = 2 * x.2.1) ∨ (x.1 = 19 ∧ y_nd2 t = 2 * m + 1))) := by
    intro m r x hm' hr hx
    have hrs := y_rs_in.mp hr
    have hl := (hh (m + 1) (by omega)).2
    have h18 := ((hax R ⟨hR3, hR⟩ r (by omega)).2 x hx).1
    unfold y_nd2
    constructor
    · rintro (⟨z, y⟩ | ⟨z, y⟩)
      · have := h18 z
        exact Or.inl ⟨z, by rw [if_pos (by omega)]; omega⟩
      · exact Or.inr ⟨z, by rw [if_neg (by omega)]; omega⟩
    · rintro (⟨z, y⟩ | ⟨z, y⟩)
      · have := h18 z
        refine Or.inl ⟨z, ?_⟩
        split at y <;> omega
      · refine Or.inr ⟨z, ?_⟩
        split at y <;> omega
  unfold y_ldk y_ldm y_ldp
  constructor
  · rintro ⟨r, h1, h2, x, h3, h4⟩
    refine ⟨k % 12, hm, r, h1, ?_, x, h3, (lead hm h1 h3).mp h4⟩
    rcases ev with ⟨e0, e1, e2, e3⟩ | ⟨e0, e1, e2, e3⟩
    · rw [e3] at h2; exact Or.inl ⟨e2, h2⟩
    · rw [e3] at h2; exact Or.inr ⟨e2, h2⟩
  · rintro ⟨m, hm', r, h1, h2, x, h3, h4⟩
    have em : m = k % 12 := by
      rcases ev with ⟨e0, e1, e2, e3⟩ | ⟨e0, e1, e2, e3⟩ <;> rcases h2 with ⟨h2, -⟩ | ⟨h2, -⟩ <;> omega
    subst em
    refine ⟨r, h1, ?_, x, h3, (lead hm h1 h3).mpr h4⟩
    rcases ev with ⟨e0, e1, e2, e3⟩ | ⟨e0, e1, e2, e3⟩
    · rw [e3]
      rcases h2 with ⟨-, h2⟩ | ⟨h2', -⟩
      · exact h2
      · omega
    · rw [e3]
      rcases h2 with ⟨h2', -⟩ | ⟨-, h2⟩
      · omega
      · exact h2
theorem y_mod12 : ∀ k : Fin 24, (nI k.1 - nI k.1 / (12 : Int32) * (12 : Int32)) = nI (k.1 % 12) := by decide +kernel
theorem y_m01_1 {k : Nat} (h : y_m01 T V) (hk : k < 24) : ¬ zA V 66 k = 0 ↔ zA V 66 k = 1 := by
  constructor
  · intro z
    exact (h k hk).elim (fun y => absurd y z) fun y => y.1
  · intro z y
    rw [z] at y
    exact absurd y (by decide)
/-- one pass over the nodes -/
theorem m_pass (hF : 3000 ≤ F) (hTT : y_T T) (hax : y_ax T) (hmo : ∀ m, m < y_many T 7 → y_hd T m ≤ y_hd T (m + 1)) {k31 : zV → Int32 → Int32 → Int32 → Option (Int32 × zV)} {x1 x3 : Int32} {Q : Nat → Prop} (hQ : ∀ j t, j < 24 → t < 24 → Q j → y_ldk T j t → Q t) : ∀ (n k N : Nat) (V : zV), k + n = 24 → n + 1 ≤ N → y_mt T lv V → y_m01 T V → (∀ j, j < 24 → zA V 66 j = 1 → Q j) →
    ∃ V', fX12_comesBack_l38 F k31 N V x1 x3 (nI k) = fX12_comesBack_l89 F k31 F V' x1 x3 0 0 ∧ y_fr [] [66] V V' ∧ y_m01 T V' ∧ (∀ j, j < 24 → zA V' 66 j = 1 → Q j) ∧ (∀ j, j < 24 → zA V 66 j = 1 → zA V' 66 j = 1) ∧ ∀ j t, k ≤ j → j < 24 → t < 24 → zA V 66 j = 1 → y_ldk T j t → zA V' 66 t = 1 := by
  intro n
  induction n with
  | zero =>
    intro k N V hk hN hT h01 hq
    obtain ⟨N, rfl⟩ : ∃ N', N = N' + 1 := ⟨N - 1, by omega⟩
    rw [fX12_comesBack_l38, if_pos (show (24 : Int32) ≤ nI k from nI_le (a := 24) (by omega) (by omega))]
    exact ⟨V, rfl, y_fr_refl, h01, hq, fun _ _ h => h, fun j t h1 h2 => by omega⟩
  | succ n ih =>
    intro k N V hk hN hT h01 hq
    obtain ⟨N, rfl⟩ : ∃ N', N = N' + 1 := ⟨N - 1, by omega⟩
    have hk24 : k < 24 := by omega
    rw [fX12_comesBack_l38, if_neg (show ¬ (24 : Int32) ≤ nI k from nI_ge (b := 24) hk24 (by decide)), y_ck hk24 (by decide), nI_clamp (by omega)]
    by_cases q : zA V 66 k = 0
    · rw [if_pos q, fX12_comesBack_b77, nI_1]
      obtain ⟨V', a1, a2, a3, a4, a5, a6⟩ := ih (k + 1) N V (by omega) (by omega) hT h01 hq
      refine ⟨V', a1, a2, a3, a4, a5, fun j t h1 h2 h3 h4 h5 => ?_⟩
      by_cases z : j = k
      · subst z
        rw [q] at h4
        exact absurd h4 (by decide)
      · exact a6 j t (by omega) h2 h3 h4 h5
    · rw [if_neg q]
      have k1 : zA V 66 k = 1 := (y_m01_1 h01 hk24).mp q
      have hm : k % 12 < y_many T 7 := (h01 k hk24).elim (fun z => absurd z q) fun z => z.2
      have e : (if (12 : Int32) ≤ nI k then fX12_comesBack_b74 F (fX12_comesBack_l38 F k31 N) V x1 x3 (nI k) (nI k - nI k / (12 : Int32) * (12 : Int32)) (-2 : Int32) else fX12_comesBack_b74 F (fX12_comesBack_l38 F k31 N) V x1 x3 (nI k) (nI k - nI k / (12 : Int32) * (12 : Int32)) (-1 : Int32)) = fX12_comesBack_b74 F (fX12_comesBack_l38 F k31 N) V x1 x3 (nI k) (nI (k % 12)) (if k < 12 then -1 else -2) := by
        rw [y_mod12 ⟨k, hk24⟩]
        by_cases z : k < 12
        · rw [if_neg (show ¬ (12 : Int32) ≤ nI k from nI_ge (b := 12) z (by decide)), if_pos z]
        · rw [if_pos (show (12 : Int32) ≤ nI k from nI_le (a := 12) (by omega) (by omega)), if_neg z]
      obtain ⟨V1, b1, b2, b3, b4⟩ := m_leads (F := F) (ev := if k < 12 then -1 else -2) hF hTT hax hmo hm hT h01
      rw [e, fX12_comesBack_b74, b1, y_bd, fX12_comesBack_b77, nI_1]
      have up : ∀ j, j < 24 → zA V 66 j = 1 → zA V1 66 j = 1 := fun j hj z => (b4 j hj).mpr (Or.inl z)
      obtain ⟨V', a1, a2, a3, a4, a5, a6⟩ := ih (k + 1) N V1 (by omega) (by omega) (y_mt_fr hT b2 List.not_mem_nil (by decide)) b3 (fun j hj z => by
        rcases (b4 j hj).mp z with y | y
        · exact hq j hj y
        · exact hQ k j hk24 hj (hq k hk24 k1) y)
      refine ⟨V', a1, y_fr_trans b2 a2, a3, a4, fun j hj z => a5 j hj (up j hj z), fun j t h1 h2 h3 h4 h5 => ?_⟩
      by_cases z : j = k
      · subst z
        exact a5 t h3 ((b4 t h3).mpr (Or.inr h5))
      · exact a6 j t (by omega) h2 h3 (up j h2 h4) h5
theorem m_cnt {k31 : zV → Int32 → Int32 → Int32 → Option (Int32 × zV)} {x1 : Int32} {known : Nat} (hkn : known ≤ 24) : ∀ (n k N : Nat), k + n = 24 → n + 1 ≤ N →
    fX12_comesBack_l89 F k31 N V x1 (nI known) (nI (y_ct (zA V 66) k)) (nI k) = k31 V x1 (if known < y_ct (zA V 66) 24 then 1 else 0) (nI (y_ct (zA V 66) 24)) := by
  intro n
  induction n with
  | zero =>
    intro k N hk hN
    obtain ⟨N, rfl⟩ : ∃ N', N = N' + 1 := ⟨N - 1, by omega⟩
    have : k = 24 := by omega
    subst this
    have hc := y_ct_n (f := zA V 66) 24
    rw [fX12_comesBack_l89, if_pos (show (24 : Int32) ≤ nI 24 from nI_le (a := 24) (by omega) (by omega))]
    by_cases q : known < y_ct (zA V 66) 24
    · rw [if_neg (nI_ge q (by omega)), if_pos q, fX12_comesBack_b126]
    · rw [if_pos (nI_le (by omega) (by omega)), if_neg q, fX12_comesBack_b126]
  | succ n ih =>
    intro k N hk hN
    obtain ⟨N, rfl⟩ : ∃ N', N = N' + 1 := ⟨N - 1, by omega⟩
    have i1 := ih (k + 1) N (by omega) (by omega)
    rw [y_ct] at i1
    rw [fX12_comesBack_l89, if_neg (show ¬ (24 : Int32) ≤ nI k from nI_ge (b := 24) (by omega) (by decide)), y_ck (by omega) (by decide), nI_clamp (by omega)]
    by_cases q : zA V 66 k = 0
    · rw [if_pos q] at i1
      rw [if_pos q, fX12_comesBack_b109, nI_1]
      exact i1
    · rw [if_neg q] at i1
      rw [if_neg q, fX12_comesBack_b109, nI_1, nI_1]
      exact i1
theorem m_grow (hF : 3000 ≤ F) (hTT : y_T T) (hax : y_ax T) (hmo : ∀ m, m < y_many T 7 → y_hd T m ≤ y_hd T (m + 1)) {m : Nat} (hm : m < y_many T 7) {Q : Nat → Prop} (hQ : ∀ j t, j < 24 → t < 24 → Q j → y_ldk T j t → Q t) : ∀ (d known N : Nat) (V : zV), 25 ≤ known + d → d + 2 ≤ N → y_mt T lv V → y_m01 T V → (∀ j, j < 24 → zA V 66 j = 1 → Q j) → known ≤ y_ct (zA V 66) 24 →
    ∃ V', fX12_comesBack_l31 F N V (nI m) 1 (nI known) = some (zA V' 66 m, V') ∧ y_fr [] [66] V V' ∧ y_m01 T V' ∧ (∀ j, j < 24 → zA V' 66 j = 1 → Q j) ∧ (∀ j, j < 24 → zA V 66 j = 1 → zA V' 66 j = 1) ∧ ∀ j t, j < 24 → t < 24 → zA V' 66 j = 1 → y_ldk T j t → zA V' 66 t = 1 := by
  have h12 := hTT.2.1.1.2
  intro d
  induction d with
  | zero =>
    intro known N V hk hN hT h01 hq hc
    have := y_ct_n (f := zA V 66) 24
    omega
  | succ d ih =>
    intro known N V hk hN hT h01 hq hc
    obtain ⟨N, rfl⟩ : ∃ N', N = N' + 1 := ⟨N - 1, by omega⟩
    obtain ⟨V1, a1, a2, a3, a4, a5, a6⟩ := m_pass (F := F) (k31 := fX12_comesBack_l31 F N) (x1 := nI m) (x3 := nI known) hF hTT hax hmo hQ 24 0 F V rfl (by omega) hT h01 hq
    have a1 : fX12_comesBack_l38 F (fX12_comesBack_l31 F N) F V (nI m) (nI known) 0 = _ := a1
    have hk24 := y_ct_n (f := zA V 66) 24
    have c1 := m_cnt (F := F) (V := V1) (k31 := fX12_comesBack_l31 F N) (x1 := nI m) (known := known) (by omega) 24 0 F rfl (by omega)
    have c1 : fX12_comesBack_l89 F (fX12_comesBack_l31 F N) F V1 (nI m) (nI known) 0 0 = _ := c1
    rw [fX12_comesBack_l31, if_neg (show ¬ (1 : Int32) = 0 by decide), a1, c1]
    have cl := y_ct_le (f := zA V 66) (g := zA V1 66) 24 fun k hk z => (y_m01_1 a3 hk).mpr (a5 k hk ((y_m01_1 h01 hk).mp z))
    by_cases q : known < y_ct (zA V1 66) 24
    · have := y_ct_n (f := zA V1 66) 24
      rw [if_pos q]
      obtain ⟨V2, b1, b2, b3, b4, b5, b6⟩ := ih (y_ct (zA V1 66) 24) N V1 (by omega) (by omega) (y_mt_fr hT a2 List.not_mem_nil (by decide)) a3 a4 (Nat.le_refl _)
      exact ⟨V2, b1, y_fr_trans a2 b2, b3, b4, fun j hj z => b5 j hj (a5 j hj z), b6⟩
    · rw [if_neg q]
      obtain ⟨N, rfl⟩ : ∃ N', N = N' + 1 := ⟨N - 1, by omega⟩
      have same := cl.2 (by omega)
      have back : ∀ j, j < 24 → zA V1 66 j = 1 → zA V 66 j = 1 := fun j hj z => (y_m01_1 h01 hj).mp (same j hj ((y_m01_1 a3 hj).mpr z))
      rw [fX12_comesBack_l31, if_pos rfl, y_ck (show m < 24 by omega) (by decide), nI_clamp (by omega)]
      have ck : zA V1 66 m = 0 ∨ zA V1 66 m = 1 := (a3 m (by omega)).elim Or.inl fun z => Or.inr z.1
      refine ⟨V1, ?_, a2, a3, a4, a5, fun j t hj ht z y => a6 j t (Nat.zero_le _) hj ht (back j hj z) y⟩
      unfold zchk
      rw [if_pos ck]
theorem m_clr : ∀ (n k N : Nat) (V : zV) (x1 : Int32), k + n = 24 → n + 1 ≤ N → (∀ j, j < k → zA V 66 j = 0) → ∃ V', fX12_comesBack_l2 F N V x1 (nI k) = (zbd (fX12_leadsOn F V' x1 (-1 : Int32)) fun q15 => fX12_comesBack_l31 F F q15 x1 (1 : Int32) (0 : Int32)) ∧ y_fr [] [66] V V' ∧ ∀ j, j < 24 → zA V' 66 j = 0 := by
  intro n
  induction n with
  | zero =>
    intro k N V x1 hk hN h
    obtain ⟨N, rfl⟩ : ∃ N', N = N' + 1 := ⟨N - 1, by omega⟩
    rw [fX12_comesBack_l2, if_pos (show (24 : Int32) ≤ nI k from nI_le (a := 24) (by omega) (by omega))]
    exact ⟨V, rfl, y_fr_refl, fun j hj => h j (by omega)⟩
  | succ n ih =>
    intro k N V x1 hk hN h
    obtain ⟨N, rfl⟩ : ∃ N', N = N' + 1 := ⟨N - 1, by omega⟩
    rw [fX12_comesBack_l2, if_neg (show ¬ (24 : Int32) ≤ nI k from nI_ge (b := 24) (by omega) (by decide)), y_ck (by omega) (by decide), y_let, nI_clamp (by omega), nI_1]
    obtain ⟨V', a1, a2, a3⟩ := ih (k + 1) N (zsA V 66 (upd (zA V 66) k (vp_nar .boolean 0))) x1 (by omega) (by omega) (fun j hj => by
      show upd (zA V 66) k 0 j = 0
      rw [y_upd]
      by_cases q : j = k
      · rw [if_pos q]
      · rw [if_neg q]; exact h j (by omega))
    exact ⟨V', a1, y_fr_trans (y_fr_A y_fr_refl (by decide)) a2, a3⟩
theorem m_back (hF : 3000 ≤ F) (hTT : y_T T) (hax : y_ax T) (hmo : ∀ m, m < y_many T 7 → y_hd T m ≤ y_hd T (m + 1)) {m : Nat} (hm : m < y_many T 7) (hT : y_mt T lv V) :
    ∃ a V', fX12_comesBack F V (nI m) = some (a, V') ∧ y_fr [] [66] V V' ∧ (a = 0 ↔ ¬ y_wl (y_ldp T) 24 (2 * m) (2 * m)) := by
  have h12 := hTT.2.1.1.2
  obtain ⟨R, hR, hR3, hh, hcond⟩ := hTT.2.2.2.2.1
  obtain ⟨V1, a1, a2, a3⟩ := m_clr (F := F) 24 0 F V (nI m) rfl (by omega) (fun j hj => absurd hj (Nat.not_lt_zero _))
  have hT1 := y_mt_fr hT a2 List.not_mem_nil (by decide)
  have h01 : y_m01 T V1 := fun k hk => Or.inl (a3 k hk)
  obtain ⟨V2, b1, b2, b3, b4⟩ := m_leads (F := F) (ev := -1) hF hTT hax hmo hm hT1 h01
  have em : y_nd2 m = 2 * m := by unfold y_nd2; rw [if_pos (by omega)]
  have nd : ∀ j, j < 24 → y_nd2 j < 24 := fun j hj => by unfold y_nd2; split <;> omega
  have emm : m % 12 = m := Nat.mod_eq_of_lt (by omega)
  have ldm : ∀ t, y_ldm T m (-1) t ↔ y_ldk T m t := fun t => by unfold y_ldk; rw [emm, if_pos (show m < 12 by omega)]
  -- what the walk may meet
  have hQ : ∀ j t, j < 24 → t < 24 → (j % 12 < y_many T 7 ∧ y_wl (y_ldp T) 24 (2 * m) (y_nd2 j)) → y_ldk T j t → (t % 12 < y_many T 7 ∧ y_wl (y_ldp T) 24 (2 * m) (y_nd2 t)) := by
    intro j t hj ht ⟨z1, z2⟩ z3
    refine ⟨?_, y_wl_tr 24 _ (y_nd2 j) _ (nd j hj) z2 (y_wl_up ((y_ldk_iff hTT hax hj z1 ht).mp z3) 24)⟩
    obtain ⟨r, r1, r2, x, r3, r4⟩ := z3
    have hrs := y_rs_in.mp r1
    have hl := (hh (j % 12 + 1) (by omega)).2
    rcases r4 with ⟨y1, y2⟩ | ⟨y1, y2⟩
    · have := ((hax R ⟨hR3, hR⟩ r (by omega)).2 x r3).1 y1
      rw [y2, Nat.mod_eq_of_lt (by omega)]; exact this
    · rw [y2, Nat.add_mod_left, Nat.mod_eq_of_lt (by omega)]; exact z1
  have hq2 : ∀ j, j < 24 → zA V2 66 j = 1 → (j % 12 < y_many T 7 ∧ y_wl (y_ldp T) 24 (2 * m) (y_nd2 j)) := by
    intro j hj z
    rcases (b4 j hj).mp z with y | y
    · rw [a3 j hj] at y
      exact absurd y (by decide)
    · refine ⟨(b3 j hj).elim (fun u => by rw [u] at z; exact absurd z (by decide)) fun u => u.2, y_wl_up ?_ 24⟩
      rw [← em]
      exact (y_ldk_iff hTT hax (show m < 24 by omega) (by omega) hj).mp ((ldm j).mp y)
  obtain ⟨V3, d1, d2, d3, d4, d5, d6⟩ := m_grow (F := F) hF hTT hax hmo hm hQ 25 0 F V2 (by omega) (by omega) (y_mt_fr hT1 b2 List.not_mem_nil (by decide)) b3 hq2 (Nat.zero_le _)
  have d1 : fX12_comesBack_l31 F F V2 (nI m) 1 0 = _ := d1
  refine ⟨zA V3 66 m, V3, ?_, y_fr_trans a2 (y_fr_trans b2 d2), ?_⟩
  · unfold fX12_comesBack
    have a1 : fX12_comesBack_l2 F F V (nI m) 0 = _ := a1
    rw [a1, b1, y_bd, d1]
  · have hm24 : m < 24 := by omega
    constructor
    · intro z y
      have := y_wl_into (R := y_ldp T) (Q := fun n => ∃ k, k < 24 ∧ y_nd2 k = n ∧ zA V3 66 k = 1) (f0 := 2 * m) (fun t ht => by
        have hn : ∃ k, k < 24 ∧ y_nd2 k = t := by
          obtain ⟨m', h1, r, h2, h3, x, h4, h5⟩ := ht
          have hrs := y_rs_in.mp h2
          have hl := (hh (m' + 1) (by omega)).2
          rcases h5 with ⟨y1, y2⟩ | ⟨y1, y2⟩
          · have := ((hax R ⟨hR3, hR⟩ r (by omega)).2 x h4).1 y1
            exact ⟨x.2.1, by omega, by unfold y_nd2; rw [if_pos (by omega)]; exact y2.symm⟩
          · exact ⟨12 + m', by omega, by unfold y_nd2; rw [if_neg (by omega)]; omega⟩
        obtain ⟨k, hk, rfl⟩ := hn
        refine ⟨k, hk, rfl, d5 k hk ((b4 k hk).mpr (Or.inr ((ldm k).mpr ((y_ldk_iff hTT hax hm24 (by omega) hk).mpr ?_))))⟩
        rw [em]; exact ht) (fun f t hf ht => by
        obtain ⟨k, hk, rfl, hk1⟩ := hf
        have hn : ∃ k, k < 24 ∧ y_nd2 k = t := by
          obtain ⟨m', h1, r, h2, h3, x, h4, h5⟩ := ht
          have hrs := y_rs_in.mp h2
          have hl := (hh (m' + 1) (by omega)).2
          rcases h5 with ⟨y1, y2⟩ | ⟨y1, y2⟩
          · have := ((hax R ⟨hR3, hR⟩ r (by omega)).2 x h4).1 y1
            exact ⟨x.2.1, by omega, by unfold y_nd2; rw [if_pos (by omega)]; exact y2.symm⟩
          · exact ⟨12 + m', by omega, by unfold y_nd2; rw [if_neg (by omega)]; omega⟩
        obtain ⟨t', ht', rfl⟩ := hn
        have km : k % 12 < y_many T 7 := (d4 k hk hk1).1
        exact ⟨t', ht', rfl, d6 k t' hk ht' hk1 ((y_ldk_iff hTT hax hk km ht').mpr ht)⟩) 24 (2 * m) (2 * m) (Or.inl rfl) y
      obtain ⟨k, hk, ek, k1⟩ := this
      have : k = m := y_nd2_inj hk hm24 (by rw [ek, em])
      subst this
      rw [z] at k1
      exact absurd k1 (by decide)
    · intro z
      rcases d3 m hm24 with y | y
      · exact y
      · have := (d4 m hm24 y.1).2
        rw [em] at this
        exact absurd this z
theorem b_ring (hF : 3000 ≤ F) (hTT : y_T T) (hax : y_ax T) (hmo : ∀ m, m < y_many T 7 → y_hd T m ≤ y_hd T (m + 1)) (hrg : y_rg T) {V0 V7 : zV} (h7 : ¬ zI V0 0 7 = 0) (h20 : ¬ zI V7 0 20 = 0) (hT : y_mt T lv V7) :
    ∃ a V7', fX11_ring F V0 T = some a ∧ fX12_ring F V7 = some (a, V7') ∧ y_fr [] [66] V7 V7' := by
  have h12 := hTT.2.1.1
  have hs : ∀ V, y_mt T lv V → fX12_sort F V 7 = some (zA T 1 7) := fun V hT => m_sort (k := 7) hT (by decide)
  have lp : ∀ (n m N : Nat) (V : zV), m + n = y_many T 7 → n + 1 ≤ N → y_mt T lv V → (∀ j, j < m → ¬ y_wl (y_ldp T) 24 (2 * j) (2 * j)) → ∃ V', fX12_ring_l11 F N V (nI m) = some (zI T 13 11, V') ∧ y_fr [] [66] V V' := by
    intro n
    induction n with
    | zero =>
      intro m N V hm hN hT hj
      obtain ⟨N, rfl⟩ : ∃ N', N = N' + 1 := ⟨N - 1, by omega⟩
      rw [fX12_ring_l11, hs V hT, y_bd, h12.1, if_pos (nI_le (by omega) (by omega))]
      refine ⟨V, ?_, y_fr_refl⟩
      rcases hrg with ⟨z, -⟩ | ⟨m', z1, z2, z3, -⟩
      · rw [z]
      · exact absurd z3 (hj m' (by omega))
    | succ n ih =>
      intro m N V hm hN hT hj
      obtain ⟨N, rfl⟩ : ∃ N', N = N' + 1 := ⟨N - 1, by omega⟩
      obtain ⟨a, V1, a1, a2, a3⟩ := m_back (F := F) hF hTT hax hmo (show m < y_many T 7 by omega) hT
      rw [fX12_ring_l11, hs V hT, y_bd, h12.1, if_neg (nI_ge (by omega) (by omega)), a1, y_bd]
      dsimp only
      by_cases q : a = 0
      · rw [if_pos q, nI_1]
        obtain ⟨V', b1, b2⟩ := ih (m + 1) N V1 (by omega) (by omega) (y_mt_fr hT a2 List.not_mem_nil (by decide)) (fun j h => by
          by_cases z : j = m
          · subst z; exact a3.mp q
          · exact hj j (by omega))
        exact ⟨V', b1, y_fr_trans a2 b2⟩
      · rw [if_neg q]
        refine ⟨V1, ?_, a2⟩
        have hw : y_wl (y_ldp T) 24 (2 * m) (2 * m) := by
          by_cases z : y_wl (y_ldp T) 24 (2 * m) (2 * m)
          · exact z
          · exact absurd (a3.mpr z) q
        rcases hrg with ⟨-, z⟩ | ⟨m', z1, z2, z3, z4⟩
        · exact absurd hw (z m (by omega))
        · have : m' = m := by
            rcases Nat.lt_trichotomy m' m with y | y | y
            · exact absurd z3 (hj m' y)
            · exact y
            · exact absurd hw (z4 m y)
          subst this
          rw [z2]
  obtain ⟨V', a1, a2⟩ := lp (y_many T 7) 0 F V7 (by omega) (by omega) hT (fun j h => absurd h (Nat.not_lt_zero _))
  refine ⟨zI T 13 11, V', ?_, ?_, a2⟩
  · unfold fX11_ring
    rw [if_neg h7]
  · unfold fX12_ring
    rw [if_neg h20]
    exact a1
end
