/-! ===== the reference's faults of names ===== -/
section
variable {F : Nat} {b : Nat → Nat} {L M sd : Nat} {V : zV} {i : Nat} {l : List r_E} {P : Nat → Nat → Prop}
/-- only the worst fault may differ -/
def r_sw (V V' : zV) : Prop := (∀ r k, ¬ (r = 0 ∧ (k = 15 ∨ k = 16)) → zI V' r k = zI V r k) ∧ (∀ r, zA V' r = zA V r) ∧ (∀ r, zB V' r = zB V r) ∧ ∀ r k, zL V' r k = zL V r k
theorem r_sw_refl : r_sw V V := ⟨fun _ _ _ => rfl, fun _ => rfl, fun _ => rfl, fun _ _ => rfl⟩
theorem r_sw_trans {V' V'' : zV} (h : r_sw V V') (g : r_sw V' V'') : r_sw V V'' := ⟨fun r k m => (g.1 r k m).trans (h.1 r k m), fun r => (g.2.1 r).trans (h.2.1 r), fun r => (g.2.2.1 r).trans (h.2.2.1 r), fun r k => (g.2.2.2 r k).trans (h.2.2.2 r k)⟩
theorem r_sw_I {V' : zV} {k : Nat} {x : Int32} (h : r_sw V V') (hk : k = 15 ∨ k = 16) : r_sw V (zsI V' 0 k x) := by
  refine ⟨fun r k' m => ?_, h.2.1, h.2.2.1, h.2.2.2⟩
  rw [y_get.1, if_neg (fun z => m ⟨z.1, by rw [z.2]; exact hk⟩)]
  exact h.1 r k' m
theorem r_sw_fx {V' : zV} (h : r_sw V V') : r_fx sd V V' := ⟨fun r k m => h.1 r k fun z => m ⟨z.1, by rcases z.2 with rfl | rfl <;> decide⟩, fun r _ _ => h.2.1 r, fun r _ => h.2.2.1 r, h.2.2.2, fun r _ i _ => congrFun (h.2.1 r) i⟩
theorem r_sw_ms {V' : zV} {Q : Nat → Nat → Prop} (h : r_ms b L M sd i l P V) (f : r_sw V V') (w : r_ws b L Q V') : r_ms b L M sd i l Q V' := by
  obtain ⟨⟨⟨r1, r2⟩, rn⟩, ⟨t1, t2, t3⟩, ⟨s1, s2⟩, ⟨n1, n2, n3⟩, -⟩ := h
  have e : ∀ k, ¬ k = 15 → ¬ k = 16 → zI V' 0 k = zI V 0 k := fun k h1 h2 => f.1 0 k fun z => z.2.elim h1 h2
  refine ⟨⟨⟨(e 10 (by decide) (by decide)).trans r1, fun j hj => ?_⟩, rn⟩, ⟨(e 11 (by decide) (by decide)).trans t1, (e 13 (by decide) (by decide)).trans t2, t3⟩, ⟨(e 19 (by decide) (by decide)).trans s1, s2⟩, ⟨(e 22 (by decide) (by decide)).trans n1, n2, ?_⟩, w⟩
  · rw [f.2.1 3, f.2.1 4, f.2.1 5, f.2.2.1 6]; exact r2 j hj
  · rw [f.2.2.1 9, f.2.1 10, f.2.1 11]; exact n3
theorem r_tS_lt {m j j' : Nat} (hm : r_in (r_tK b L) m) (h : j < j') (h' : j' ≤ m) : r_tS b L j < r_tS b L j' := by
  have step : ∀ k, k < m → r_tS b L k < r_tS b L (k + 1) := by
    intro k hk
    have h41 := (hm.2 k hk).1
    have hL := r_tS_L b L k
    have hlt : r_tS b L k < L := by
      by_cases q : r_tS b L k = L
      · exact absurd ((r_kd_41 hL).mpr q) h41
      · omega
    have h1 := r_te_le (b := b) hlt
    have h2 := (r_bl_le (b := b) (r_ps_L b L (k + 1))).1
    have e : r_ps b L (k + 1) = r_te b L (r_tS b L k) := rfl
    have e2 : r_tS b L (k + 1) = r_bl b L (r_ps b L (k + 1)) := rfl
    omega
  have : ∀ n, j + n + 1 ≤ m → r_tS b L j < r_tS b L (j + n + 1) := by
    intro n
    induction n with
    | zero => intro h; exact step j (by omega)
    | succ n ih =>
      intro h
      have h1 := ih (by omega)
      have h2 := step (j + n + 1) (by omega)
      have : j + (n + 1) + 1 = j + n + 1 + 1 := by omega
      rw [this]
      omega
  have := this (j' - j - 1) (by omega)
  rwa [show j + (j' - j - 1) + 1 = j' by omega] at this
theorem m_wrong (hL : L ≤ 4000) (h : r_ms b L M sd i l P V) (hP : ∀ j k, P j k → j ≤ i) {j k : Nat} (hj : j ≤ i) (h1 : 1 ≤ k) (h5 : k ≤ 5) :
    ∃ V', fX12_wrong F V (nI k) (nI j) = some V' ∧ r_ms b L M sd i l (fun j' k' => P j' k' ∨ (j' = j ∧ k' = k)) V' ∧ r_sw V V' := by
  have lt := r_ms_lt h
  have e4 := (h.1.1.2 j (by omega)).2.1
  have hin := h.2.1.2.2
  have hS : ∀ j, r_tS b L j < 2 ^ 31 := fun j => by have := r_tS_L b L j; omega
  obtain ⟨-, ⟨h11, h13, -⟩, -, -, w⟩ := id h
  have h46 : fX12_wrong_b46 F V (nI k) (nI (r_tS b L j)) = some (zsI (zsI V 0 15 (nI k)) 0 16 (nI (r_tS b L j))) := rfl
  have f46 : r_sw V (zsI (zsI V 0 15 (nI k)) 0 16 (nI (r_tS b L j))) := r_sw_I (r_sw_I r_sw_refl (Or.inl rfl)) (Or.inr rfl)
  unfold fX12_wrong
  rw [y_ck (by omega) (by decide), y_let, nI_clamp (by omega), e4, if_neg (show ¬ 0 < zI V 0 13 by rw [h13]; decide), h46]
  rcases w with ⟨w1, w2⟩ | ⟨j0, k0, p0, pj, pk1, pk2, w1, w2, w3⟩
  · rw [if_pos w1]
    refine ⟨_, rfl, r_sw_ms h f46 (Or.inr ⟨j, k, Or.inr ⟨rfl, rfl⟩, by omega, h1, h5, rfl, rfl, fun j' k' z => ?_⟩), f46⟩
    rcases z with z | ⟨rfl, rfl⟩
    · exact absurd z (w2 j' k')
    · exact Or.inr ⟨rfl, Nat.le_refl _⟩
  have hj0 := hP j0 k0 p0
  have new : (∀ j' k', P j' k' → j < j' ∨ (j = j' ∧ k ≤ k')) → ∃ V', some (zsI (zsI V 0 15 (nI k)) 0 16 (nI (r_tS b L j))) = some V' ∧ r_ms b L M sd i l (fun j' k' => P j' k' ∨ (j' = j ∧ k' = k)) V' ∧ r_sw V V' := by
    intro z
    refine ⟨_, rfl, r_sw_ms h f46 (Or.inr ⟨j, k, Or.inr ⟨rfl, rfl⟩, by omega, h1, h5, rfl, rfl, fun j' k' y => ?_⟩), f46⟩
    rcases y with y | ⟨rfl, rfl⟩
    · exact z j' k' y
    · exact Or.inr ⟨rfl, Nat.le_refl _⟩
  have old : (j0 < j ∨ (j0 = j ∧ k0 ≤ k)) → ∃ V', some V = some V' ∧ r_ms b L M sd i l (fun j' k' => P j' k' ∨ (j' = j ∧ k' = k)) V' ∧ r_sw V V' := by
    intro z
    refine ⟨V, rfl, r_sw_ms h r_sw_refl (Or.inr ⟨j0, k0, Or.inl p0, pj, pk1, pk2, w1, w2, fun j' k' y => ?_⟩), r_sw_refl⟩
    rcases y with y | ⟨rfl, rfl⟩
    · exact w3 j' k' y
    · exact z
  rw [if_neg (show ¬ zI V 0 15 = 0 by rw [w1]; exact nI_ne0 (by omega) (by omega)), w1, w2]
  rcases Nat.lt_trichotomy j0 j with q | q | q
  · rw [if_pos (nI_lt (r_tS_lt hin q hj) (hS _))]
    exact old (Or.inl q)
  · subst q
    rw [if_neg (nI_nlt (Nat.le_refl _) (hS _)), if_pos rfl]
    by_cases q2 : k < k0
    · rw [if_pos (nI_lt q2 (by omega))]
      refine new fun j' k' y => ?_
      rcases w3 j' k' y with z | z
      · exact Or.inl z
      · exact Or.inr ⟨z.1, by omega⟩
    · rw [if_neg (nI_nlt (by omega) (by omega))]
      exact old (Or.inr ⟨rfl, by omega⟩)
  · have hs := r_tS_lt hin q hj0
    rw [if_neg (nI_nlt (by omega) (hS _)), if_neg (fun z => by have := (nI_eq (hS _) (hS _)).mp z; omega)]
    refine new fun j' k' y => ?_
    rcases w3 j' k' y with z | z
    · exact Or.inl (by omega)
    · exact Or.inl (by omega)
theorem r_tW_ok {j : Nat} (h : r_tK b L j = 27) : r_an (r_tW b L j) ∧ (r_tW b L j).length ≤ 8 := by
  obtain ⟨t1, t2, t3⟩ := r_kd_27 (show r_kd b L (r_tS b L j) ≤ 27 by have : r_kd b L (r_tS b L j) = 27 := h; omega)
  exact ⟨r_str_an t1 t2, by unfold r_tW; rw [r_str_len]; exact t3⟩
theorem m_namedl (hL : L ≤ 4000) (h : r_ms b L M sd i l P V) (hP : ∀ j k, P j k → j ≤ i) {j s : Nat} (hj : j ≤ i) (hk : r_tK b L j = 27) (hs : s ≤ 7) : ∀ (m : List r_E) (k N : Nat), l.drop k = m → k ≤ l.length → m.length + 1 ≤ N →
    ∃ V', fX12_named_l2 F N V (nI j) (nI s) (nI k) = some (nI ((r_lk m (r_tW b L j) s).getD 0), V') ∧ r_ms b L M sd i l (fun j' k' => P j' k' ∨ (r_lk m (r_tW b L j) s = none ∧ j' = j ∧ k' = 4)) V' ∧ r_sw V V' := by
  have lt := r_ms_lt h
  have e6 := (h.1.1.2 j (by omega)).2.2.2 hk
  obtain ⟨n1, n2, n3⟩ := h.2.2.2.1
  obtain ⟨ha, h8⟩ := r_tW_ok hk
  intro m
  induction m with
  | nil =>
    intro k N hm hk hN
    obtain ⟨N, rfl⟩ : ∃ N', N = N' + 1 := ⟨N - 1, by omega⟩
    have hke := List.drop_eq_nil_iff.mp hm
    obtain ⟨V', a1, a2, a3⟩ := m_wrong (F := F) hL h hP hj (k := 4) (by decide) (by decide)
    have a1 : fX12_wrong F V 4 (nI j) = some V' := a1
    rw [fX12_named_l2, n1, if_pos (nI_le (by omega) (by omega)), a1, y_bd]
    refine ⟨V', rfl, ?_, a3⟩
    have e : (fun j' k' => P j' k' ∨ (r_lk [] (r_tW b L j) s = none ∧ j' = j ∧ k' = 4)) = fun j' k' => P j' k' ∨ (j' = j ∧ k' = 4) := by
      funext j' k'
      exact propext ⟨fun z => z.imp id fun z => z.2, fun z => z.imp id fun z => ⟨rfl, z⟩⟩
    rw [e]; exact a2
  | cons e m ih =>
    intro k N hm hk hN
    have hN : m.length + 1 + 1 ≤ N := hN
    obtain ⟨N, rfl⟩ : ∃ N', N = N' + 1 := ⟨N - 1, by omega⟩
    have hlt : k < l.length := by
      by_cases q : k < l.length
      · exact q
      · rw [List.drop_eq_nil_iff.mpr (by omega)] at hm; cases hm
    have ek : l[k]? = some e := by
      have : (l.drop k)[0]? = some e := by rw [hm]; rfl
      rw [List.getElem?_drop] at this; exact this
    have ed : l.drop (k + 1) = m := by
      have : (l.drop k).tail = m := by rw [hm]; rfl
      rw [List.tail_drop] at this; exact this
    obtain ⟨m1, m2, m3, m4, m5, m6⟩ := n3 k e ek
    have next := ih (k + 1) N ed (by omega) (by omega)
    rw [fX12_named_l2, n1, if_neg (nI_ge hlt (by omega))]
    simp only [y_ck (show k < 120 by omega) (show 120 < 2 ^ 31 by decide), y_ck (show j < 1003 by omega) (show 1003 < 2 ^ 31 by decide), nI_clamp (show k < 2 ^ 31 by omega), nI_clamp (show j < 2 ^ 31 by omega), m1, m2, m3, e6, fX12_named_b43, nI_1]
    by_cases q : e.1 = r_tW b L j
    · rw [if_pos ((lg_cmp_eq _ _).mpr (by rw [q]))]
      by_cases q2 : e.2.1 = s
      · rw [if_pos (by rw [q2])]
        have el : r_lk (e :: m) (r_tW b L j) s = some e.2.2 := by rw [r_lk, if_pos ⟨q, q2⟩]
        refine ⟨V, by rw [el]; rfl, ?_, r_sw_refl⟩
        refine r_sw_ms h r_sw_refl (r_ws_iff h.2.2.2.2 fun j' k' => ⟨Or.inl, fun z => z.elim id fun z => ?_⟩)
        rw [el] at z; cases z.1
      · rw [if_neg (fun z => q2 ((nI_eq (by omega) (by omega)).mp z))]
        have el : r_lk (e :: m) (r_tW b L j) s = r_lk m (r_tW b L j) s := by rw [r_lk, if_neg (fun z => q2 z.2)]
        rw [el]; exact next
    · rw [if_neg (fun z => q ((r_pk37_eq m5 ha).mp ((pk_lEQ (r_pk_37 m5 m6) (r_pk_37 ha h8)).mp ((lg_cmp_eq _ _).mp z))))]
      have el : r_lk (e :: m) (r_tW b L j) s = r_lk m (r_tW b L j) s := by rw [r_lk, if_neg (fun z => q z.1)]
      rw [el]; exact next
theorem m_named (hF : 200 ≤ F) (hL : L ≤ 4000) (h : r_ms b L M sd i l P V) (hP : ∀ j k, P j k → j ≤ i) {j s : Nat} (hj : j ≤ i) (hk : r_tK b L j = 27) (hs : s ≤ 7) :
    ∃ V', fX12_named F V (nI j) (nI s) = some (nI ((r_lk l (r_tW b L j) s).getD 0), V') ∧ r_ms b L M sd i l (fun j' k' => P j' k' ∨ (r_lk l (r_tW b L j) s = none ∧ j' = j ∧ k' = 4)) V' ∧ r_sw V V' :=
  m_namedl (F := F) hL h hP hj hk hs l 0 F rfl (by omega) (by have := h.2.2.2.1.2.1; omega)
/-- a NAME that must come, and its number -/
theorem m_nn (hF : 200 ≤ F) (hL : L ≤ 4000) (h : r_ms b L M sd i l P V) (hP : ∀ j k, P j k → j < i) {s : Nat} (hs : s ≤ 7) : match r_need (r_tK b L) 27 i with
    | .error (f, j) => ∃ V' x, fX12_namedNext F V (nI s) = some (x, V') ∧ r_me b L sd f j V V'
    | .ok j => ∃ V', fX12_namedNext F V (nI s) = some (nI ((r_lk l (r_tW b L i) s).getD 0), V') ∧ r_ms b L M sd j l (fun j' k' => P j' k' ∨ (r_lk l (r_tW b L i) s = none ∧ j' = i ∧ k' = 4)) V' ∧ r_sw (zsI V 0 11 (nI j)) V' := by
  have hm := m_must (F := F) h (k := 27) (by decide) (x := 1) rfl
  unfold fX12_namedNext
  cases hn : r_need (r_tK b L) 27 i with
  | error e =>
    rw [hn] at hm
    obtain ⟨V', a1, a2⟩ := hm
    dsimp only
    rw [a1, y_bd, if_neg (r_mf_ne (r_me_mf a2 h.2.2.1)).1]
    exact ⟨V', 0, rfl, a2⟩
  | ok j =>
    rw [hn] at hm
    obtain ⟨a1, a2, a3⟩ := hm
    obtain ⟨k1, k2, k3⟩ := r_need_ok hn
    dsimp only
    rw [a1, y_bd, if_pos (show zI (zsI V 0 11 (nI j)) 0 13 ≤ 0 by rw [a2.2.1.2.1]; decide), h.2.1.1]
    obtain ⟨V', d1, d2, d3⟩ := m_named (F := F) hF hL a2 (fun j' k' z => by have := hP j' k' z; omega) (j := i) (s := s) (by omega) k1 hs
    rw [d1, y_bd]
    exact ⟨V', rfl, d2, d3⟩
theorem m_tellsl (hL : L ≤ 4000) (h : r_ms b L M sd i l P V) (hP : ∀ j k, P j k → j ≤ i) {j s c : Nat} (hj : j ≤ i) (hk : r_tK b L j = 27) (hs : s ≤ 7) (hc : zA V 8 (9 * sd + s) = nI c) (hl : l.length < 76) : ∀ (m : List r_E) (k N : Nat) (a : Bool), l.drop k = m → k ≤ l.length → m.length + 1 ≤ N →
    ∃ V', fX12_tells_l5 F N V (nI j) (nI s) (if a = true then 1 else 0) (nI k) = some V' ∧
      r_ms b L M sd i (if (a || r_tol m (r_tW b L j)) = true then l else l ++ [(r_tW b L j, s, c)]) (fun j' k' => P j' k' ∨ ((a || r_tol m (r_tW b L j)) = true ∧ j' = j ∧ k' = 3)) V' ∧ r_fx sd V V' ∧
      (∀ k, k ∉ [15, 16, 22] → zI V' 0 k = zI V 0 k) ∧ (∀ r, r ∉ [10, 11] → zA V' r = zA V r) := by
  have lt := r_ms_lt h
  have e6 := (h.1.1.2 j (by omega)).2.2.2 hk
  have hsd := h.2.2.1
  obtain ⟨n1, n2, n3⟩ := id h.2.2.2.1
  obtain ⟨ha, h8⟩ := r_tW_ok hk
  intro m
  induction m with
  | nil =>
    intro k N a hm hk' hN
    obtain ⟨N, rfl⟩ : ∃ N', N = N' + 1 := ⟨N - 1, by omega⟩
    have hke := List.drop_eq_nil_iff.mp hm
    have et : r_tol [] (r_tW b L j) = false := rfl
    rw [fX12_tells_l5, n1, if_pos (nI_le (by omega) (by omega)), et, Bool.or_false]
    cases a with
    | true =>
      obtain ⟨V', a1, a2, a3⟩ := m_wrong (F := F) hL h hP hj (k := 3) (by decide) (by decide)
      have a1 : fX12_wrong F V 3 (nI j) = some V' := a1
      rw [r_b1, if_neg (by decide), a1, y_bd, if_pos rfl]
      refine ⟨V', rfl, ?_, r_sw_fx a3, fun k hk => a3.1 0 k fun z => hk (by rcases z.2 with rfl | rfl <;> decide), fun r _ => a3.2.1 r⟩
      have e : (fun j' k' => P j' k' ∨ (true = true ∧ j' = j ∧ k' = 3)) = fun j' k' => P j' k' ∨ (j' = j ∧ k' = 3) := by
        funext j' k'
        exact propext ⟨fun z => z.imp id fun z => z.2, fun z => z.imp id fun z => ⟨rfl, z⟩⟩
      rw [e]; exact a2
    | false =>
      have g1 : ∀ f, zI (zsB V 9 f) 0 22 = nI l.length := fun _ => n1
      have g2 : ∀ f g, zI (zsA (zsB V 9 f) 10 g) 0 22 = nI l.length := fun _ _ => n1
      have g3 : ∀ f g u, zI (zsA (zsA (zsB V 9 f) 10 g) 11 u) 0 22 = nI l.length := fun _ _ _ => n1
      have g4 : ∀ f, zA (zsB V 9 f) 10 = zA V 10 := fun _ => rfl
      have g5 : ∀ f g, zA (zsA (zsB V 9 f) 10 g) 11 = zA V 11 := fun _ _ => rfl
      have g6 : ∀ f g, zA (zsA (zsB V 9 f) 10 g) 8 = zA V 8 := fun _ _ => rfl
      have g7 : ∀ f g, zI (zsA (zsB V 9 f) 10 g) 0 19 = nI sd := fun _ _ => hsd.1
      rw [r_b0, if_pos rfl]
      simp only [n1, g1, g2, g3, g4, g5, g6, g7, y_let, y_ck (show j < 1003 by omega) (show 1003 < 2 ^ 31 by decide), y_ck (show l.length < 120 by omega) (show 120 < 2 ^ 31 by decide), nI_clamp (show j < 2 ^ 31 by omega), nI_clamp (show l.length < 2 ^ 31 by omega), show (9 : Int32) = nI 9 from rfl, pk_mul, nI_add, y_ck (show 9 * sd + s < 18 by omega) (show 18 < 2 ^ 31 by decide), nI_clamp (show 9 * sd + s < 2 ^ 31 by omega), nI_1, hc, e6]
      refine ⟨_, rfl, ?_, r_fx_I (r_fx_W (r_fx_W (r_fx_B r_fx_refl) (by decide)) (by decide)) (by decide), fun k hk => ?_, fun r hr => ?_⟩
      · rw [if_neg (by decide)]
        refine ⟨h.1, h.2.1, h.2.2.1, ⟨?_, ?_, fun k e he => ?_⟩, ?_⟩
        · show nI (l.length + 1) = nI (l ++ [(r_tW b L j, s, c)]).length
          rw [List.length_append]; rfl
        · rw [List.length_append]; show l.length + 1 ≤ 76; omega
        · show vp_updL (zB V 9) l.length _ k = _ ∧ upd (zA V 10) l.length _ k = _ ∧ upd (zA V 11) l.length _ k = _ ∧ _
          rw [y_updL, y_upd, y_upd]
          by_cases q : k = l.length
          · subst q
            rw [List.getElem?_append_right (Nat.le_refl _), Nat.sub_self] at he
            cases he
            rw [if_pos rfl, if_pos rfl, if_pos rfl]
            exact ⟨rfl, rfl, rfl, hs, ha, h8⟩
          · have : k < (l ++ [(r_tW b L j, s, c)]).length := (List.getElem?_eq_some_iff.mp he).1
            rw [List.length_append] at this
            have : k < l.length + 1 := this
            rw [List.getElem?_append_left (by omega)] at he
            rw [if_neg q, if_neg q, if_neg q]; exact n3 k e he
        · exact r_ws_iff h.2.2.2.2 fun j' k' => ⟨Or.inl, fun z => z.elim id fun z => by cases z.1⟩
      · rw [y_get.1, if_neg (fun z => hk (by rw [z.2]; decide))]; rfl
      · show (if r = 11 then _ else if r = 10 then _ else zA V r) = zA V r
        rw [if_neg (fun z => hr (by rw [z]; decide)), if_neg (fun z => hr (by rw [z]; decide))]
  | cons e m ih =>
    intro k N a hm hk' hN
    have hN : m.length + 1 + 1 ≤ N := hN
    obtain ⟨N, rfl⟩ : ∃ N', N = N' + 1 := ⟨N - 1, by omega⟩
    have hlt : k < l.length := by
      by_cases q : k < l.length
      · exact q
      · rw [List.drop_eq_nil_iff.mpr (by omega)] at hm; cases hm
    have ek : l[k]? = some e := by
      have : (l.drop k)[0]? = some e := by rw [hm]; rfl
      rw [List.getElem?_drop] at this; exact this
    have ed : l.drop (k + 1) = m := by
      have : (l.drop k).tail = m := by rw [hm]; rfl
      rw [List.tail_drop] at this; exact this
    obtain ⟨m1, m2, m3, m4, m5, m6⟩ := n3 k e ek
    have et : ∀ x, (x || r_tol (e :: m) (r_tW b L j)) = ((x || decide (e.1 = r_tW b L j)) || r_tol m (r_tW b L j)) := by
      intro x
      unfold r_tol
      rw [List.any_cons, Bool.or_assoc]
    have next := ih (k + 1) N (a || decide (e.1 = r_tW b L j)) ed (by omega) (by omega)
    rw [et]
    rw [fX12_tells_l5, n1, if_neg (nI_ge hlt (by omega))]
    simp only [y_ck (show k < 120 by omega) (show 120 < 2 ^ 31 by decide), y_ck (show j < 1003 by omega) (show 1003 < 2 ^ 31 by decide), nI_clamp (show k < 2 ^ 31 by omega), nI_clamp (show j < 2 ^ 31 by omega), m1, e6, fX12_tells_b35, fX12_tells_b40, nI_1]
    cases a with
    | true =>
      rw [r_b1, if_neg (show ¬ (1 : Int32) = 0 by decide)]
      rw [Bool.true_or] at next ⊢
      exact next
    | false =>
      rw [r_b0, if_pos rfl]
      rw [Bool.false_or] at next ⊢
      by_cases q : e.1 = r_tW b L j
      · rw [if_pos ((lg_cmp_eq _ _).mpr (by rw [q]))]
        rw [decide_eq_true q] at next ⊢
        exact next
      · rw [if_neg (fun z => q ((r_pk37_eq m5 ha).mp ((pk_lEQ (r_pk_37 m5 m6) (r_pk_37 ha h8)).mp ((lg_cmp_eq _ _).mp z))))]
        rw [decide_eq_false q] at next ⊢
        exact next
/-- a NAME is told -/
theorem m_tells (hF : 200 ≤ F) (hL : L ≤ 4000) (h : r_ms b L M sd i l P V) (hP : ∀ j k, P j k → j ≤ i) {j s c : Nat} (hj : j ≤ i) (hk : r_tK b L j = 27) (hs : s ≤ 7) (hc : zA V 8 (9 * sd + s) = nI c) (hl : l.length < 76) :
    ∃ V', fX12_tells F V (nI j) (nI s) = some V' ∧ r_ms b L M sd i (if r_tol l (r_tW b L j) = true then l else l ++ [(r_tW b L j, s, c)]) (fun j' k' => P j' k' ∨ (r_tol l (r_tW b L j) = true ∧ j' = j ∧ k' = 3)) V' ∧ r_fx sd V V' ∧
      (∀ k, k ∉ [15, 16, 22] → zI V' 0 k = zI V 0 k) ∧ (∀ r, r ∉ [10, 11] → zA V' r = zA V r) := by
  have := m_tellsl (F := F) hL h hP hj hk hs hc hl l 0 F false rfl (by omega) (by omega)
  rw [Bool.false_or] at this
  exact this
end
