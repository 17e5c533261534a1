/-! ===== one act in the reference ===== -/
/-- the same as y_fr, but for long numbers -/
def y_fw (sc : List (Nat × Nat)) (ar : List Nat) (V V' : zV) : Prop := (∀ r k, (r, k) ∉ sc → zI V' r k = zI V r k) ∧ (∀ r, r ∉ ar → zA V' r = zA V r) ∧ (∀ r, zB V' r = zB V r)
theorem y_fw_of {sc sc' : List (Nat × Nat)} {ar ar' : List Nat} {V V' : zV} (h : y_fr sc ar V V') (h1 : ∀ q ∈ sc, q ∈ sc') (h2 : ∀ q ∈ ar, q ∈ ar') : y_fw sc' ar' V V' := ⟨fun r k m => h.1 r k fun q => m (h1 _ q), fun r m => h.2.1 r fun q => m (h2 _ q), h.2.2.2.1⟩
theorem y_fw_refl {sc : List (Nat × Nat)} {ar : List Nat} {V : zV} : y_fw sc ar V V := ⟨fun _ _ _ => rfl, fun _ _ => rfl, fun _ => rfl⟩
theorem y_fw_trans {sc : List (Nat × Nat)} {ar : List Nat} {V V' V'' : zV} (h : y_fw sc ar V V') (g : y_fw sc ar V' V'') : y_fw sc ar V V'' := ⟨fun r k m => (g.1 r k m).trans (h.1 r k m), fun r m => (g.2.1 r m).trans (h.2.1 r m), fun r => (g.2.2 r).trans (h.2.2 r)⟩
theorem y_fw_mono {sc sc' : List (Nat × Nat)} {ar ar' : List Nat} {V V' : zV} (h : y_fw sc ar V V') (h1 : ∀ q ∈ sc, q ∈ sc') (h2 : ∀ q ∈ ar, q ∈ ar') : y_fw sc' ar' V V' := ⟨fun r k m => h.1 r k fun q => m (h1 _ q), fun r m => h.2.1 r fun q => m (h2 _ q), h.2.2⟩
/-- numbers and rows that an act may write -/
def y_dn : List (Nat × Nat) := [(0, 71), (0, 85), (0, 99), (0, 61), (0, 59), (0, 67)]
def y_da : List Nat := [43, 49, 50, 51, 52, 55, 63, 40, 41, 42]
/-- what holds of a state while rules are done -/
def y_si (T : zV) (S : y_S) : Prop := (S.2.2.2.Nodup ∧ ∀ c ∈ S.2.2.2, c < y_many T 1) ∧ (∀ m, m < 12 → y_R S 19 m = 0 → y_R S 20 m = 0) ∧ (y_I S 0 14 = 0 ∨ y_I S 0 14 = 1) ∧ ∃ a, a ≤ 200 ∧ y_I S 0 13 = nI a
/-- the reference while it works: tp, whether for a press -/
def y_mw (tp : Bool) (lv : Nat) (T : zV) (S : y_S) (V : zV) : Prop := y_mt T lv V ∧ y_mg T S V ∧ y_si T S ∧ zI V 0 88 = y_I S 0 13 ∧ zI V 0 89 = 0 ∧ (tp = true → zI V 0 99 = y_I S 0 14) ∧ (tp = false → y_I S 0 14 = 0)
section
variable {F : Nat} {T : zV} {lv : Nat} {S : y_S} {V V' : zV} {tp : Bool}
theorem y_word7 {n : Nat} (h1 : 16 ≤ n) (h2 : n ≤ 24) (h3 : ¬ n = 18) (h4 : ¬ n = 19) : n = 16 ∨ n = 17 ∨ n = 20 ∨ n = 21 ∨ n = 22 ∨ n = 23 ∨ n = 24 := by omega
theorem y_drop_row : (y_drop T S).2.2.2 = S.2.2.2 := by unfold y_drop; split <;> rfl
theorem y_drop_R {r : Nat} : y_R (y_drop T S) r = y_R S r := by unfold y_drop; split <;> rfl
theorem y_drop_14 : y_I (y_drop T S) 0 14 = y_I S 0 14 := by unfold y_drop; split <;> rfl
theorem y_take_row : (y_take T S).2.2.2 = S.2.2.2 := by unfold y_take; split <;> rfl
theorem y_take_R {r : Nat} : y_R (y_take T S) r = y_R S r := by unfold y_take; split <;> rfl
theorem y_take_14 : y_I (y_take T S) 0 14 = y_I S 0 14 := by unfold y_take; split <;> rfl
theorem y_sI_same {r k : Nat} {x : Int32} (h : y_I S r k = x) : y_sI S r k x = S := by
  refine Prod.ext (y_zext (fun a b => ?_) (fun _ _ => rfl) (fun _ => rfl) (fun _ => rfl) (fun _ _ => rfl) (fun _ => rfl)) rfl
  show (if a = r ∧ b = k then x else zI S.1 a b) = zI S.1 a b
  by_cases e : a = r ∧ b = k
  · rw [if_pos e, e.1, e.2]; exact h.symm
  · rw [if_neg e]
theorem m_firel {a c : Nat} (ha : a < 2000) (hT : y_many T 1 ≤ 8) (h32 : zA V 32 a = nI c) (hc : c < y_many T 1) (hn : S.2.2.2.Nodup) (hb : ∀ d ∈ S.2.2.2, d < y_many T 1) (h85 : zI V 0 85 = nI S.2.2.2.length) (h55 : ∀ i d, S.2.2.2[i]? = some d → zA V 55 i = nI d) :
    ∀ (l pre : List Nat) (n : Nat), S.2.2.2 = pre ++ l → l.length + 1 ≤ n → ¬ c ∈ pre →
    fX12_does_l161 F n V (nI a) (nI pre.length) = some (if c ∈ S.2.2.2 then V else zsI (zsA V 55 (upd (zA V 55) S.2.2.2.length (nI c))) 0 85 (nI (S.2.2.2.length + 1))) := by
  have hlen : S.2.2.2.length ≤ y_many T 1 := by
    have := y_sub_len S.2.2.2 (List.range (y_many T 1)) hn fun x hx => List.mem_range.mpr (hb x hx)
    rw [List.length_range] at this
    exact this
  intro l
  induction l with
  | nil =>
    intro pre n e hn' hp
    obtain ⟨n, rfl⟩ : ∃ n', n = n' + 1 := ⟨n - 1, by omega⟩
    rw [List.append_nil] at e
    have hlt : S.2.2.2.length < 8 := by
      have h1 : (S.2.2.2 ++ [c]).Nodup := by
        rw [← y_put_new (show ¬ c ∈ S.2.2.2 by rw [e]; exact hp)]; exact y_put_nd hn
      have := y_sub_len (S.2.2.2 ++ [c]) (List.range (y_many T 1)) h1 fun x hx => by
        rcases List.mem_append.mp hx with z | z
        · exact List.mem_range.mpr (hb x z)
        · rw [List.mem_singleton] at z; rw [z]; exact List.mem_range.mpr hc
      rw [List.length_range, List.length_append] at this
      have : S.2.2.2.length + 1 ≤ y_many T 1 := this
      omega
    rw [fX12_does_l161, h85, ← e, if_pos (nI_le (Nat.le_refl _) (by omega)), y_ck ha (by decide), y_ck hlt (by decide), y_let, y_let, nI_clamp (by omega), nI_clamp (by omega), h32, if_neg (by rw [e]; exact hp)]
    have e2 : zI (zsA V 55 (upd (zA V 55) S.2.2.2.length (nI c))) 0 85 = nI S.2.2.2.length := h85
    rw [e2, nI_1]
  | cons d l ih =>
    intro pre n e hn' hp
    obtain ⟨n, rfl⟩ : ∃ n', n = n' + 1 := ⟨n - 1, by omega⟩
    have hl : S.2.2.2.length = pre.length + (l.length + 1) := by rw [e, List.length_append]; rfl
    have hd : S.2.2.2[pre.length]? = some d := by rw [e, List.getElem?_append_right (Nat.le_refl _), Nat.sub_self]; rfl
    have hdb := hb d (List.mem_of_getElem? hd)
    rw [fX12_does_l161, h85, if_neg (nI_ge (by omega) (by omega)), y_ck (by omega) (by decide), y_ck ha (by decide), nI_clamp (by omega), nI_clamp (by omega), h55 _ _ hd, h32]
    by_cases q : d = c
    · subst q
      rw [if_pos rfl, if_pos (List.mem_of_getElem? hd)]
    · rw [if_neg (by rw [nI_eq (by omega) (by omega)]; exact q), nI_1]
      have g := ih (pre ++ [d]) n (by rw [e, List.append_assoc]; rfl) (by simpa using hn') (by
        rw [List.mem_append, List.mem_singleton]
        rintro (z | z)
        · exact hp z
        · exact q z.symm)
      rw [List.length_append] at g
      exact g
/-- a state's change that touches no act's count, nor hold -/
theorem y_mw_new {S' : y_S} {sc : List (Nat × Nat)} {ar : List Nat} (h : y_mw tp lv T S V) (hg : y_mg T S' V') (f : y_fw sc ar V V') (h1 : ∀ q ∈ [(0, 18), (0, 88), (0, 89), (0, 99)], q ∉ sc) (h2 : ∀ r ∈ y_st, r ∉ ar) (hs : y_si T S') (e13 : y_I S' 0 13 = y_I S 0 13) (e14 : y_I S' 0 14 = y_I S 0 14) : y_mw tp lv T S' V' :=
  ⟨y_mt_eq h.1 (f.1 0 18 (h1 _ (by decide))) (fun r hr => f.2.1 r (h2 r hr)), hg, hs, (f.1 0 88 (h1 _ (by decide))).trans (h.2.2.2.1.trans e13.symm), (f.1 0 89 (h1 _ (by decide))).trans h.2.2.2.2.1, fun z => (f.1 0 99 (h1 _ (by decide))).trans ((h.2.2.2.2.2.1 z).trans e14.symm), fun z => e14.trans (h.2.2.2.2.2.2 z)⟩
theorem y_si_of {S' : y_S} (h : y_si T S) (hrow : S'.2.2.2 = S.2.2.2) (h19 : y_R S' 19 = y_R S 19) (h20 : y_R S' 20 = y_R S 20) (e13 : y_I S' 0 13 = y_I S 0 13) (e14 : y_I S' 0 14 = y_I S 0 14) : y_si T S' := by
  unfold y_si
  rw [hrow, h19, h20, e13, e14]
  exact h
theorem y_si_on {m : Nat} (h : y_si T S) : y_si T (y_on T S m).2 := by
  obtain ⟨a, b, c, d⟩ := h
  unfold y_on
  split
  · refine ⟨a, fun j hj z => ?_, c, d⟩
    have z : upd (zA S.1 19) m 1 j = 0 := z
    show upd (zA S.1 20) m (zA T 11 m) j = 0
    rw [y_upd] at z ⊢
    by_cases e : j = m
    · rw [if_pos e] at z; exact absurd z (by decide)
    · rw [if_neg e] at z; rw [if_neg e]; exact b j hj z
  · rename_i q
    refine ⟨a, fun j hj z => ?_, c, d⟩
    have z : zA S.1 19 j = 0 := z
    show upd (zA S.1 20) m (zA T 11 m) j = 0
    rw [y_upd]
    by_cases e : j = m
    · subst e; exact absurd z q
    · rw [if_neg e]; exact b j hj z
theorem y_si_off {m : Nat} (h : y_si T S) : y_si T (y_off S m).2 := by
  obtain ⟨a, b, c, d⟩ := h
  unfold y_off
  split
  · exact ⟨a, b, c, d⟩
  · refine ⟨a, fun j hj z => ?_, c, d⟩
    have z : upd (zA S.1 19) m 0 j = 0 := z
    show upd (zA S.1 20) m 0 j = 0
    rw [y_upd] at z ⊢
    by_cases e : j = m
    · rw [if_pos e]
    · rw [if_neg e] at z; rw [if_neg e]; exact b j hj z
theorem y_si_offs (h : y_si T S) : y_si T (y_offs T S) := by
  unfold y_offs
  generalize List.range' 1 (y_many T 7 - 1) = l
  induction l generalizing S with
  | nil => exact h
  | cons m l ih => exact ih (y_si_off h)
/-- what an act of the reference does, where no rules follow at once -/
theorem m_plain (hF : 3000 ≤ F) (hTT : y_T T) (h : y_mw tp lv T S V) {a m f : Nat} {x : y_A} {rec : Nat → Int32 → y_S → y_S} {top : Bool} (ha : a < 2000) (hm : m < y_many T 7) (hf : f < 12) (hx : y_ma T V a x) (h18 : ¬ x.1 = 18) (h19 : ¬ x.1 = 19) (hw20 : x.1 = 20 → x.2.1 < y_many T 1)
    (hev : top = true → ¬ zA V 58 f < 0) (hev2 : top = false → zA V 58 f < 0) (htp : top = true → tp = true) :
    ∃ V', fX12_does F V (nI a) (nI m) (nI f) = some V' ∧ y_mw tp lv T (y_do T rec top m x S) V' ∧ y_fw y_dn y_da V V' := by
  obtain ⟨hT, hg, hs, h88, h89, h99, h14⟩ := h
  have hmw : y_mw tp lv T S V := ⟨hT, hg, hs, h88, h89, h99, h14⟩
  obtain ⟨k1, k2, k3, k4, k5, k6, k7⟩ := hx
  have hww := hTT.2.2.1
  have h12 := hTT.2.1.1.2
  have hcases : x.1 = 16 ∨ x.1 = 17 ∨ x.1 = 20 ∨ x.1 = 21 ∨ x.1 = 22 ∨ x.1 = 23 ∨ x.1 = 24 := y_word7 k2 k3 h18 h19
  have hval : (x.1 = 16 ∨ x.1 = 17) → ∃ lo hi V1, zA V 33 a = nI lo ∧ zA V 34 a = nI hi ∧ fX12_term F V (nI lo) (nI hi) (nI m) = some (y_val S m x.2.2, V1) ∧ y_fr [] [63] V V1 := by
    intro hx
    obtain ⟨lo, hi, l1, l2, l3, l4, l5⟩ := k5 hx
    obtain ⟨V1, e1, e2⟩ := m_term hF (m := m) (by omega) l1 l2 (l5 (zA V 43) (zA V 50 m) (zI V 0 67))
    refine ⟨lo, hi, V1, l3, l4, ?_, e2⟩
    rw [e1]
    unfold y_val
    rw [y_mg_at hg (r := 14) (k := 7) (k7 := 67) (by decide), y_mg_r hg (r := 20) (r7 := 50) (n := 12) (by decide) (show m < 12 by omega), k7 hx (zA V 43) (y_R S 1) _ _ (fun j hj => y_mg_v hg hj)]
  have fin : ∀ (S' : y_S) (V' : zV), y_mg T S' V' → y_fw y_dn y_da V V' → zI V' 0 99 = zI V 0 99 → y_si T S' → y_I S' 0 13 = y_I S 0 13 → y_I S' 0 14 = y_I S 0 14 → y_mw tp lv T S' V' := by
    intro S' V' a1 a2 a3 a4 a5 a6
    exact ⟨y_mt_eq hT (a2.1 0 18 (by decide)) (fun r hr => a2.2.1 r ((show ∀ r ∈ y_st, r ∉ y_da by decide) r hr)), a1, a4, (a2.1 0 88 (by decide)).trans (h88.trans a5.symm), (a2.1 0 89 (by decide)).trans h89, fun z => a3.trans ((h99 z).trans a6.symm), fun z => a6.trans (h14 z)⟩
  unfold fX12_does y_do
  rw [y_ck ha (by decide)]
  simp only [y_ck ha (by decide), y_ck hf (by decide), nI_clamp (show a < 2 ^ 31 by omega), nI_clamp (show f < 2 ^ 31 by omega), k1]
  rcases hcases with hx | hx | hx | hx | hx | hx | hx
  · -- score
    simp only [hx, if_pos (show nI (16 + 19) = (35 : Int32) from rfl), if_pos (show (16 : Nat) = 16 from rfl)]
    rw [y_mg_at hg (r := 0) (k := 12) (k7 := 71) (by decide)]
    unfold y_gain
    by_cases q : y_I S 0 12 = 0
    · obtain ⟨lo, hi, V1, e3, e4, e5, e6⟩ := hval (Or.inl hx)
      have g1 := y_mg_fr hg e6 (by decide) (by decide)
      have el : zL V 0 65 = y_P S := hg.2.2.2.2.1
      have f1 : y_fw y_dn y_da V V1 := y_fw_of e6 (by decide) (by decide)
      have e1 : ∀ z, zL (zsL V1 0 65 z) 0 65 = z := fun _ => rfl
      have e2 : ∀ z w, zsL (zsL V1 0 65 z) 0 65 w = zsL V1 0 65 w := by
        intro z w
        refine y_zext (fun _ _ => rfl) (fun r k => ?_) (fun _ => rfl) (fun _ => rfl) (fun _ _ => rfl) (fun _ => rfl)
        show (if r = 0 ∧ k = 65 then w else if r = 0 ∧ k = 65 then z else zL V1 r k) = if r = 0 ∧ k = 65 then w else zL V1 r k
        by_cases c : r = 0 ∧ k = 65
        · rw [if_pos c, if_pos c]
        · rw [if_neg c, if_neg c, if_neg c]
      rw [if_pos q, if_pos q, e3, e4, e5, y_bd, y_let]
      dsimp only
      rw [el, e1, e2]
      by_cases qz : y_P S + (y_val S m x.2.2).toInt64 < 0
      · have hl : lg_cmp (y_P S + (y_val S m x.2.2).toInt64) 0 = -1 := by
          unfold lg_cmp
          rw [if_neg (show ¬ (y_P S + (y_val S m x.2.2).toInt64 > 0) from fun z => absurd (Int64.lt_trans qz z) (Int64.lt_irrefl)), if_neg (fun z => by rw [z] at qz; exact absurd qz (by decide))]
        rw [hl, if_neg (by decide), y_let, if_pos qz]
        exact ⟨_, rfl, fin _ _ (y_mg_P g1) (y_fw_trans f1 ⟨fun _ _ _ => rfl, fun _ _ => rfl, fun _ => rfl⟩) (e6.1 0 99 (by decide)) hs rfl rfl, y_fw_trans f1 ⟨fun _ _ _ => rfl, fun _ _ => rfl, fun _ => rfl⟩⟩
      · have hl : 0 ≤ lg_cmp (y_P S + (y_val S m x.2.2).toInt64) 0 := by
          unfold lg_cmp
          by_cases c : y_P S + (y_val S m x.2.2).toInt64 > 0
          · rw [if_pos c]; decide
          · rw [if_neg c]
            have : y_P S + (y_val S m x.2.2).toInt64 = 0 := Int64.le_antisymm (Int64.not_lt.mp c) (Int64.not_lt.mp qz)
            rw [if_pos this]; decide
        rw [if_pos hl, if_neg qz]
        exact ⟨_, rfl, fin _ _ (y_mg_P g1) (y_fw_trans f1 ⟨fun _ _ _ => rfl, fun _ _ => rfl, fun _ => rfl⟩) (e6.1 0 99 (by decide)) hs rfl rfl, y_fw_trans f1 ⟨fun _ _ _ => rfl, fun _ _ => rfl, fun _ => rfl⟩⟩
    · rw [if_neg q, if_neg q]
      exact ⟨V, rfl, hmw, y_fw_refl⟩
  · -- set
    simp only [hx, if_neg (show ¬ nI (17 + 19) = (35 : Int32) by decide), if_pos (show nI (17 + 19) = (36 : Int32) from rfl), if_neg (show ¬ (17 : Nat) = 16 by decide), if_pos (show (17 : Nat) = 17 from rfl)]
    obtain ⟨lo, hi, V1, e3, e4, e5, e6⟩ := hval (Or.inr hx)
    have g1 := y_mg_fr hg e6 (by decide) (by decide)
    have hv : x.2.1 < 16 := k6 hx
    have f1 : y_fw y_dn y_da V V1 := y_fw_of e6 (by decide) (by decide)
    rw [e3, e4, e5, y_bd, k4 (Or.inl hx), y_ck hv (by decide), y_let, nI_clamp (by omega)]
    dsimp only
    have f2 : y_fw y_dn y_da V (zsA V1 43 (upd (zA V1 43) x.2.1 (y_val S m x.2.2))) := y_fw_trans f1 (y_fw_of (y_fr_A (sc := []) (ar := [43]) y_fr_refl (by decide)) (by decide) (by decide))
    exact ⟨_, rfl, fin _ _ (y_mg_A g1 (by decide) (fun z => by omega)) f2 (e6.1 0 99 (by decide)) (y_si_of hs rfl rfl rfl rfl rfl) rfl rfl, f2⟩
  · -- fire
    simp only [hx, if_neg (show ¬ nI (20 + 19) = (35 : Int32) by decide), if_neg (show ¬ nI (20 + 19) = (36 : Int32) by decide), if_neg (show ¬ nI (20 + 19) = (37 : Int32) by decide), if_neg (show ¬ nI (20 + 19) = (38 : Int32) by decide), if_pos (show nI (20 + 19) = (39 : Int32) from rfl), if_neg (show ¬ (20 : Nat) = 16 by decide), if_neg (show ¬ (20 : Nat) = 17 by decide), if_neg (show ¬ (20 : Nat) = 18 by decide), if_neg (show ¬ (20 : Nat) = 19 by decide), if_pos (show (20 : Nat) = 20 from rfl)]
    have hc := hw20 hx
    have h8 := hTT.2.1.2.1.2
    have g7 := hg.2.2.2.2.2.2.1
    have hlen : S.2.2.2.length ≤ y_many T 1 := by
      have := y_sub_len S.2.2.2 (List.range (y_many T 1)) hs.1.1 fun z hz => List.mem_range.mpr (hs.1.2 z hz)
      rw [List.length_range] at this
      exact this
    have e1 := m_firel (F := F) ha h8 (k4 (Or.inr (Or.inr hx))) hc hs.1.1 hs.1.2 g7.1 g7.2 S.2.2.2 [] F rfl (by omega) List.not_mem_nil
    have e1' : fX12_does_l161 F F V (nI a) 0 = some (if x.2.1 ∈ S.2.2.2 then V else zsI (zsA V 55 (upd (zA V 55) S.2.2.2.length (nI x.2.1))) 0 85 (nI (S.2.2.2.length + 1))) := e1
    rw [e1']
    unfold y_await
    by_cases q : x.2.1 ∈ S.2.2.2
    · rw [if_pos q]
      refine ⟨V, rfl, ?_, y_fw_refl⟩
      by_cases q8 : 8 ≤ S.2.2.2.length
      · rw [if_pos q8]; exact hmw
      · rw [if_neg q8, if_pos q]; exact hmw
    · have hlt : ¬ 8 ≤ S.2.2.2.length := by
        have h1 : (S.2.2.2 ++ [x.2.1]).Nodup := by rw [← y_put_new q]; exact y_put_nd hs.1.1
        have := y_sub_len (S.2.2.2 ++ [x.2.1]) (List.range (y_many T 1)) h1 fun z hz => by
          rcases List.mem_append.mp hz with z' | z'
          · exact List.mem_range.mpr (hs.1.2 z z')
          · rw [List.mem_singleton] at z'; rw [z']; exact List.mem_range.mpr hc
        rw [List.length_range, List.length_append] at this
        have : S.2.2.2.length + 1 ≤ y_many T 1 := this
        omega
      rw [if_neg q, if_neg hlt, if_neg q]
      have f : y_fr [(0, 85)] [55] V (zsI (zsA V 55 (upd (zA V 55) S.2.2.2.length (nI x.2.1))) 0 85 (nI (S.2.2.2.length + 1))) := y_fr_I (y_fr_A y_fr_refl (by decide)) (by decide)
      have fw : y_fw y_dn y_da V (zsI (zsA V 55 (upd (zA V 55) S.2.2.2.length (nI x.2.1))) 0 85 (nI (S.2.2.2.length + 1))) := y_fw_of f (by decide) (by decide)
      obtain ⟨g1, g2, g3, g4, g5, g6, -, gb, p, hp, g8, g9⟩ := hg
      refine ⟨_, rfl, fin _ _ ⟨fun z hz => ?_, fun z hz i hi => ?_, g3, g4, g5, g6, ⟨?_, fun i d hd => ?_⟩, gb, p, hp, g8, y_ml_fr g9 f (by decide) (by decide) (by decide) (by decide)⟩ fw rfl ⟨⟨?_, fun d hd => ?_⟩, hs.2⟩ rfl rfl, fw⟩
      · rw [f.1 0 z.2.2 ((show ∀ z ∈ y_mnum, ((0, z.2.2) : Nat × Nat) ∉ [(0, 85)] by decide) z hz)]; exact g1 z hz
      · rw [f.2.1 z.2.1 ((show ∀ z ∈ y_mrow, z.2.1 ∉ [55] by decide) z hz)]; exact g2 z hz i hi
      · show nI (S.2.2.2.length + 1) = nI (S.2.2.2 ++ [x.2.1]).length
        rw [List.length_append]; rfl
      · show upd (zA V 55) S.2.2.2.length (nI x.2.1) i = nI d
        have hd' : (S.2.2.2 ++ [x.2.1])[i]? = some d := hd
        rw [y_upd]
        by_cases qi : i = S.2.2.2.length
        · subst qi
          rw [List.getElem?_append_right (Nat.le_refl _), Nat.sub_self] at hd'
          cases hd'
          rw [if_pos rfl]
        · have : i < (S.2.2.2 ++ [x.2.1]).length := (List.getElem?_eq_some_iff.mp hd').1
          rw [List.length_append] at this
          have : i < S.2.2.2.length := by
            have : i < S.2.2.2.length + 1 := this
            omega
          rw [List.getElem?_append_left this] at hd'
          rw [if_neg qi]
          exact g7.2 i d hd'
      · show (S.2.2.2 ++ [x.2.1]).Nodup
        rw [← y_put_new q]; exact y_put_nd hs.1.1
      · rcases List.mem_append.mp hd with z | z
        · exact hs.1.2 d z
        · rw [List.mem_singleton] at z; rw [z]; exact hc
  · -- hold
    simp only [hx, if_neg (show ¬ nI (21 + 19) = (35 : Int32) by decide), if_neg (show ¬ nI (21 + 19) = (36 : Int32) by decide), if_neg (show ¬ nI (21 + 19) = (37 : Int32) by decide), if_neg (show ¬ nI (21 + 19) = (38 : Int32) by decide), if_neg (show ¬ nI (21 + 19) = (39 : Int32) by decide), if_pos (show nI (21 + 19) = (40 : Int32) from rfl), if_neg (show ¬ (21 : Nat) = 16 by decide), if_neg (show ¬ (21 : Nat) = 17 by decide), if_neg (show ¬ (21 : Nat) = 18 by decide), if_neg (show ¬ (21 : Nat) = 19 by decide), if_neg (show ¬ (21 : Nat) = 20 by decide), if_pos (show (21 : Nat) = 21 from rfl)]
    cases top with
    | false =>
      have : y_sI S 0 14 (if y_I S 0 14 = 0 then (if false = true then 1 else 0) else 1) = S := by
        apply y_sI_same
        rcases hs.2.2.1 with z | z
        · rw [z, if_pos rfl]; rfl
        · rw [z, if_neg (by decide)]
      rw [if_pos (hev2 rfl), this]
      exact ⟨V, rfl, hmw, y_fw_refl⟩
    | true =>
      rw [if_neg (hev rfl), y_let]
      have e1 : (if y_I S 0 14 = 0 then (if true = true then (1 : Int32) else 0) else 1) = 1 := by
        by_cases z : y_I S 0 14 = 0
        · rw [if_pos z]; rfl
        · rw [if_neg z]
      rw [e1]
      have f : y_fr [(0, 99)] [] V (zsI V 0 99 1) := y_fr_I y_fr_refl (by decide)
      refine ⟨_, rfl, ⟨y_mt_fr hT f (by decide) (by decide), ?_, ⟨hs.1, hs.2.1, Or.inr rfl, hs.2.2.2⟩, h88, h89, fun _ => rfl, fun z => by rw [htp rfl] at z; cases z⟩, y_fw_of f (by decide) (by decide)⟩
      have g := y_mg_fr hg f (by decide) (by decide)
      obtain ⟨g1, g2, g3, g4, g5, g6, g7, gb, p, hp, g8, g9⟩ := g
      exact ⟨fun z hz => (g1 z hz).trans ((show ∀ z ∈ y_mnum, y_I S z.1 z.2.1 = y_I (y_sI S 0 14 1) z.1 z.2.1 from fun z hz => by
        show zI S.1 z.1 z.2.1 = if z.1 = 0 ∧ z.2.1 = 14 then 1 else zI S.1 z.1 z.2.1
        rw [if_neg ((show ∀ z ∈ y_mnum, ¬ (z.1 = 0 ∧ z.2.1 = 14) by decide) z hz)]) z hz), g2, g3, g4, g5, g6, g7, gb, p, hp, g8, g9⟩
  · -- drain
    simp only [hx, if_neg (show ¬ nI (22 + 19) = (35 : Int32) by decide), if_neg (show ¬ nI (22 + 19) = (36 : Int32) by decide), if_neg (show ¬ nI (22 + 19) = (37 : Int32) by decide), if_neg (show ¬ nI (22 + 19) = (38 : Int32) by decide), if_neg (show ¬ nI (22 + 19) = (39 : Int32) by decide), if_neg (show ¬ nI (22 + 19) = (40 : Int32) by decide), if_pos (show nI (22 + 19) = (41 : Int32) from rfl), if_neg (show ¬ (22 : Nat) = 16 by decide), if_neg (show ¬ (22 : Nat) = 17 by decide), if_neg (show ¬ (22 : Nat) = 18 by decide), if_neg (show ¬ (22 : Nat) = 19 by decide), if_neg (show ¬ (22 : Nat) = 20 by decide), if_neg (show ¬ (22 : Nat) = 21 by decide), if_pos (show (22 : Nat) = 22 from rfl)]
    obtain ⟨V1, e1, e2, e3⟩ := m_drains (F := F) hF hww hT hg
    have f1 : y_fw y_dn y_da V V1 := y_fw_of e3 (by decide) (by decide)
    rw [e1, y_bd]
    exact ⟨V1, rfl, fin _ _ e2 f1 (e3.1 0 99 (by decide)) (y_si_of hs y_drop_row y_drop_R y_drop_R y_drop_13 y_drop_14) y_drop_13 y_drop_14, f1⟩
  · -- serve
    simp only [hx, if_neg (show ¬ nI (23 + 19) = (35 : Int32) by decide), if_neg (show ¬ nI (23 + 19) = (36 : Int32) by decide), if_neg (show ¬ nI (23 + 19) = (37 : Int32) by decide), if_neg (show ¬ nI (23 + 19) = (38 : Int32) by decide), if_neg (show ¬ nI (23 + 19) = (39 : Int32) by decide), if_neg (show ¬ nI (23 + 19) = (40 : Int32) by decide), if_neg (show ¬ nI (23 + 19) = (41 : Int32) by decide), if_pos (show nI (23 + 19) = (42 : Int32) from rfl), if_neg (show ¬ (23 : Nat) = 16 by decide), if_neg (show ¬ (23 : Nat) = 17 by decide), if_neg (show ¬ (23 : Nat) = 18 by decide), if_neg (show ¬ (23 : Nat) = 19 by decide), if_neg (show ¬ (23 : Nat) = 20 by decide), if_neg (show ¬ (23 : Nat) = 21 by decide), if_neg (show ¬ (23 : Nat) = 22 by decide), if_pos (show (23 : Nat) = 23 from rfl)]
    obtain ⟨V1, e1, e2, e3⟩ := m_serves (F := F) hF hww hT hg
    have f1 : y_fw y_dn y_da V V1 := y_fw_of e3 (by decide) (by decide)
    rw [e1, y_bd]
    exact ⟨V1, rfl, fin _ _ e2 f1 (e3.1 0 99 (by decide)) (y_si_of hs y_take_row y_take_R y_take_R y_take_13 y_take_14) y_take_13 y_take_14, f1⟩
  · -- tilt
    simp only [hx, if_neg (show ¬ nI (24 + 19) = (35 : Int32) by decide), if_neg (show ¬ nI (24 + 19) = (36 : Int32) by decide), if_neg (show ¬ nI (24 + 19) = (37 : Int32) by decide), if_neg (show ¬ nI (24 + 19) = (38 : Int32) by decide), if_neg (show ¬ nI (24 + 19) = (39 : Int32) by decide), if_neg (show ¬ nI (24 + 19) = (40 : Int32) by decide), if_neg (show ¬ nI (24 + 19) = (41 : Int32) by decide), if_neg (show ¬ nI (24 + 19) = (42 : Int32) by decide), if_neg (show ¬ (24 : Nat) = 16 by decide), if_neg (show ¬ (24 : Nat) = 17 by decide), if_neg (show ¬ (24 : Nat) = 18 by decide), if_neg (show ¬ (24 : Nat) = 19 by decide), if_neg (show ¬ (24 : Nat) = 20 by decide), if_neg (show ¬ (24 : Nat) = 21 by decide), if_neg (show ¬ (24 : Nat) = 22 by decide), if_neg (show ¬ (24 : Nat) = 23 by decide)]
    rw [y_let]
    have f0 : y_fr [(0, 71)] [] V (zsI V 0 71 1) := y_fr_I y_fr_refl (by decide)
    have g0 := y_mg_I hg (r := 0) (k := 12) (k7 := 71) (x := 1) (by decide)
    have hr : ∃ V1, fX12_offs F (zsI V 0 71 1) = some V1 ∧ y_mg T (y_offs T (y_sI S 0 12 1)) V1 ∧ y_fr [] [49, 50, 52] (zsI V 0 71 1) V1 := by
      unfold fX12_offs y_offs
      rcases Nat.eq_zero_or_pos (y_many T 7) with q | q
      · exact absurd hm (by omega)
      · exact m_offsl (F := F) (lv := lv) h12 hTT.2.1.1.1 (y_many T 7 - 1) 1 F (y_sI S 0 12 1) (zsI V 0 71 1) (by omega) (by omega) (y_mt_fr hT f0 (by decide) (by decide)) g0 hs.2.1
    obtain ⟨V1, e1, e2, e3⟩ := hr
    have f1 : y_fw y_dn y_da V V1 := y_fw_trans (y_fw_of f0 (by decide) (by decide)) (y_fw_of e3 (by decide) (by decide))
    rw [e1, y_bd]
    exact ⟨V1, rfl, fin _ _ e2 f1 ((e3.1 0 99 (by decide)).trans (f0.1 0 99 (by decide))) (y_si_offs (y_si_of hs rfl rfl rfl rfl rfl)) ((y_offs_I (T := T)).trans rfl) ((y_offs_I (T := T)).trans rfl), f1⟩
end
