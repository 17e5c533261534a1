/-! ===== the class's rules, by levels ===== -/
/-- what each act's tokens hold -/
def y_wt (T : zV) : Prop := ∀ i k, i < y_sz T → 16 ≤ k → k ≤ 24 → y_K T i = nI k →
  (k = 16 → ∀ vars left ip, ∃ q, y_E T vars left ip (i + 1) = some q) ∧
  (k = 17 → (∀ vars left ip, ∃ q, y_E T vars left ip (i + 2) = some q) ∧ ∃ v, v < 16 ∧ y_N T (i + 1) = nI v) ∧
  (k = 18 → ∃ v, v < y_many T 7 ∧ y_N T (i + 1) = nI v) ∧
  (k = 20 → ∃ v, v < y_many T 1 ∧ y_N T (i + 1) = nI v)
def y_wb (T : zV) : Prop := ∀ R, zI T 13 3 = nI R → R ≤ 80 → ∀ r, r < R → ∃ i, i ≤ 1000 ∧ zA T 19 r = nI i
section
variable {F : Nat} {T : zV} {w : Bool} {b : Nat} {S : y_S} {V : zV}
theorem c_val (hs : y_ws T) (hF : 2000 ≤ F) {m i : Nat} (hm : m < 12) (hi : i ≤ 1001) (hE : ∀ vars left ip, ∃ q, y_E T vars left ip i = some q) (h : y_rb w b T S V) :
    ∃ V', fX1_work F T V (nI i) (nI m) = some (y_val S m (y_X1 T i), V') ∧ y_rb w b T S V' := by
  obtain ⟨⟨v, e⟩, hq⟩ := hE (zA V 1) (zA V 20 m) (zI V 14 7)
  obtain ⟨V', e1, e2, e3⟩ := c_work1 hs hF hm hi hq
  refine ⟨V', ?_, y_rb_fr h e3 (by decide) (by decide)⟩
  have := y_sim_X1 h.1 (m := m) (i := i) hm
  unfold y_X1 at this
  rw [hq] at this
  rw [e1]
  unfold y_X1
  rw [← this]
theorem y_on_I {m r k : Nat} : y_I (y_on T S m).2 r k = y_I S r k := by unfold y_on; split <;> rfl
theorem y_off_I {m r k : Nat} : y_I (y_off S m).2 r k = y_I S r k := by unfold y_off; split <;> rfl
theorem y_offs_I {r k : Nat} : y_I (y_offs T S) r k = y_I S r k := by
  unfold y_offs
  generalize List.range' 1 (y_many T 7 - 1) = l
  induction l generalizing S with
  | nil => rfl
  | cons m l ih => rw [List.foldl_cons, ih, y_off_I]
theorem y_take_13 : y_I (y_take T S) 0 13 = y_I S 0 13 := by unfold y_take; split <;> rfl
theorem y_drop_13 : y_I (y_drop T S) 0 13 = y_I S 0 13 := by unfold y_drop; split <;> rfl
theorem y_await_13 {c : Nat} : y_I (y_await S c) 0 13 = y_I S 0 13 := by unfold y_await; split; rfl; split <;> rfl
theorem y_gain_13 {x : Int32} : y_I (y_gain S x) 0 13 = y_I S 0 13 := by unfold y_gain; split <;> rfl
theorem y_ac_of {a : Nat} (ha : a ≤ 200) (e : y_I S 0 13 = nI a) : y_ac S = a := by unfold y_ac; rw [e, nI_clamp (by omega)]
theorem y_K_word {i : Nat} (h1 : ¬ y_K T i < 16) (h2 : y_K T i ≤ 24) : ∃ k, 16 ≤ k ∧ k ≤ 24 ∧ y_K T i = nI k := by
  have h0 : ¬ y_K T i < 0 := fun q => h1 (Int32.lt_trans q (by decide))
  obtain ⟨k, hk, e⟩ := nI_of h0
  rw [e] at h1 h2
  refine ⟨k, ?_, ?_, e⟩
  · rw [show (16 : Int32) = nI 16 from rfl, nI_ltI hk (by decide)] at h1; omega
  · rw [show (24 : Int32) = nI 24 from rfl, nI_leI hk (by decide)] at h2; omega
/-- the acts of a rule from a token on -/
theorem c_acts (hs : y_ws T) (hF : 2000 ≤ F) (hw : y_wm T) (hww : y_ww T) (hwt : y_wt T) {k : Nat} (hk : k + 3000 < 2 ^ 31) {rRc rA : zV → zV → Int32 → Int32 → Int32 → Option zV} {rRs : Nat → Int32 → y_S → y_S} {d : Nat} (hd : d ≤ 9) {m : Nat} (hm : m < y_many T 7)
    (hrec : ∀ (m' : Nat) (ev : Int32) (S : y_S) (V : zV), m' < y_many T 7 → y_rb w (k + 12 * y_ac S) T S V → ∃ V', rRc T V (nI m') ev (nI (d + 1)) = some V' ∧ y_rb w (k + 12 * y_ac (rRs m' ev S)) T (rRs m' ev S) V') :
    ∀ (n N i : Nat) (S : y_S) (V : zV), n ≤ N → 1 ≤ N → y_sz T < i + n → i ≤ 1002 → y_rb w (k + 12 * y_ac S) T S V →
    ∃ V', fX1_doActs_l10 F rRc rA N T V (nI m) (nI d) (nI i) = some V' ∧ y_rb w (k + 12 * y_ac (y_as T rRs (decide (d = 0)) m (y_acts T n i) S)) T (y_as T rRs (decide (d = 0)) m (y_acts T n i) S) V' := by
  intro n
  have hsz := hs.2
  have h12 := hw.1.2
  have h18 := hw.2.1.2
  induction n with
  | zero =>
    intro N i S V hN hN1 hi hi2 h
    obtain ⟨N, rfl⟩ : ∃ N', N = N' + 1 := ⟨N - 1, by omega⟩
    refine ⟨V, ?_, h⟩
    rw [fX1_doActs_l10, c_size hs, y_bd, if_pos (nI_le (by omega) (by omega))]
  | succ n ih =>
    intro N i S V hN hN1 hi hi2 h
    obtain ⟨N, rfl⟩ : ∃ N', N = N' + 1 := ⟨N - 1, by omega⟩
    rw [fX1_doActs_l10, c_size hs, y_bd, y_acts]
    by_cases hlt : y_sz T ≤ i
    · rw [if_pos hlt, if_pos (nI_le hlt (by omega))]
      exact ⟨V, rfl, h⟩
    rw [if_neg hlt, if_neg (nI_ge (by omega) (by omega)), c_kindAt hs (by omega), y_bd]
    by_cases q29 : y_K T i = 29
    · rw [if_pos q29, if_pos q29]
      exact ⟨V, rfl, h⟩
    rw [if_neg q29, if_neg q29]
    by_cases q16 : y_K T i < 16
    · rw [if_pos q16, if_pos q16, fX1_doActs_b294, nI_1]
      exact ih N (i + 1) S V (by omega) (by omega) (by omega) (by omega) h
    rw [if_neg q16, if_neg q16]
    by_cases q24 : y_K T i ≤ 24
    rotate_left
    · rw [if_neg q24, if_neg q24, fX1_doActs_b294, nI_1]
      exact ih N (i + 1) S V (by omega) (by omega) (by omega) (by omega) h
    rw [if_pos q24, if_pos q24, y_rb_at h (r := 0) (k := 13) (by decide), y_as]
    obtain ⟨a, ha, ea, eac⟩ := y_rb_ac h
    by_cases q2 : y_I S 0 13 < 200
    rotate_left
    · rw [if_neg q2, if_neg q2, y_let]
      exact ⟨_, rfl, y_rb_I h (by decide)⟩
    rw [if_pos q2, if_pos q2, y_let, ea, nI_1, nI_1, c_numAt hs (by omega), y_bd]
    have ha2 : a < 200 := by
      rw [ea, show (200 : Int32) = nI 200 from rfl, nI_ltI (by omega) (by decide)] at q2
      exact q2
    rw [eac] at h
    have h1 := y_rb_act h ha2 ea
    generalize zsI V 0 13 (nI (a + 1)) = V1 at h1 ⊢
    have e13 : y_I (y_sI S 0 13 (nI (a + 1))) 0 13 = nI (a + 1) := rfl
    generalize y_sI S 0 13 (nI (a + 1)) = S1 at h1 e13 ⊢
    obtain ⟨kk, hk1, hk2, hK⟩ := y_K_word q16 q24
    have hwt1 := hwt i kk (by omega) hk1 hk2 hK
    have ea1 : (y_actAt T i).1 = kk := by unfold y_actAt; rw [hK]; exact nI_clamp (by omega)
    -- what follows an act
    have fin : ∀ (S2 : y_S) (V2 : zV), y_rb w (k + 12 * y_ac S2) T S2 V2 → ∃ V', fX1_doActs_b294 F rRc rA (fX1_doActs_l10 F rRc rA N) T V2 (nI m) (nI d) (nI i) = some V' ∧ y_rb w (k + 12 * y_ac (y_as T rRs (decide (d = 0)) m (y_acts T n (i + 1)) S2)) T (y_as T rRs (decide (d = 0)) m (y_acts T n (i + 1)) S2) V' := by
      intro S2 V2 h2
      rw [fX1_doActs_b294, nI_1]
      exact ih N (i + 1) S2 V2 (by omega) (by omega) (by omega) (by omega) h2
    have same : ∀ (S2 : y_S) (V2 : zV) (b2 : Nat), y_I S2 0 13 = nI (a + 1) → b2 ≤ k + 12 * a + 12 → y_rb w b2 T S2 V2 → y_rb w (k + 12 * y_ac S2) T S2 V2 := by
      intro S2 V2 b2 e hb h2
      rw [y_ac_of (by omega) e]
      exact y_rb_mono h2 (by omega)
    have hr1 : y_rb w (k + 12 * y_ac S1) T S1 V1 := same S1 V1 _ e13 (by omega) h1
    rw [hK]
    unfold y_do
    rw [ea1]
    have hcases : kk = 16 ∨ kk = 17 ∨ kk = 18 ∨ kk = 19 ∨ kk = 20 ∨ kk = 21 ∨ kk = 22 ∨ kk = 23 ∨ kk = 24 := by omega
    rcases hcases with rfl | rfl | rfl | rfl | rfl | rfl | rfl | rfl | rfl
    · -- score
      rw [if_pos (show nI 16 = (16 : Int32) from rfl), if_pos rfl]
      obtain ⟨V2, b1, b2⟩ := c_val hs hF (m := m) (i := i + 1) (by omega) (by omega) (hwt1.1 rfl) h1
      obtain ⟨V3, c1, c2⟩ := c_gain (F := F) (x := y_val S1 m (y_X1 T (i + 1))) b2
      rw [b1, y_bd]
      dsimp only
      rw [c1, y_bd]
      have ex : (y_actAt T i).2.2 = y_X1 T (i + 1) := by unfold y_actAt; rw [hK, if_neg (by decide)]
      rw [ex]
      exact fin _ _ (same _ _ _ (y_gain_13.trans e13) (by omega) c2)
    · -- set
      rw [if_neg (by decide), if_pos (show nI 17 = (17 : Int32) from rfl), if_neg (by decide), if_pos rfl]
      obtain ⟨hE, v, hv, ev⟩ := hwt1.2.1 rfl
      obtain ⟨V2, b1, b2⟩ := c_val hs hF (m := m) (i := i + 2) (by omega) (by omega) hE h1
      obtain ⟨V3, c1, c2⟩ := c_assign (F := F) (v := v) (x := y_val S1 m (y_X1 T (i + 2))) hv b2
      rw [show nI i + (2 : Int32) = nI (i + 2) from nI_add i 2, b1, y_bd]
      dsimp only
      rw [ev, c1, y_bd]
      have ex : (y_actAt T i).2.2 = y_X1 T (i + 2) := by unfold y_actAt; rw [hK, if_pos (by decide)]
      have ew : (y_actAt T i).2.1 = v := by unfold y_actAt; rw [ev]; exact nI_clamp (by omega)
      rw [ex, ew]
      exact fin _ _ (same _ _ _ (show y_I S1 0 13 = _ from e13) (by omega) c2)
    · -- start
      rw [if_neg (by decide), if_neg (by decide), if_pos (show nI 18 = (18 : Int32) from rfl), if_neg (by decide), if_neg (by decide), if_pos rfl]
      obtain ⟨v, hv, ev⟩ := hwt1.2.2.1 rfl
      have ew : (y_actAt T i).2.1 = v := by unfold y_actAt; rw [ev]; exact nI_clamp (by omega)
      obtain ⟨V2, b1, b2⟩ := c_on (F := F) hw hv h1
      have b2' := same _ _ _ (y_on_I.trans e13) (by omega) b2
      rw [ew, ev, b1, y_bd]
      dsimp only
      by_cases qo : (y_on T S1 v).1 = true
      · rw [if_pos qo, if_pos qo, if_neg (by decide), nI_1]
        obtain ⟨V3, c1, c2⟩ := hrec v (-1) _ V2 hv b2'
        rw [c1, y_bd]
        exact fin _ _ c2
      · rw [if_neg qo, if_neg qo, if_pos rfl]
        exact fin _ _ b2'
    · -- leave
      rw [if_neg (by decide), if_neg (by decide), if_neg (by decide), if_pos (show nI 19 = (19 : Int32) from rfl), if_neg (by decide), if_neg (by decide), if_neg (by decide), if_pos rfl]
      obtain ⟨V2, b1, b2⟩ := c_off (F := F) hw hm h1
      have b2' := same _ _ _ (y_off_I.trans e13) (by omega) b2
      rw [b1, y_bd]
      dsimp only
      by_cases qo : (y_off S1 m).1 = true
      · rw [if_pos qo, if_pos qo, if_neg (by decide), nI_1]
        obtain ⟨V3, c1, c2⟩ := hrec m (-2) _ V2 hm b2'
        rw [c1, y_bd]
        exact fin _ _ c2
      · rw [if_neg qo, if_neg qo, if_pos rfl]
        exact fin _ _ b2'
    · -- fire
      rw [if_neg (by decide), if_neg (by decide), if_neg (by decide), if_neg (by decide), if_pos (show nI 20 = (20 : Int32) from rfl), if_neg (by decide), if_neg (by decide), if_neg (by decide), if_neg (by decide), if_pos rfl]
      obtain ⟨v, hv, ev⟩ := hwt1.2.2.2 rfl
      have ew : (y_actAt T i).2.1 = v := by unfold y_actAt; rw [ev]; exact nI_clamp (by omega)
      obtain ⟨V2, b1, b2⟩ := c_await (F := F) hF hw hv h1
      rw [ew, ev, b1, y_bd]
      exact fin _ _ (same _ _ _ (y_await_13.trans e13) (by omega) b2)
    · -- hold
      rw [if_neg (by decide), if_neg (by decide), if_neg (by decide), if_neg (by decide), if_neg (by decide), if_pos (show nI 21 = (21 : Int32) from rfl), if_neg (show ¬ (21 : Nat) = 16 by decide), if_neg (show ¬ (21 : Nat) = 17 by decide), if_neg (show ¬ (21 : Nat) = 18 by decide), if_neg (show ¬ (21 : Nat) = 19 by decide), if_neg (show ¬ (21 : Nat) = 20 by decide), if_pos (show (21 : Nat) = 21 from rfl), y_rb_at h1 (r := 0) (k := 14) (by decide)]
      by_cases q0 : y_I S1 0 14 = 0
      · rw [if_pos q0, if_pos q0]
        by_cases qd : d = 0
        · subst qd
          rw [if_pos (show nI 0 = (0 : Int32) from rfl), if_pos (by decide), fX1_doActs_b251, fX1_doActs_b256, zchk_t (Or.inr rfl), y_let]
          exact fin _ _ (same _ _ _ (show y_I S1 0 13 = _ from e13) (by omega) (y_rb_I h1 (by decide)))
        · rw [if_neg (nI_ne0 (by omega) (by omega)), if_neg (by simpa using qd), fX1_doActs_b256, zchk_t (Or.inl rfl), y_let]
          exact fin _ _ (same _ _ _ (show y_I S1 0 13 = _ from e13) (by omega) (y_rb_I h1 (by decide)))
      · rw [if_neg q0, if_neg q0, fX1_doActs_b251, fX1_doActs_b256, zchk_t (Or.inr rfl), y_let]
        exact fin _ _ (same _ _ _ (show y_I S1 0 13 = _ from e13) (by omega) (y_rb_I h1 (by decide)))
    · -- drain
      rw [if_neg (by decide), if_neg (by decide), if_neg (by decide), if_neg (by decide), if_neg (by decide), if_neg (by decide), if_pos (show nI 22 = (22 : Int32) from rfl), if_neg (by decide), if_neg (by decide), if_neg (by decide), if_neg (by decide), if_neg (by decide), if_neg (by decide), if_pos rfl]
      obtain ⟨V2, b1, b2⟩ := c_drop' (F := F) hF hww (by omega) h1
      rw [b1, y_bd]
      exact fin _ _ (same _ _ _ (y_drop_13.trans e13) (by omega) b2)
    · -- serve
      rw [if_neg (by decide), if_neg (by decide), if_neg (by decide), if_neg (by decide), if_neg (by decide), if_neg (by decide), if_neg (by decide), if_pos (show nI 23 = (23 : Int32) from rfl), if_neg (by decide), if_neg (by decide), if_neg (by decide), if_neg (by decide), if_neg (by decide), if_neg (by decide), if_neg (by decide), if_pos rfl]
      obtain ⟨V2, b1, b2⟩ := c_take' (F := F) hF hww (by omega) h1
      rw [b1, y_bd]
      exact fin _ _ (same _ _ _ (y_take_13.trans e13) (by omega) b2)
    · -- tilt
      rw [if_neg (by decide), if_neg (by decide), if_neg (by decide), if_neg (by decide), if_neg (by decide), if_neg (by decide), if_neg (by decide), if_neg (by decide), if_neg (by decide), if_neg (by decide), if_neg (by decide), if_neg (by decide), if_neg (by decide), if_neg (by decide), if_neg (by decide), if_neg (by decide), y_let]
      obtain ⟨V2, b1, b2⟩ := c_offs (F := F) hF hw (y_rb_I h1 (r := 0) (k := 12) (x := 1) (by decide))
      rw [b1, y_bd]
      exact fin _ _ (same _ _ _ ((y_offs_I (T := T)).trans (show y_I S1 0 13 = _ from e13)) (by omega) b2)
theorem c_head (hr : y_wr T) {m : Nat} (hm : m ≤ 12) : fX6_headOf F T (nI m) = some (nI (y_hd T m)) := by
  obtain ⟨R, hR, hR3, hh, -⟩ := hr
  unfold fX6_headOf
  rw [if_neg (nI_pos (by omega)), if_neg (show ¬ (13 : Int32) ≤ nI m from nI_ge (b := 13) (by omega) (by decide)), y_ck (by omega) (by decide), nI_clamp (by omega), (hh m hm).1]
theorem c_offsOf {m : Nat} (hm : m < 12) (h : y_rb w b T S V) : fX4_offsOf F V (nI m) = some (y_R S 22 m) := by
  unfold fX4_offsOf
  rw [if_neg (nI_pos (by omega)), if_neg (show ¬ (12 : Int32) ≤ nI m from nI_ge (b := 12) (by omega) (by decide)), y_ck (by omega) (by decide), nI_clamp (by omega), y_rb_r h (r := 22) (by decide) hm]
theorem c_isRule {R : Nat} (hR : R ≤ 80) (hR3 : zI T 13 3 = nI R) {r : Nat} {ev : Int32} (hr : r < R) : fX6_isOn F T (nI r) ev = some (if zA T 17 r = ev then 1 else 0) := by
  unfold fX6_isOn
  rw [if_neg (nI_pos (by omega)), hR3, if_neg (nI_ge (by omega) (by omega)), y_ck (by omega) (by decide), nI_clamp (by omega)]
  by_cases q : zA T 17 r = ev
  · rw [if_pos q, if_pos q]
  · rw [if_neg q, if_neg q]
theorem c_rulesl (hs : y_ws T) (hF : 2000 ≤ F) (hw : y_wm T) (hr : y_wr T) {k : Nat} {rRc rA : zV → zV → Int32 → Int32 → Int32 → Option zV} {rRs : Nat → Int32 → y_S → y_S} {d : Nat} (hd : d ≤ 9) {m : Nat} (hm : m < y_many T 7) {ev o : Int32}
    (hact : ∀ (r : Nat) (S : y_S) (V : zV), y_hd T m ≤ r → r < y_hd T (m + 1) → y_rb w (k + 12 * y_ac S) T S V → ∃ V', rA T V (nI r) (nI m) (nI d) = some V' ∧ y_rb w (k + 12 * y_ac (y_as T rRs (decide (d = 0)) m (y_ra T r) S)) T (y_as T rRs (decide (d = 0)) m (y_ra T r) S) V') :
    ∀ (c n r : Nat) (S : y_S) (V : zV), r + c = y_hd T (m + 1) → y_hd T m ≤ r → c + 1 ≤ n → y_rb w (k + 12 * y_ac S) T S V →
    ∃ V', fX1_doRules_l27 F rRc rA n T V (nI m) ev (nI d) o (nI r) = some V' ∧ y_rb w (k + 12 * y_ac (y_rl T rRs (decide (d = 0)) m ev o (List.range' r c) S)) T (y_rl T rRs (decide (d = 0)) m ev o (List.range' r c) S) V' := by
  intro c
  have h12 := hw.1.2
  have hr' := hr
  obtain ⟨R, hR, hR3, hh, hcond⟩ := hr
  have hhd := hh (m + 1) (by omega)
  induction c with
  | zero =>
    intro n r S V e _ hn h
    obtain ⟨n, rfl⟩ : ∃ n', n = n' + 1 := ⟨n - 1, by omega⟩
    refine ⟨V, ?_, h⟩
    rw [fX1_doRules_l27, show nI m + (1 : Int32) = nI (m + 1) from nI_1 m, c_head hr' (by omega), y_bd, if_pos (nI_le (by omega) (by omega))]
  | succ c ih =>
    intro n r S V e hge hn h
    obtain ⟨n, rfl⟩ : ∃ n', n = n' + 1 := ⟨n - 1, by omega⟩
    have hrR : r < R := by omega
    have next : ∀ (S : y_S) (V : zV), y_rb w (k + 12 * y_ac S) T S V → ∃ V', fX1_doRules_b116 F rRc rA (fX1_doRules_l27 F rRc rA n) T V (nI m) ev (nI d) o (nI r) = some V' ∧ y_rb w (k + 12 * y_ac (y_rl T rRs (decide (d = 0)) m ev o (List.range' (r + 1) c) S)) T (y_rl T rRs (decide (d = 0)) m ev o (List.range' (r + 1) c) S) V' := by
      intro S V h
      rw [fX1_doRules_b116, nI_1]
      exact ih n (r + 1) S V (by omega) (by omega) (by omega) h
    rw [fX1_doRules_l27, show nI m + (1 : Int32) = nI (m + 1) from nI_1 m, c_head hr' (by omega), y_bd, if_neg (nI_ge (by omega) (by omega)), c_isRule hR hR3 hrR, y_bd, List.range'_succ, y_rl]
    by_cases q1 : zA T 17 r = ev
    rotate_left
    · rw [if_neg q1, if_pos rfl, if_neg (fun z => q1 z.1)]
      exact next S V h
    rw [if_pos q1, if_neg (by decide)]
    obtain ⟨cc, hcc⟩ := (hcond r hrR).1 (zA V 1) (zA V 20 m) (zI V 14 7)
    obtain ⟨V1, e1, e2⟩ := c_holds hs hF hR hR3 (m := m) (by omega) hrR (hcond r hrR).2 hcc
    have hcs := y_sim_cond h.1 (m := m) (r := r) (by omega)
    rw [hcc] at hcs
    have h1 := y_rb_fr h e2 (by decide) (by decide)
    rw [e1, y_bd, ← hcs]
    dsimp only
    cases cc with
    | false =>
      rw [if_pos (show (if false = true then (1 : Int32) else 0) = 0 from rfl), if_neg (fun z => by cases z.2)]
      exact next S V1 h1
    | true =>
      rw [if_pos rfl, if_neg (by decide), if_pos ⟨q1, rfl⟩]
      obtain ⟨V2, b1, b2⟩ := hact r S V1 hge (by omega) h1
      rw [b1, y_bd]
      generalize y_as T rRs (decide (d = 0)) m (y_ra T r) S = S2 at b2 ⊢
      -- behind the acts
      have tail : ∃ V', fX1_doRules_b96 F rRc rA (fX1_doRules_l27 F rRc rA n) T V2 (nI m) ev (nI d) o (nI r) = some V' ∧ y_rb w (k + 12 * y_ac (if decide (d = 0) = true ∧ ¬ y_I S2 0 14 = 0 then S2 else y_rl T rRs (decide (d = 0)) m ev o (List.range' (r + 1) c) S2)) T (if decide (d = 0) = true ∧ ¬ y_I S2 0 14 = 0 then S2 else y_rl T rRs (decide (d = 0)) m ev o (List.range' (r + 1) c) S2) V' := by
        rw [fX1_doRules_b96, fX1_doRules_b97, if_pos rfl, y_rb_at b2 (r := 0) (k := 14) (by decide)]
        by_cases qd : d = 0
        · subst qd
          rw [if_pos (show nI 0 = (0 : Int32) from rfl)]
          by_cases q0 : y_I S2 0 14 = 0
          · rw [if_pos q0, if_neg (fun z => z.2 q0)]
            exact next S2 V2 b2
          · rw [if_neg q0, if_pos ⟨by decide, q0⟩]
            exact ⟨V2, rfl, b2⟩
        · rw [if_neg (nI_ne0 (by omega) (by omega)), if_neg (fun z => qd (by simpa using z.1))]
          exact next S2 V2 b2
      by_cases qs : ev = -2
      · rw [if_pos qs]
        by_cases qh : decide (d = 0) = true ∧ ¬ y_I S2 0 14 = 0
        · rw [if_pos qh] at tail
          rw [if_pos (Or.inr qh)]
          exact tail
        · rw [if_neg qh] at tail
          rw [if_neg (fun z => z.elim (fun z => z.1 qs) qh)]
          exact tail
      · rw [if_neg qs, c_offsOf (by omega) b2, y_bd]
        by_cases qo : y_R S2 22 m = o
        · rw [if_pos qo]
          by_cases qh : decide (d = 0) = true ∧ ¬ y_I S2 0 14 = 0
          · rw [if_pos qh] at tail
            rw [if_pos (Or.inr qh)]
            exact tail
          · rw [if_neg qh] at tail
            rw [if_neg (fun z => z.elim (fun z => z.2 qo) qh)]
            exact tail
        · rw [if_neg qo, if_pos (Or.inl ⟨qs, qo⟩), fX1_doRules_b97, if_neg (by decide)]
          exact ⟨V2, rfl, b2⟩
theorem c_rec (hs : y_ws T) (hF : 2000 ≤ F) (hw : y_wm T) (hww : y_ww T) (hwt : y_wt T) (hr : y_wr T) (hwb : y_wb T) {k : Nat} (hk : k + 3000 < 2 ^ 31) :
    ∀ (l n m : Nat) (ev : Int32) (S : y_S) (V : zV), l ≤ 9 → 2 * l + 1 ≤ n → m < y_many T 7 → y_rb w (k + 12 * y_ac S) T S V →
    ∃ V', fX1_rec F n false T V (nI m) ev (nI (9 - l)) = some V' ∧ y_rb w (k + 12 * y_ac (y_rR T l (decide (9 - l = 0)) m ev S)) T (y_rR T l (decide (9 - l = 0)) m ev S) V' := by
  intro l
  have h12 := hw.1.2
  induction l with
  | zero =>
    intro n m ev S V hl hn hm h
    obtain ⟨n, rfl⟩ : ∃ n', n = n' + 1 := ⟨n - 1, by omega⟩
    refine ⟨V, ?_, h⟩
    rw [fX1_rec, fX1_doRules_body, if_neg (by decide)]
  | succ l ih =>
    intro n m ev S V hl hn hm h
    obtain ⟨n, rfl⟩ : ∃ n', n = n' + 1 := ⟨n - 1, by omega⟩
    obtain ⟨n, rfl⟩ : ∃ n', n = n' + 1 := ⟨n - 1, by omega⟩
    have hr' := hr
    obtain ⟨R, hR, hR3, hh, hcond⟩ := hr
    have hd : ∀ x, x = 9 - (l + 1) → (decide (9 - l = 0)) = false ∧ x + 1 = 9 - l := by intro x hx; exact ⟨by rw [decide_eq_false_iff_not]; omega, by omega⟩
    have hdd := hd _ rfl
    rw [fX1_rec, fX1_doRules_body, if_pos (show nI (9 - (l + 1)) ≤ (8 : Int32) from nI_le (b := 8) (by omega) (by decide)), c_offsOf (by omega) h, y_bd, c_head hr' (by omega), y_bd, y_rR]
    have hmono : y_hd T m + (y_hd T (m + 1) - y_hd T m) = y_hd T (m + 1) ∨ y_hd T (m + 1) < y_hd T m := by omega
    rcases hmono with e | e
    · unfold y_rs
      refine c_rulesl hs hF hw hr' (by omega) hm (o := y_R S 22 m) ?_ (y_hd T (m + 1) - y_hd T m) F (y_hd T m) S V e (Nat.le_refl _) (by have := (hh (m + 1) (by omega)).2; omega) h
      intro r S1 V1 hg hl1 h1
      have hrR : r < R := by have := (hh (m + 1) (by omega)).2; omega
      obtain ⟨i, hi, ei⟩ := hwb R hR3 hR r hrR
      rw [fX1_rec, fX1_doActs_body, fX6_actsOf, if_neg (nI_pos (by omega)), hR3, if_neg (nI_ge (by omega) (by omega)), y_ck (by omega) (by decide), nI_clamp (by omega), y_bd, ei]
      unfold y_ra
      rw [ei, nI_clamp (by omega)]
      have hsz := hs.2
      refine c_acts hs hF hw hww hwt hk (by omega) hm ?_ 1001 F i S1 V1 (by omega) (by omega) (by omega) (by omega) h1
      intro m' ev' S2 V2 hm' h2
      have := ih n m' ev' S2 V2 (by omega) (by omega) hm' h2
      rw [hdd.1] at this
      rw [hdd.2]
      exact this
    · obtain ⟨F', rfl⟩ : ∃ F', F = F' + 1 := ⟨F - 1, by omega⟩
      refine ⟨V, ?_, ?_⟩
      · have e1 := (hh (m + 1) (by omega)).2
        have e2 := (hh m (by omega)).2
        rw [fX1_doRules_l27, show nI m + (1 : Int32) = nI (m + 1) from nI_1 m, c_head hr' (by omega), y_bd, if_pos (nI_le (by omega) (by omega))]
      · unfold y_rs
        rw [show y_hd T (m + 1) - y_hd T m = 0 by omega]
        exact h
end
