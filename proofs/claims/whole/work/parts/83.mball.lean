/-! ===== works() whole; the ball's end in the reference ===== -/
section
variable {F : Nat} {T : zV} {lv : Nat} {S : y_S} {V V' : zV} {tp : Bool}
/-- works(), from one frame on the pile -/
theorem m_works (hF : 3000 ≤ F) {top : Bool} {S' : y_S} {k : Nat} (hk : k ≤ 601) (h : y_got F tp lv T 0 top V S' k) :
    (∃ V', fX12_works F V = some V' ∧ zI V' 0 90 = 0 ∧ y_mw tp lv T S' V' ∧ y_fw y_dz y_dy V V' ∧ (top = true → zI V 0 97 = 0 → zI V' 0 97 = y_I S' 0 14) ∧ (top = false → zI V' 0 97 = zI V 0 97)) ∨
    (∃ V', fX12_works F V = some V' ∧ zI V' 0 90 = 0 ∧ zI V' 0 89 = 1 ∧ y_mt T lv V' ∧ y_mg T S' V' ∧ y_si T S' ∧ y_dead S' ∧ y_fw y_dz y_dy V V') := by
  unfold fX12_works
  rcases h with ⟨V1, c, a1, a2, a3, a4, a5, a6, a7, a8⟩ | ⟨V1, c, a1, a2, a3, a4, a5, a6, a7, a8, a9⟩
  · refine Or.inl ⟨V1, ?_, a3, a4, a6, a7, a8⟩
    obtain ⟨n, hn⟩ : ∃ n, F = n + 1 + c := ⟨F - 1 - c, by omega⟩
    have := a2 (n + 1)
    rw [← hn] at this
    rw [this, fX12_works_l0, a3, if_pos (show nI 0 ≤ (0 : Int32) from nI_le (b := 0) (Nat.le_refl _) (by decide))]
  · refine Or.inr ⟨V1, ?_, a3, a4, a5, a6, a7, a8, a9⟩
    obtain ⟨n, hn⟩ : ∃ n, F = n + c := ⟨F - c, by omega⟩
    have := a2 n
    rw [← hn] at this
    exact this
/-! how often a mode may have gone off -/
def y_ofb (b : Nat) (S : y_S) : Prop := ∀ m, m < 12 → ∃ j, j ≤ b ∧ y_R S 22 m = nI j
theorem y_ofb_mono {b b' : Nat} (h : y_ofb b S) (hb : b ≤ b') : y_ofb b' S := fun m hm => by obtain ⟨j, hj, e⟩ := h m hm; exact ⟨j, by omega, e⟩
theorem y_ofb_eq {b : Nat} {S' : y_S} (h : y_ofb b S) (e : y_R S' 22 = y_R S 22) : y_ofb b S' := by unfold y_ofb; rw [e]; exact h
theorem y_ofb_off {b m : Nat} (h : y_ofb b S) : y_ofb (b + 1) (y_off S m).2 := by
  unfold y_off
  split
  · exact y_ofb_mono h (by omega)
  · intro j hj
    show ∃ i, i ≤ b + 1 ∧ upd (zA S.1 22) m (y_R S 22 m + 1) j = nI i
    rw [y_upd]
    by_cases e : j = m
    · subst e
      obtain ⟨i, hi, ei⟩ := h j hj
      exact ⟨i + 1, by omega, by rw [if_pos rfl, ei, nI_1]⟩
    · obtain ⟨i, hi, ei⟩ := h j hj
      exact ⟨i, by omega, by rw [if_neg e]; exact ei⟩
theorem y_ofb_offs {b : Nat} (hm : y_many T 7 ≤ 12) (h : y_ofb b S) : y_ofb (b + 12) (y_offs T S) := by
  have key : ∀ (l : List Nat) (b : Nat) (S : y_S), y_ofb b S → y_ofb (b + l.length) (l.foldl (fun S m => (y_off S m).2) S) := by
    intro l
    induction l with
    | nil => intro b S h; exact h
    | cons m l ih => intro b S h; exact y_ofb_mono (ih (b + 1) _ (y_ofb_off h)) (by rw [List.length_cons]; omega)
  unfold y_offs
  refine y_ofb_mono (key _ b S h) ?_
  rw [List.length_range']
  omega
theorem y_on_22 {m : Nat} : y_R (y_on T S m).2 22 = y_R S 22 := by unfold y_on; split <;> rfl
/-- acts done are no fewer, and modes went off no oftener than acts allow -/
def y_ob (k : Nat) (S : y_S) : Prop := (∃ a, a ≤ 200 ∧ y_I S 0 13 = nI a) ∧ y_ofb (k + 12 * y_ac S) S
theorem y_ob_same {k b : Nat} {S' : y_S} (h : y_ob k S) (e13 : y_I S' 0 13 = y_I S 0 13) (h2 : y_ofb b S') (hb : b ≤ k + 12 * y_ac S) : y_ob k S' := by
  have : y_ac S' = y_ac S := by unfold y_ac; rw [e13]
  refine ⟨by rw [e13]; exact h.1, ?_⟩
  rw [this]
  exact y_ofb_mono h2 hb
theorem y_ob_as {k : Nat} (hm : y_many T 7 ≤ 12) {rec : Nat → Int32 → y_S → y_S} {top : Bool} {m : Nat} (hrec : ∀ m ev S, y_ob k S → y_ob k (rec m ev S) ∧ y_ac S ≤ y_ac (rec m ev S)) : ∀ (A : List y_A) (S : y_S), y_ob k S → y_ob k (y_as T rec top m A S) ∧ y_ac S ≤ y_ac (y_as T rec top m A S) := by
  intro A
  induction A with
  | nil => intro S h; exact ⟨h, Nat.le_refl _⟩
  | cons x A ih =>
    intro S h
    obtain ⟨⟨a, ha, e⟩, h2⟩ := h
    have eac := y_ac_of ha e
    rw [y_as]
    by_cases q : y_I S 0 13 < 200
    rotate_left
    · rw [if_neg q]
      exact ⟨⟨⟨a, ha, e⟩, h2⟩, Nat.le_refl _⟩
    rw [if_pos q, e, nI_1]
    have ha2 : a < 200 := by
      rw [e, show (200 : Int32) = nI 200 from rfl, nI_ltI (by omega) (by decide)] at q
      exact q
    have e1 : y_I (y_sI S 0 13 (nI (a + 1))) 0 13 = nI (a + 1) := rfl
    have eac1 : y_ac (y_sI S 0 13 (nI (a + 1))) = a + 1 := y_ac_of (by omega) e1
    have o1 : y_ofb (k + 12 * a) (y_sI S 0 13 (nI (a + 1))) := by rw [eac] at h2; exact h2
    have h1 : y_ob k (y_sI S 0 13 (nI (a + 1))) := ⟨⟨a + 1, by omega, rfl⟩, by rw [eac1]; exact y_ofb_mono o1 (by omega)⟩
    generalize y_sI S 0 13 (nI (a + 1)) = S1 at e1 eac1 o1 h1
    have fin : ∀ S2, y_ob k S2 → y_ac S1 ≤ y_ac S2 → y_ob k (y_as T rec top m A S2) ∧ y_ac S ≤ y_ac (y_as T rec top m A S2) := by
      intro S2 g1 g2
      have := ih S2 g1
      exact ⟨this.1, by omega⟩
    have same : ∀ S2, y_I S2 0 13 = y_I S1 0 13 → y_ofb (k + 12 * a + 12) S2 → y_ob k S2 ∧ y_ac S1 ≤ y_ac S2 := by
      intro S2 g1 g2
      exact ⟨y_ob_same h1 g1 g2 (by rw [eac1]; omega), by unfold y_ac; rw [g1]; exact Nat.le_refl _⟩
    have go : y_ob k (y_do T rec top m x S1) ∧ y_ac S1 ≤ y_ac (y_do T rec top m x S1) := by
      have u : ∀ S2, y_I S2 0 13 = y_I S1 0 13 → y_R S2 22 = y_R S1 22 → y_ob k S2 ∧ y_ac S1 ≤ y_ac S2 := fun S2 g1 g2 => same S2 g1 (y_ofb_mono (y_ofb_eq o1 g2) (by omega))
      unfold y_do
      split
      · exact u _ y_gain_13 (by unfold y_gain; split <;> rfl)
      split
      · exact u _ rfl rfl
      split
      · have g := u (y_on T S1 x.2.1).2 y_on_I y_on_22
        split
        · have g2 := hrec x.2.1 (-1) _ g.1
          exact ⟨g2.1, by omega⟩
        · exact g
      split
      · have g := same (y_off S1 m).2 y_off_I (y_ofb_mono (y_ofb_off o1) (by omega))
        split
        · have g2 := hrec m (-2) _ g.1
          exact ⟨g2.1, by omega⟩
        · exact g
      split
      · exact u _ y_await_13 (by unfold y_await; split; rfl; split <;> rfl)
      split
      · exact u _ rfl rfl
      split
      · exact u _ y_drop_13 y_drop_R
      split
      · exact u _ y_take_13 y_take_R
      · exact same _ ((y_offs_I (T := T)).trans rfl) (y_ofb_offs hm o1)
    exact fin _ go.1 go.2
theorem y_ob_rl {k : Nat} (hm : y_many T 7 ≤ 12) {rec : Nat → Int32 → y_S → y_S} {top : Bool} {m : Nat} {ev o : Int32} (hrec : ∀ m ev S, y_ob k S → y_ob k (rec m ev S) ∧ y_ac S ≤ y_ac (rec m ev S)) : ∀ (rs : List Nat) (S : y_S), y_ob k S → y_ob k (y_rl T rec top m ev o rs S) ∧ y_ac S ≤ y_ac (y_rl T rec top m ev o rs S) := by
  intro rs
  induction rs with
  | nil => intro S h; exact ⟨h, Nat.le_refl _⟩
  | cons r rs ih =>
    intro S h
    rw [y_rl]
    split
    · have g := y_ob_as (T := T) (top := top) (m := m) hm hrec (y_ra T r) S h
      split
      · exact g
      · have g2 := ih _ g.1
        exact ⟨g2.1, by omega⟩
    · exact ih S h
theorem y_ob_rR {k : Nat} (hm : y_many T 7 ≤ 12) : ∀ (l : Nat) (top : Bool) (m : Nat) (ev : Int32) (S : y_S), y_ob k S → y_ob k (y_rR T l top m ev S) ∧ y_ac S ≤ y_ac (y_rR T l top m ev S) := by
  intro l
  induction l with
  | zero => intro top m ev S h; exact ⟨h, Nat.le_refl _⟩
  | succ l ih =>
    intro top m ev S h
    rw [y_rR]
    exact y_ob_rl hm (fun m ev S h => ih false m ev S h) _ S h
/-! the ball's end -/
def y_over (S : y_S) : Int32 := if y_I S 0 9 = 0 then 3 else y_I S 0 9 - 1
def y_stk (S : y_S) (s : Nat) : Int32 := if y_over S < 2 then 0 else if y_over S - 1 ≤ y_R S 9 s then 0 else 1
def y_mst (T : zV) (S : y_S) (V : zV) : Prop := ∀ s, s < y_many T 0 → zA V 47 s = y_stk S s
/-- balls by their numbers -/
def y_bl (S : y_S) : Prop := (∃ k, k ≤ 3 ∧ y_I S 0 9 = nI k) ∧ ∀ s, s < 16 → ∃ j, j ≤ 3 ∧ y_R S 9 s = nI j
theorem m_stl (hT : y_mt T lv V) (h0 : zA T 1 0 = nI (y_many T 0)) (h16 : y_many T 0 ≤ 16) {k : Nat} (hk : k ≤ 3) (hk1 : 1 ≤ k) (h66 : zI V 0 66 = nI k) {g : Nat → Nat} (hg : ∀ s, s < 16 → zA V 48 s = nI (g s) ∧ g s ≤ 3) :
    ∀ (r i n : Nat) (V1 : zV), i + r = y_many T 0 → r + 1 ≤ n → y_fr [] [47] V V1 → (∀ s, s < i → zA V1 47 s = if k - 1 ≤ g s then zA V 47 s else 1) → (∀ s, i ≤ s → zA V1 47 s = zA V 47 s) →
    ∃ V2, fX12_asksBall_l25 F n V1 (nI i) = fX12_asksBall_b62 F V2 ∧ y_fr [] [47] V V2 ∧ ∀ s, s < y_many T 0 → zA V2 47 s = if k - 1 ≤ g s then zA V 47 s else 1 := by
  intro r
  induction r with
  | zero =>
    intro i n V1 e hn f h1 h2
    obtain ⟨n, rfl⟩ : ∃ n', n = n' + 1 := ⟨n - 1, by omega⟩
    refine ⟨V1, ?_, f, fun s hs => h1 s (by omega)⟩
    have hs : fX12_sort F V1 0 = some (zA T 1 0) := m_sort (k := 0) (y_mt_fr hT f List.not_mem_nil (by decide)) (by decide)
    rw [fX12_asksBall_l25, hs, y_bd, h0, if_pos (nI_le (by omega) (by omega))]
  | succ r ih =>
    intro i n V1 e hn f h1 h2
    obtain ⟨n, rfl⟩ : ∃ n', n = n' + 1 := ⟨n - 1, by omega⟩
    have h66' : zI V1 0 66 = nI k := (f.1 0 66 List.not_mem_nil).trans h66
    have h48' : zA V1 48 i = nI (g i) := by rw [f.2.1 48 (by decide)]; exact (hg i (by omega)).1
    have hgi := (hg i (by omega)).2
    have hs : fX12_sort F V1 0 = some (zA T 1 0) := m_sort (k := 0) (y_mt_fr hT f List.not_mem_nil (by decide)) (by decide)
    rw [fX12_asksBall_l25, hs, y_bd, h0, if_neg (nI_ge (by omega) (by omega)), y_ck (by omega) (by decide), y_ck (by omega) (by decide)]
    simp only [nI_clamp (show i < 2 ^ 31 by omega), h48', h66']
    rw [show nI k - 1 = nI (k - 1) from pk_sub (b := 1) hk1]
    by_cases q : k - 1 ≤ g i
    · rw [if_pos (nI_le q (by omega)), fX12_asksBall_b56, nI_1]
      exact ih (i + 1) n V1 (by omega) (by omega) f (fun s hs => by
        by_cases e : s = i
        · subst e; rw [if_pos q]; exact h2 s (Nat.le_refl _)
        · exact h1 s (by omega)) (fun s hs => h2 s (by omega))
    · rw [if_neg (nI_ge (by omega) (by omega)), y_let, y_bool1, fX12_asksBall_b56, nI_1]
      exact ih (i + 1) n _ (by omega) (by omega) (y_fr_A f (by decide)) (fun s hs => by
        show upd (zA V1 47) i 1 s = _
        rw [y_upd]
        by_cases e : s = i
        · subst e; rw [if_pos rfl, if_neg q]
        · rw [if_neg e]; exact h1 s (by omega)) (fun s hs => by
        show upd (zA V1 47) i 1 s = _
        rw [y_upd, if_neg (by omega)]; exact h2 s (by omega))
theorem y_offs_R {r : Nat} (hr : ¬ r = 19 ∧ ¬ r = 20 ∧ ¬ r = 22) : y_R (y_offs T S) r = y_R S r := by
  unfold y_offs
  generalize List.range' 1 (y_many T 7 - 1) = l
  induction l generalizing S with
  | nil => rfl
  | cons m l ih =>
    rw [List.foldl_cons, ih]
    unfold y_off
    split
    · rfl
    · show (if r = 22 then _ else if r = 20 then _ else if r = 19 then _ else zA S.1 r) = zA S.1 r
      rw [if_neg hr.2.2, if_neg hr.2.1, if_neg hr.1]
theorem m_asks (hF : 3000 ≤ F) (hTT : y_T T) (hT : y_mt T lv V) (hg : y_mg T S V) (hst : y_mst T S V) (hbl : y_bl S) (hz : ∀ m, m < 12 → y_R S 19 m = 0 → y_R S 20 m = 0) :
    ∃ V', fX12_asksBall F V = some V' ∧ y_mg T (y_end T S) V' ∧ y_mst T (y_end T S) V' ∧ y_fw [(0, 66), (0, 71), (0, 61), (0, 59), (0, 67)] [47, 49, 50, 52, 40, 41, 42] V V' := by
  obtain ⟨⟨k, hk, ek⟩, hlb⟩ := hbl
  have h0 := hTT.2.1.2.2
  have h12 := hTT.2.1.1.2
  have e66 : zI V 0 66 = nI k := (y_mg_at hg (r := 0) (k := 9) (k7 := 66) (by decide)).trans ek
  have e67 := y_mg_at hg (r := 14) (k := 7) (k7 := 67) (by decide)
  unfold fX12_asksBall y_end
  rw [e66, ek, e67]
  by_cases q0 : k = 0
  · subst q0
    rw [if_pos (show nI 0 = (0 : Int32) from rfl), if_pos (show nI 0 = (0 : Int32) from rfl)]
    exact ⟨V, rfl, hg, hst, y_fw_refl⟩
  rw [if_neg (nI_ne0 (by omega) (by omega)), if_neg (nI_ne0 (by omega) (by omega))]
  by_cases q1 : y_I S 14 7 ≤ 0
  rotate_left
  · rw [if_neg q1, if_neg q1]
    exact ⟨V, rfl, hg, hst, y_fw_refl⟩
  rw [if_pos q1, if_pos q1]
  -- who is stuck
  have g9 : ∀ s, ∃ j, s < 16 → (zA V 48 s = nI j ∧ j ≤ 3) := by
    intro s
    by_cases hs : s < 16
    · obtain ⟨j, hj, e⟩ := hlb s hs
      exact ⟨j, fun _ => ⟨(y_mg_r hg (r := 9) (r7 := 48) (n := 16) (by decide) hs).trans e, hj⟩⟩
    · exact ⟨0, fun z => absurd z hs⟩
  have hst2 : ∃ V1, (if nI k ≤ 1 then fX12_asksBall_b62 F V else fX12_asksBall_l25 F F V 0) = fX12_asksBall_b62 F V1 ∧ y_fr [] [47] V V1 ∧ ∀ s, s < y_many T 0 → zA V1 47 s = if nI k < 2 then 0 else if nI k - 1 ≤ y_R S 9 s then 0 else 1 := by
    by_cases q2 : k = 1
    · subst q2
      rw [if_pos (show nI 1 ≤ (1 : Int32) from nI_le (b := 1) (Nat.le_refl _) (by decide))]
      refine ⟨V, rfl, y_fr_refl, fun s hs => ?_⟩
      rw [hst s hs, if_pos (by decide)]
      unfold y_stk y_over
      rw [ek, if_pos (show (if nI 1 = 0 then (3 : Int32) else nI 1 - 1) < 2 by decide)]
    · rw [if_neg (show ¬ nI k ≤ (1 : Int32) from nI_ge (a := 1) (by omega) (by omega))]
      obtain ⟨V1, a1, a2, a3⟩ := m_stl (F := F) (g := fun s => Classical.choose (g9 s)) hT h0.1 h0.2 hk (by omega) e66 (fun s hs => Classical.choose_spec (g9 s) hs) (y_many T 0) 0 F V (by omega) (by omega) y_fr_refl (fun s hs => by omega) (fun s _ => rfl)
      have a1' : fX12_asksBall_l25 F F V 0 = fX12_asksBall_b62 F V1 := a1
      refine ⟨V1, a1', a2, fun s hs => ?_⟩
      obtain ⟨b1, b2⟩ := Classical.choose_spec (g9 s) (by omega)
      rw [a3 s hs]
      have e9 : y_R S 9 s = nI (Classical.choose (g9 s)) := (y_mg_r hg (r := 9) (r7 := 48) (n := 16) (by decide) (show s < 16 by omega)).symm.trans b1
      rw [e9, if_neg (show ¬ nI k < (2 : Int32) from nI_nlt (b := 2) (by omega) (by omega)), show nI k - 1 = nI (k - 1) from pk_sub (b := 1) (by omega)]
      generalize Classical.choose (g9 s) = j at *
      by_cases q : k - 1 ≤ j
      · rw [if_pos q, if_pos (nI_le q (by omega)), hst s hs]
        unfold y_stk y_over
        rw [ek, e9, if_neg (nI_ne0 (by omega) (by omega)), show nI k - 1 = nI (k - 1) from pk_sub (b := 1) (by omega)]
        by_cases q3 : k = 2
        · subst q3; rfl
        · rw [show nI (k - 1) - 1 = nI (k - 1 - 1) from pk_sub (b := 1) (by omega), if_neg (show ¬ nI (k - 1) < (2 : Int32) from nI_nlt (b := 2) (by omega) (by omega)), if_pos (nI_le (by omega) (by omega))]
      · rw [if_neg q, if_neg (nI_ge (by omega) (by omega))]
  obtain ⟨V1, b1, b2, b3⟩ := hst2
  rw [b1]
  have hT1 := y_mt_fr hT b2 List.not_mem_nil (by decide)
  have hg1 := y_mg_fr hg b2 (fun _ _ => List.not_mem_nil) (by decide)
  have hr : ∃ V2, fX12_offs F V1 = some V2 ∧ y_mg T (y_offs T S) V2 ∧ y_fr [] [49, 50, 52] V1 V2 := by
    unfold fX12_offs y_offs
    rcases Nat.eq_zero_or_pos (y_many T 7) with q | q
    · obtain ⟨n, rfl⟩ : ∃ n, F = n + 1 := ⟨F - 1, by omega⟩
      rw [fX12_offs_l2, show (7 : Int32) = nI 7 from rfl, m_sort hT1 (by decide), y_bd, hTT.2.1.1.1, q, if_pos (by decide)]
      exact ⟨V1, rfl, hg1, y_fr_refl⟩
    · exact m_offsl (F := F) (lv := lv) h12 hTT.2.1.1.1 (y_many T 7 - 1) 1 F S V1 (by omega) (by omega) hT1 hg1 hz
  obtain ⟨V2, c1, c2, c3⟩ := hr
  have hT2 := y_mt_fr hT1 c3 List.not_mem_nil (by decide)
  have e66' : zI (zsI V2 0 71 0) 0 66 = nI k := by
    have : zI V2 0 66 = nI k := by rw [c3.1 0 66 List.not_mem_nil, b2.1 0 66 List.not_mem_nil]; exact e66
    exact this
  have c4 := y_mg_I c2 (r := 0) (k := 12) (k7 := 71) (x := 0) (by decide)
  have ff : y_fw [(0, 66), (0, 71), (0, 61), (0, 59), (0, 67)] [47, 49, 50, 52, 40, 41, 42] V (zsI V2 0 71 0) := y_fw_trans (y_fw_of b2 (fun _ z => absurd z List.not_mem_nil) (by decide)) (y_fw_trans (y_fw_of c3 (fun _ z => absurd z List.not_mem_nil) (by decide)) (y_fw_of (y_fr_I (sc := [(0, 71)]) (ar := []) y_fr_refl (by decide)) (by decide) (by decide)))
  have e47 : ∀ s, s < y_many T 0 → zA (zsI V2 0 71 0) 47 s = if nI k < 2 then 0 else if nI k - 1 ≤ y_R S 9 s then 0 else 1 := by
    intro s hs
    show zA V2 47 s = _
    rw [c3.2.1 47 (by decide)]; exact b3 s hs
  have r9 : y_R (y_sI (y_offs T S) 0 12 0) 9 = y_R S 9 := y_offs_R (by decide)
  rw [fX12_asksBall_b62, c1, y_bd, y_let, e66']
  by_cases q3 : k = 3
  · subst q3
    rw [if_pos (show nI 3 = (3 : Int32) from rfl), if_pos (show nI 3 = (3 : Int32) from rfl), fX12_asksBall_b90, y_let]
    have e0 : zI (zsI (zsI V2 0 71 0) 0 66 0) 0 66 = 0 := rfl
    rw [e0, if_pos (by decide)]
    refine ⟨_, rfl, y_mg_I c4 (by decide), fun s hs => ?_, y_fw_trans ff (y_fw_of (y_fr_I (sc := [(0, 66)]) (ar := []) y_fr_refl (by decide)) (by decide) (by decide))⟩
    show zA (zsI V2 0 71 0) 47 s = _
    rw [e47 s hs]
    unfold y_stk y_over
    have r9' : y_R (y_sI (y_sI (y_offs T S) 0 12 0) 0 9 0) 9 s = y_R S 9 s := congrFun r9 s
    rw [show y_I (y_sI (y_sI (y_offs T S) 0 12 0) 0 9 0) 0 9 = 0 from rfl, if_pos rfl, r9']
    rfl
  · rw [if_neg (show ¬ nI k = (3 : Int32) from fun z => q3 ((nI_eq (b := 3) (by omega) (by decide)).mp z)), if_neg (show ¬ nI k = (3 : Int32) from fun z => q3 ((nI_eq (b := 3) (by omega) (by decide)).mp z)), fX12_asksBall_b90, y_let, nI_1]
    have e0 : zI (zsI (zsI V2 0 71 0) 0 66 (nI (k + 1))) 0 66 = nI (k + 1) := rfl
    rw [e0, if_neg (nI_nle (by omega) (by omega))]
    have c5 := y_mg_I c4 (r := 0) (k := 9) (k7 := 66) (x := nI (k + 1)) (by decide)
    have f5 : y_fr [(0, 71), (0, 66)] [] V2 (zsI (zsI V2 0 71 0) 0 66 (nI (k + 1))) := y_fr_I (y_fr_I y_fr_refl (by decide)) (by decide)
    obtain ⟨V3, d1, d2, d3⟩ := m_serves (F := F) hF hTT.2.2.1 (y_mt_fr hT2 f5 (by decide) (by decide)) c5
    rw [d1, y_bd]
    refine ⟨V3, rfl, d2, fun s hs => ?_, y_fw_trans ff (y_fw_trans (y_fw_of (y_fr_I (sc := [(0, 66)]) (ar := []) y_fr_refl (by decide)) (by decide) (by decide)) (y_fw_of d3 (by decide) (by decide)))⟩
    rw [d3.2.1 47 (by decide)]
    show zA (zsI V2 0 71 0) 47 s = _
    rw [e47 s hs]
    have i9 : y_I (y_take T (y_sI (y_sI (y_offs T S) 0 12 0) 0 9 (nI (k + 1)))) 0 9 = nI (k + 1) := by unfold y_take; split <;> rfl
    unfold y_stk y_over
    rw [i9, if_neg (nI_ne0 (by omega) (by omega)), nI_pred, y_take_R]
    have r9' : y_R (y_sI (y_sI (y_offs T S) 0 12 0) 0 9 (nI (k + 1))) 9 s = y_R S 9 s := congrFun r9 s
    rw [r9']
end
