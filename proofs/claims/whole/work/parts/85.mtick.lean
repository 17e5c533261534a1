/-! ===== ticks in the reference ===== -/
section
variable {F : Nat} {T : zV} {lv : Nat} {S : y_S} {V V' : zV} {tp : Bool}
/-- oB: how often modes had gone off when the tick came; nB: which were on then -/
def y_ofz (oB : Nat → Nat) (nB : Nat → Prop) (b : Nat) (S : y_S) : Prop := ∀ m, m < 12 → ∃ j, j ≤ b ∧ y_R S 22 m = nI j ∧ oB m ≤ j ∧ (j = oB m → nB m → ¬ y_R S 19 m = 0)
theorem y_ofz_mono {oB : Nat → Nat} {nB : Nat → Prop} {b b' : Nat} (h : y_ofz oB nB b S) (hb : b ≤ b') : y_ofz oB nB b' S := fun m hm => by obtain ⟨j, hj, e⟩ := h m hm; exact ⟨j, by omega, e⟩
theorem y_ofz_eq {oB : Nat → Nat} {nB : Nat → Prop} {b : Nat} {S' : y_S} (h : y_ofz oB nB b S) (e : y_R S' 22 = y_R S 22) (e2 : y_R S' 19 = y_R S 19) : y_ofz oB nB b S' := by unfold y_ofz; rw [e, e2]; exact h
theorem y_ofz_off {oB : Nat → Nat} {nB : Nat → Prop} {b m : Nat} (h : y_ofz oB nB b S) : y_ofz oB nB (b + 1) (y_off S m).2 := by
  unfold y_off
  split
  · exact y_ofz_mono h (by omega)
  · intro j hj
    show ∃ i, i ≤ b + 1 ∧ upd (zA S.1 22) m (y_R S 22 m + 1) j = nI i ∧ oB j ≤ i ∧ (i = oB j → nB j → ¬ upd (zA S.1 19) m 0 j = 0)
    rw [y_upd, y_upd]
    obtain ⟨i, hi, ei, e1, e2⟩ := h j hj
    by_cases e : j = m
    · subst e
      exact ⟨i + 1, by omega, by rw [if_pos rfl, ei, nI_1], by omega, fun z => by omega⟩
    · exact ⟨i, by omega, by rw [if_neg e]; exact ei, e1, by rw [if_neg e]; exact e2⟩
theorem y_ofz_offs {oB : Nat → Nat} {nB : Nat → Prop} {b : Nat} (hm : y_many T 7 ≤ 12) (h : y_ofz oB nB b S) : y_ofz oB nB (b + 12) (y_offs T S) := by
  have key : ∀ (l : List Nat) (b : Nat) (S : y_S), y_ofz oB nB b S → y_ofz oB nB (b + l.length) (l.foldl (fun S m => (y_off S m).2) S) := by
    intro l
    induction l with
    | nil => intro b S h; exact h
    | cons m l ih => intro b S h; exact y_ofz_mono (ih (b + 1) _ (y_ofz_off h)) (by rw [List.length_cons]; omega)
  unfold y_offs
  refine y_ofz_mono (key _ b S h) ?_
  rw [List.length_range']
  omega
theorem y_ofz_on {oB : Nat → Nat} {nB : Nat → Prop} {b m : Nat} (h : y_ofz oB nB b S) : y_ofz oB nB b (y_on T S m).2 := by
  unfold y_on
  split
  · intro j hj
    show ∃ i, i ≤ b ∧ y_R S 22 j = nI i ∧ oB j ≤ i ∧ (i = oB j → nB j → ¬ upd (zA S.1 19) m 1 j = 0)
    obtain ⟨i, hi, ei, e1, e2⟩ := h j hj
    rw [y_upd]
    by_cases e : j = m
    · exact ⟨i, hi, ei, e1, fun _ _ => by rw [if_pos e]; decide⟩
    · exact ⟨i, hi, ei, e1, by rw [if_neg e]; exact e2⟩
  · exact h
def y_oz (oB : Nat → Nat) (nB : Nat → Prop) (k : Nat) (S : y_S) : Prop := (∃ a, a ≤ 200 ∧ y_I S 0 13 = nI a) ∧ y_ofz oB nB (k + 12 * y_ac S) S
theorem y_oz_same {oB : Nat → Nat} {nB : Nat → Prop} {k b : Nat} {S' : y_S} (h : y_oz oB nB k S) (e13 : y_I S' 0 13 = y_I S 0 13) (h2 : y_ofz oB nB b S') (hb : b ≤ k + 12 * y_ac S) : y_oz oB nB k S' := by
  have : y_ac S' = y_ac S := by unfold y_ac; rw [e13]
  refine ⟨by rw [e13]; exact h.1, ?_⟩
  rw [this]
  exact y_ofz_mono h2 hb
theorem y_oz_as {oB : Nat → Nat} {nB : Nat → Prop} {k : Nat} (hm : y_many T 7 ≤ 12) {rec : Nat → Int32 → y_S → y_S} {top : Bool} {m : Nat} (hrec : ∀ m ev S, y_oz oB nB k S → y_oz oB nB k (rec m ev S) ∧ y_ac S ≤ y_ac (rec m ev S)) : ∀ (A : List y_A) (S : y_S), y_oz oB nB k S → y_oz oB nB k (y_as T rec top m A S) ∧ y_ac S ≤ y_ac (y_as T rec top m A S) := by
  intro A
  induction A with
  | nil => intro S h; exact ⟨h, Nat.le_refl _⟩
  | cons x A ih =>
    intro S h
    obtain ⟨⟨a, ha, e⟩, h2⟩ := h
    have eac := y_ac_of ha e
    rw [y_as]
    by_cases q : y_I S 0 13 < 200
    rotate_left
    · rw [if_neg q]
      exact ⟨⟨⟨a, ha, e⟩, h2⟩, Nat.le_refl _⟩
    rw [if_pos q, e, nI_1]
    have ha2 : a < 200 := by
      rw [e, show (200 : Int32) = nI 200 from rfl, nI_ltI (by omega) (by decide)] at q
      exact q
    have e1 : y_I (y_sI S 0 13 (nI (a + 1))) 0 13 = nI (a + 1) := rfl
    have eac1 : y_ac (y_sI S 0 13 (nI (a + 1))) = a + 1 := y_ac_of (by omega) e1
    have o1 : y_ofz oB nB (k + 12 * a) (y_sI S 0 13 (nI (a + 1))) := by rw [eac] at h2; exact h2
    have h1 : y_oz oB nB k (y_sI S 0 13 (nI (a + 1))) := ⟨⟨a + 1, by omega, rfl⟩, by rw [eac1]; exact y_ofz_mono o1 (by omega)⟩
    generalize y_sI S 0 13 (nI (a + 1)) = S1 at e1 eac1 o1 h1
    have fin : ∀ S2, y_oz oB nB k S2 → y_ac S1 ≤ y_ac S2 → y_oz oB nB k (y_as T rec top m A S2) ∧ y_ac S ≤ y_ac (y_as T rec top m A S2) := by
      intro S2 g1 g2
      have := ih S2 g1
      exact ⟨this.1, by omega⟩
    have same : ∀ S2, y_I S2 0 13 = y_I S1 0 13 → y_ofz oB nB (k + 12 * a + 12) S2 → y_oz oB nB k S2 ∧ y_ac S1 ≤ y_ac S2 := by
      intro S2 g1 g2
      exact ⟨y_oz_same h1 g1 g2 (by rw [eac1]; omega), by unfold y_ac; rw [g1]; exact Nat.le_refl _⟩
    have go : y_oz oB nB k (y_do T rec top m x S1) ∧ y_ac S1 ≤ y_ac (y_do T rec top m x S1) := by
      have u : ∀ S2, y_I S2 0 13 = y_I S1 0 13 → y_R S2 22 = y_R S1 22 → y_R S2 19 = y_R S1 19 → y_oz oB nB k S2 ∧ y_ac S1 ≤ y_ac S2 := fun S2 g1 g2 g3 => same S2 g1 (y_ofz_mono (y_ofz_eq o1 g2 g3) (by omega))
      unfold y_do
      split
      · exact u _ y_gain_13 (by unfold y_gain; split <;> rfl) (by unfold y_gain; split <;> rfl)
      split
      · exact u _ rfl rfl rfl
      split
      · have g := same (y_on T S1 x.2.1).2 y_on_I (y_ofz_mono (y_ofz_on o1) (by omega))
        split
        · have g2 := hrec x.2.1 (-1) _ g.1
          exact ⟨g2.1, by omega⟩
        · exact g
      split
      · have g := same (y_off S1 m).2 y_off_I (y_ofz_mono (y_ofz_off o1) (by omega))
        split
        · have g2 := hrec m (-2) _ g.1
          exact ⟨g2.1, by omega⟩
        · exact g
      split
      · exact u _ y_await_13 (by unfold y_await; split; rfl; split <;> rfl) (by unfold y_await; split; rfl; split <;> rfl)
      split
      · exact u _ rfl rfl rfl
      split
      · exact u _ y_drop_13 y_drop_R y_drop_R
      split
      · exact u _ y_take_13 y_take_R y_take_R
      · exact same _ ((y_offs_I (T := T)).trans rfl) (y_ofz_offs hm o1)
    exact fin _ go.1 go.2
theorem y_oz_rl {oB : Nat → Nat} {nB : Nat → Prop} {k : Nat} (hm : y_many T 7 ≤ 12) {rec : Nat → Int32 → y_S → y_S} {top : Bool} {m : Nat} {ev o : Int32} (hrec : ∀ m ev S, y_oz oB nB k S → y_oz oB nB k (rec m ev S) ∧ y_ac S ≤ y_ac (rec m ev S)) : ∀ (rs : List Nat) (S : y_S), y_oz oB nB k S → y_oz oB nB k (y_rl T rec top m ev o rs S) ∧ y_ac S ≤ y_ac (y_rl T rec top m ev o rs S) := by
  intro rs
  induction rs with
  | nil => intro S h; exact ⟨h, Nat.le_refl _⟩
  | cons r rs ih =>
    intro S h
    rw [y_rl]
    split
    · have g := y_oz_as (T := T) (top := top) (m := m) hm hrec (y_ra T r) S h
      split
      · exact g
      · have g2 := ih _ g.1
        exact ⟨g2.1, by omega⟩
    · exact ih S h
theorem y_oz_rR {oB : Nat → Nat} {nB : Nat → Prop} {k : Nat} (hm : y_many T 7 ≤ 12) : ∀ (l : Nat) (top : Bool) (m : Nat) (ev : Int32) (S : y_S), y_oz oB nB k S → y_oz oB nB k (y_rR T l top m ev S) ∧ y_ac S ≤ y_ac (y_rR T l top m ev S) := by
  intro l
  induction l with
  | zero => intro top m ev S h; exact ⟨h, Nat.le_refl _⟩
  | succ l ih =>
    intro top m ev S h
    rw [y_rR]
    exact y_oz_rl hm (fun m ev S h => ih false m ev S h) _ S h
end
section
variable {F : Nat} {T : zV} {lv : Nat} {S : y_S} {V V' : zV}
/-- between the modes of a tick: works on, or is ENDLESS -/
def y_mq (lv : Nat) (T : zV) (S : y_S) (V : zV) : Prop := (y_mb lv T S V ∧ y_I S 0 14 = 0) ∨ (y_mt T lv V ∧ y_mg T S V ∧ y_si T S ∧ y_dead S ∧ zI V 0 89 = 1)
theorem y_mq_1 (h : y_mq lv T S V) : y_mt T lv V ∧ y_mg T S V ∧ y_si T S := by
  rcases h with h | h
  · exact ⟨h.1.1, h.1.2.1, h.1.2.2.1⟩
  · exact ⟨h.1, h.2.1, h.2.2.1⟩
def y_wz (oB : Nat → Nat) (nB : Nat → Prop) (T : zV) (S : y_S) (V : zV) : Prop := ∀ m, m < y_many T 7 → (zA V 64 m = 0 → y_R S 23 m = -1) ∧ (¬ zA V 64 m = 0 → y_R S 23 m = zA V 65 m ∧ nB m ∧ y_R S 23 m = nI (oB m))
def y_tm (T : zV) : Prop := ∀ m, m < y_many T 7 → ∃ t, t < 2 ^ 31 ∧ zA T 11 m = nI t
theorem m_tickl (hF : 3000 ≤ F) (hTT : y_T T) (hax : y_ax T) (hmo : ∀ m, m < y_many T 7 → y_hd T m ≤ y_hd T (m + 1)) (htm : y_tm T) {oB : Nat → Nat} {nB : Nat → Prop} (hoB : ∀ m, m < 12 → oB m < 2 ^ 31) : ∀ (r i n K : Nat) (S : y_S) (V : zV), K + r + 3000 < 2 ^ 31 → i + r = y_many T 7 → r + 1 ≤ n → (∀ i, i < y_many T 7 → zA V 56 i = zA T 12 i) → y_mq lv T S V → zI V 0 90 = 0 → y_wz oB nB T S V → y_oz oB nB K S → y_mst T S V → y_bl S →
    ∃ V', fX12_oneTick_l23 F n V (nI i) = some V' ∧ y_mg T (y_end T (y_tl T ((List.range' i r).map fun i => (zA T 12 i).toNatClampNeg) S)) V' ∧ y_mst T (y_end T (y_tl T ((List.range' i r).map fun i => (zA T 12 i).toNatClampNeg) S)) V' ∧ y_fw y_pz y_py V V' ∧ y_si T (y_tl T ((List.range' i r).map fun i => (zA T 12 i).toNatClampNeg) S) ∧ y_kp S (y_tl T ((List.range' i r).map fun i => (zA T 12 i).toNatClampNeg) S) ∧ y_oz oB nB (K + r) (y_tl T ((List.range' i r).map fun i => (zA T 12 i).toNatClampNeg) S) ∧ ∃ p, p ≤ 3 ∧ y_I (y_tl T ((List.range' i r).map fun i => (zA T 12 i).toNatClampNeg) S) 14 7 = nI p := by
  intro r
  have h7 := hTT.2.1.1
  induction r with
  | zero =>
    intro i n K S V hK e hn hod h h90 hwo hob hst hbl
    obtain ⟨n, rfl⟩ : ∃ n', n = n' + 1 := ⟨n - 1, by omega⟩
    obtain ⟨a1, a2, a3⟩ := y_mq_1 h
    have a2' := a2
    obtain ⟨-, -, -, -, -, -, -, -, p, hp, g8, -⟩ := a2'
    obtain ⟨V1, b1, b2, b3, b4⟩ := m_asks (F := F) (lv := lv) hF hTT a1 a2 hst hbl a3.2.1
    rw [fX12_oneTick_l23, show (7 : Int32) = nI 7 from rfl, m_sort a1 (by decide), y_bd, h7.1, if_pos (nI_le (by omega) (by omega)), b1, y_bd]
    exact ⟨V1, rfl, b2, b3, y_fw_mono b4 (by decide) (by decide), a3, ⟨⟨rfl, rfl⟩, fun _ _ => rfl⟩, hob, p, hp, g8⟩
  | succ r ih =>
    intro i n K S V hK e hn hod h h90 hwo hob hst hbl
    obtain ⟨n, rfl⟩ : ∃ n', n = n' + 1 := ⟨n - 1, by omega⟩
    obtain ⟨m, hm, em⟩ := hTT.2.2.2.2.2.2 i (by omega)
    have hm12 : m < 12 := by omega
    have e56 : zA V 56 i = nI m := (hod i (by omega)).trans em
    obtain ⟨a1, a2, a3⟩ := y_mq_1 h
    have hlv := a1.1.1
    have r52 : zA V 52 m = y_R S 22 m := y_mg_r a2 (r := 22) (r7 := 52) (n := 12) (by decide) hm12
    have r50 : zA V 50 m = y_R S 20 m := y_mg_r a2 (r := 20) (r7 := 50) (n := 12) (by decide) hm12
    have r22 : zA V 22 (12 * lv + m) = zA T 11 m := (a1.2.2.1 m hm).2
    have next : ∀ (S1 : y_S) (V1 : zV), (∀ i, i < y_many T 7 → zA V1 56 i = zA T 12 i) → y_mq lv T S1 V1 → zI V1 0 90 = 0 → y_wz oB nB T S1 V1 → y_oz oB nB (K + 1) S1 → y_mst T S1 V1 → y_bl S1 → y_fw y_pz y_py V V1 → y_kp S S1 →
        ∃ V', fX12_oneTick_b120 F (fX12_oneTick_l23 F n) V1 (nI i) = some V' ∧ y_mg T (y_end T (y_tl T ((List.range' (i + 1) r).map fun i => (zA T 12 i).toNatClampNeg) S1)) V' ∧ y_mst T (y_end T (y_tl T ((List.range' (i + 1) r).map fun i => (zA T 12 i).toNatClampNeg) S1)) V' ∧ y_fw y_pz y_py V V' ∧ y_si T (y_tl T ((List.range' (i + 1) r).map fun i => (zA T 12 i).toNatClampNeg) S1) ∧ y_kp S (y_tl T ((List.range' (i + 1) r).map fun i => (zA T 12 i).toNatClampNeg) S1) ∧ y_oz oB nB (K + (r + 1)) (y_tl T ((List.range' (i + 1) r).map fun i => (zA T 12 i).toNatClampNeg) S1) ∧ ∃ p, p ≤ 3 ∧ y_I (y_tl T ((List.range' (i + 1) r).map fun i => (zA T 12 i).toNatClampNeg) S1) 14 7 = nI p := by
      intro S1 V1 c0 c1 c2 c3 c4 c5 c6 c7 c8
      rw [fX12_oneTick_b120, nI_1]
      obtain ⟨V2, b1, b2, b3, b4, b5, b6, b7, b8⟩ := ih (i + 1) n (K + 1) S1 V1 (by omega) (by omega) (by omega) c0 c1 c2 c3 c4 c5 c6
      refine ⟨V2, b1, b2, b3, y_fw_trans c7 b4, b5, y_kp_trans c8 b6, ?_, b8⟩
      rw [show K + (r + 1) = K + 1 + r by omega]; exact b7
    have same : y_oz oB nB (K + 1) S := ⟨hob.1, y_ofz_mono hob.2 (by omega)⟩
    rw [fX12_oneTick_l23, show (7 : Int32) = nI 7 from rfl, m_sort a1 (by decide), y_bd, h7.1, if_neg (nI_ge (by omega) (by omega)), y_ck (by omega) (by decide), y_let, List.range'_succ, List.map_cons, y_tl, a1.1.2, show (12 : Int32) = nI 12 from rfl]
    simp only [nI_clamp (show i < 2 ^ 31 by omega), e56, em, nI_clamp (show m < 2 ^ 31 by omega), y_ck hm12 (by decide), pk_mul, nI_add, y_ck (show 12 * lv + m < 24 by omega) (by decide), nI_clamp (show 12 * lv + m < 2 ^ 31 by omega), r22]
    obtain ⟨w1, w2⟩ := hwo m hm
    obtain ⟨j, hj, ej, ej1, ej2⟩ := hob.2 m hm12
    have hac : y_ac S ≤ 200 := by obtain ⟨a, ha, e⟩ := hob.1; rw [y_ac_of ha e]; exact ha
    by_cases q64 : zA V 64 m = 0
    · have hno : ¬ (y_R S 23 m = y_R S 22 m ∧ 0 < nI ((zA T 11 m).toNatClampNeg)) := by
        rintro ⟨z, -⟩
        rw [w1 q64, ej] at z
        have := nI_pos (n := j) (by omega)
        rw [← z] at this
        exact this (by decide)
      have hno' : ¬ (y_R S 23 m = y_R S 22 m ∧ 0 < zA T 11 m) := by
        rintro ⟨z, -⟩
        rw [w1 q64, ej] at z
        have := nI_pos (n := j) (by omega)
        rw [← z] at this
        exact this (by decide)
      rw [if_pos q64, if_neg hno']
      exact next S V hod h h90 hwo same hst hbl y_fw_refl ⟨⟨rfl, rfl⟩, fun _ _ => rfl⟩
    obtain ⟨w3, w4, w5⟩ := w2 q64
    rw [if_neg q64, r52, w3]
    by_cases q65 : zA V 65 m = y_R S 22 m
    rotate_left
    · rw [if_neg (fun z => q65 z.symm), if_neg (fun z => q65 z.1)]
      exact next S V hod h h90 hwo same hst hbl y_fw_refl ⟨⟨rfl, rfl⟩, fun _ _ => rfl⟩
    rw [if_pos q65.symm]
    obtain ⟨t, ht, et⟩ := htm m hm
    rw [et]
    by_cases qt : t = 0
    · subst qt
      rw [if_pos (show nI 0 = (0 : Int32) from rfl), if_neg (fun z => absurd z.2 (by decide))]
      exact next S V hod h h90 hwo same hst hbl y_fw_refl ⟨⟨rfl, rfl⟩, fun _ _ => rfl⟩
    have hon : ¬ y_R S 19 m = 0 := by
      have e1 : nI (oB m) = nI j := by rw [← w5, w3, q65, ej]
      have : oB m = j := (nI_eq (hoB m hm12) (by omega)).mp e1
      exact ej2 this.symm w4
    rw [if_neg (nI_ne0 (by omega) ht), if_pos (show zA V 65 m = y_R S 22 m ∧ 0 < nI t from ⟨q65, nI_lt (a := 0) (by omega) ht⟩), y_let, r50]
    have f1 : y_fr [] [50] V (zsA V 50 (upd (zA V 50) m (y_R S 20 m - 1))) := y_fr_A y_fr_refl (by decide)
    have g1 : y_mg T (y_sR S 20 m (y_R S 20 m - 1)) (zsA V 50 (upd (zA V 50) m (y_R S 20 m - 1))) := y_mg_A a2 (by decide) (fun z => by omega)
    have e50 : zA (zsA V 50 (upd (zA V 50) m (y_R S 20 m - 1))) 50 m = y_R S 20 m - 1 := by
      show upd (zA V 50) m (y_R S 20 m - 1) m = _
      rw [y_upd, if_pos rfl]
    rw [e50]
    have s1 : y_si T (y_sR S 20 m (y_R S 20 m - 1)) := by
      refine ⟨a3.1, fun x hx z => ?_, a3.2.2⟩
      show upd (zA S.1 20) m (y_R S 20 m - 1) x = 0
      have z : y_R S 19 x = 0 := z
      rw [y_upd]
      by_cases c : x = m
      · subst c; exact absurd z hon
      · rw [if_neg c]; exact a3.2.1 x hx z
    have kp1 : y_kp S (y_sR S 20 m (y_R S 20 m - 1)) := by
      refine ⟨⟨rfl, rfl⟩, fun q hq => ?_⟩
      have : ¬ q = 20 := (show ∀ q ∈ [6, 7, 8, 9, 11, 12, 23], ¬ q = 20 by decide) q hq
      show (if q = 20 then _ else zA S.1 q) = zA S.1 q
      rw [if_neg this]
    have o1 : y_oz oB nB K (y_sR S 20 m (y_R S 20 m - 1)) := ⟨hob.1, y_ofz_eq hob.2 rfl rfl⟩
    have mq1 : y_mq lv T (y_sR S 20 m (y_R S 20 m - 1)) (zsA V 50 (upd (zA V 50) m (y_R S 20 m - 1))) := by
      rcases h with h | h
      · exact Or.inl ⟨⟨y_mt_fr h.1.1 f1 List.not_mem_nil (by decide), g1, s1, h.1.2.2.2.1, h.1.2.2.2.2⟩, h.2⟩
      · exact Or.inr ⟨y_mt_fr h.1 f1 List.not_mem_nil (by decide), g1, s1, h.2.2.2.1, h.2.2.2.2⟩
    have st1 : y_mst T (y_sR S 20 m (y_R S 20 m - 1)) (zsA V 50 (upd (zA V 50) m (y_R S 20 m - 1))) := fun s hs => (hst s hs).trans (y_stk_kp kp1).symm
    have wz1 : y_wz oB nB T (y_sR S 20 m (y_R S 20 m - 1)) (zsA V 50 (upd (zA V 50) m (y_R S 20 m - 1))) := hwo
    have od1 : ∀ i, i < y_many T 7 → zA (zsA V 50 (upd (zA V 50) m (y_R S 20 m - 1))) 56 i = zA T 12 i := hod
    have h901 : zI (zsA V 50 (upd (zA V 50) m (y_R S 20 m - 1))) 0 90 = nI 0 := h90
    generalize zsA V 50 (upd (zA V 50) m (y_R S 20 m - 1)) = V1 at f1 g1 mq1 st1 wz1 od1 h901 ⊢
    have hS1 : ∀ k, y_R (y_sR S 20 m (y_R S 20 m - 1)) 22 k = y_R S 22 k := fun _ => rfl
    generalize y_sR S 20 m (y_R S 20 m - 1) = S1 at g1 s1 kp1 o1 mq1 st1 wz1 hS1 ⊢
    have fV1 : y_fw y_pz y_py V V1 := y_fw_of f1 (fun _ z => absurd z List.not_mem_nil) (by decide)
    by_cases q3 : 0 < y_R S 20 m - 1
    · rw [if_neg (Int32.not_le.mpr q3), if_pos q3]
      exact next S1 V1 od1 mq1 h901 wz1 ⟨o1.1, y_ofz_mono o1.2 (by omega)⟩ st1 (y_bl_kp kp1 hbl) fV1 kp1
    rw [if_pos (Int32.not_lt.mp q3), if_neg q3]
    obtain ⟨R, hR, hR3, hh, hcond⟩ := hTT.2.2.2.2.1
    obtain ⟨b1, b2, b3⟩ := y_mq_1 mq1
    obtain ⟨V2, c1, c2, c3⟩ := m_leaves (F := F) (fr := 0) hF b1 b2 (by decide) h901 hm h7.2 (hh m (by omega)).1
    have kp2 : y_kp S (y_off S1 m).2 := y_kp_trans kp1 y_kp_off
    have si2 : y_si T (y_off S1 m).2 := y_si_off b3
    have oz2 : y_oz oB nB (K + 1) (y_off S1 m).2 := by
      refine ⟨by rw [y_off_I]; exact o1.1, ?_⟩
      have : y_ac (y_off S1 m).2 = y_ac S1 := by unfold y_ac; rw [y_off_I]
      rw [this]
      exact y_ofz_mono (y_ofz_off o1.2) (by omega)
    have mq2 : y_mq lv T (y_off S1 m).2 V2 := by
      have hT2 := y_mt_fr b1 c2 List.not_mem_nil (by decide)
      rcases mq1 with h | h
      · exact Or.inl ⟨⟨hT2, c1, si2, (c2.1 0 88 List.not_mem_nil).trans (h.1.2.2.2.1.trans y_off_I.symm), (c2.1 0 89 List.not_mem_nil).trans h.1.2.2.2.2⟩, y_off_I.trans h.2⟩
      · refine Or.inr ⟨hT2, c1, si2, ?_, (c2.1 0 89 List.not_mem_nil).trans h.2.2.2.2⟩
        unfold y_dead
        rw [y_off_I, y_off_I]; exact h.2.2.2.1
    have fV2 : y_fw y_pz y_py V V2 := y_fw_trans fV1 (y_fw_of c2 (fun _ z => absurd z List.not_mem_nil) (by decide))
    have wz2 : ∀ V3, zA V3 64 = zA V1 64 → zA V3 65 = zA V1 65 → ∀ S3, y_R S3 23 = y_R S1 23 → y_wz oB nB T S3 V3 := by
      intro V3 d1 d2 S3 d3 m' hm'
      rw [d1, d2, d3]; exact wz1 m' hm'
    have st2 : ∀ S3 V3, zA V3 47 = zA V1 47 → y_kp S1 S3 → y_mst T S3 V3 := by
      intro S3 V3 d1 d2 s hs
      rw [d1, y_stk_kp d2]; exact st1 s hs
    have e23 : y_R (y_off S1 m).2 23 = y_R S1 23 := (y_kp_off (S := S1) (m := m)).2 23 (by decide)
    have h902 : zI V2 0 90 = 0 := (c2.1 0 90 List.not_mem_nil).trans h901
    obtain ⟨n0, hn0⟩ : ∃ n', F = n' + 1 := ⟨F - 1, by omega⟩
    rcases c3 with ⟨d1, d2⟩ | ⟨d1, d2, d3⟩ | ⟨d1, d2, V3, d3, d4, d5, d6, d7⟩
    · have hw : fX12_works F V2 = some V2 := by
        unfold fX12_works
        rw [hn0, fX12_works_l0, h902, if_pos (by decide)]
      rw [d2, y_bd, hw, y_bd, y_let, if_neg (by rw [d1]; decide)]
      have f9 : y_fr [(0, 90)] [] V2 (zsI V2 0 90 0) := y_fr_I y_fr_refl (by decide)
      have mq3 : y_mq lv T (y_off S1 m).2 (zsI V2 0 90 0) := by
        rcases mq2 with h | h
        · exact Or.inl ⟨⟨y_mt_fr h.1.1 f9 (by decide) (by decide), y_mg_fr h.1.2.1 f9 (by decide) (by decide), h.1.2.2⟩, h.2⟩
        · exact Or.inr ⟨y_mt_fr h.1 f9 (by decide) (by decide), y_mg_fr h.2.1 f9 (by decide) (by decide), h.2.2⟩
      exact next _ _ (fun i hi => by show zA V2 56 i = _; rw [c2.2.1 56 (by decide)]; exact od1 i hi) mq3 rfl (wz2 _ (by show zA V2 64 = _; rw [c2.2.1 64 (by decide)]) (by show zA V2 65 = _; rw [c2.2.1 65 (by decide)]) _ e23) oz2 (st2 _ _ (by show zA V2 47 = _; rw [c2.2.1 47 (by decide)]) y_kp_off) (y_bl_kp kp2 hbl) (y_fw_trans fV2 (y_fw_of f9 (by decide) (by decide))) kp2
    · have hdp0 : y_dp V1 0 = 0 := rfl
      omega
    · rw [d3, y_bd, if_pos d1]
      have kp3 := y_kp_trans kp2 (y_kp_rR (T := T) 8 false m (-2) (y_off S1 m).2)
      have kp13 := y_kp_trans (y_kp_off (S := S1) (m := m)) (y_kp_rR (T := T) 8 false m (-2) (y_off S1 m).2)
      have oz3 := y_oz_rR (T := T) h7.2 8 false m (-2) (y_off S1 m).2 oz2
      have e233 : y_R (y_rR T 8 false m (-2) (y_off S1 m).2) 23 = y_R S1 23 := kp13.2 23 (by decide)
      have fV3 : y_fw y_pz y_py V V3 := y_fw_trans fV2 (y_fw_of d6 (by decide) (by decide))
      have fin : ∀ V4, fX12_works F V3 = some V4 → y_fw y_dz y_dy V3 V4 → y_mq lv T (y_rR T 8 false m (-2) (y_off S1 m).2) (zsI V4 0 90 0) → ∃ V', (zbd (fX12_works F V3) fun q24 => zlet (zsI q24 0 90 0) fun V7_26 => fX12_oneTick_b120 F (fX12_oneTick_l23 F n) V7_26 (nI i)) = some V' ∧ y_mg T (y_end T (y_tl T ((List.range' (i + 1) r).map fun i => (zA T 12 i).toNatClampNeg) (y_rR T 8 false m (-2) (y_off S1 m).2))) V' ∧ y_mst T (y_end T (y_tl T ((List.range' (i + 1) r).map fun i => (zA T 12 i).toNatClampNeg) (y_rR T 8 false m (-2) (y_off S1 m).2))) V' ∧ y_fw y_pz y_py V V' ∧ y_si T (y_tl T ((List.range' (i + 1) r).map fun i => (zA T 12 i).toNatClampNeg) (y_rR T 8 false m (-2) (y_off S1 m).2)) ∧ y_kp S (y_tl T ((List.range' (i + 1) r).map fun i => (zA T 12 i).toNatClampNeg) (y_rR T 8 false m (-2) (y_off S1 m).2)) ∧ y_oz oB nB (K + (r + 1)) (y_tl T ((List.range' (i + 1) r).map fun i => (zA T 12 i).toNatClampNeg) (y_rR T 8 false m (-2) (y_off S1 m).2)) ∧ ∃ p, p ≤ 3 ∧ y_I (y_tl T ((List.range' (i + 1) r).map fun i => (zA T 12 i).toNatClampNeg) (y_rR T 8 false m (-2) (y_off S1 m).2)) 14 7 = nI p := by
        intro V4 x1 x2 x3
        rw [x1, y_bd, y_let]
        have rr : ∀ q, q ∉ y_dy → q ∉ y_ff → q ∉ [49, 50, 52] → zA (zsI V4 0 90 0) q = zA V1 q := by
          intro q y1 y2 y3
          show zA V4 q = _
          rw [x2.2.1 q y1, d6.2.1 q y2, c2.2.1 q y3]
        exact next _ _ (fun i hi => by rw [rr 56 (by decide) (by decide) (by decide)]; exact od1 i hi) x3 rfl (wz2 _ (rr 64 (by decide) (by decide) (by decide)) (rr 65 (by decide) (by decide) (by decide)) _ e233) oz3.1 (st2 _ _ (rr 47 (by decide) (by decide) (by decide)) kp13) (y_bl_kp kp3 hbl) (y_fw_trans fV3 (y_fw_trans (y_fw_mono x2 (by decide) (by decide)) (y_fw_of (y_fr_I (sc := [(0, 90)]) (ar := []) y_fr_refl (by decide)) (by decide) (by decide)))) kp3
      rcases mq2 with h | h
      · -- it works
        have w3 : y_mw false lv T (y_off S1 m).2 V3 := y_mw_fr (y_mb_w h.1 h.2) d6 (by decide) (by decide) (by decide) (by decide)
        have hdp : y_dp V3 (0 + 1) = 8 - 7 := by
          rw [y_dp_succ, d5.2.1, if_pos (by decide)]; rfl
        obtain ⟨x1, x2⟩ := m_frun (F := F) (lv := lv) hF hTT hax hmo 7 (by decide) false 0 m (-2) false (y_off S1 m).2 V3 (Nat.zero_le _) w3 d4 d5 hm hdp (fun z => (by cases z)) (fun _ => Or.inr rfl)
        have hac3 : y_ac (y_rR T (7 + 1) false m (-2) (y_off S1 m).2) ≤ 200 := by obtain ⟨a, ha, e⟩ := oz3.1.1; rw [y_ac_of ha e]; exact ha
        rcases m_works hF (by omega) x2 with ⟨V4, i1, i2, i3, i4, i5, i6⟩ | ⟨V4, i1, i2, i3, i4, i5, i6, i7, i8⟩
        · have f9 : y_fr [(0, 90)] [] V4 (zsI V4 0 90 0) := y_fr_I y_fr_refl (by decide)
          have w9 := y_mw_fr i3 f9 (by decide) (by decide) (by decide) (by decide)
          exact fin V4 i1 i4 (Or.inl ⟨y_mw_v w9, i3.2.2.2.2.2.2 rfl⟩)
        · have f9 : y_fr [(0, 90)] [] V4 (zsI V4 0 90 0) := y_fr_I y_fr_refl (by decide)
          exact fin V4 i1 i8 (Or.inr ⟨y_mt_fr i4 f9 (by decide) (by decide), y_mg_fr i5 f9 (by decide) (by decide), i6, i7, i3⟩)
      · -- it is ENDLESS already
        have hT3 := y_mt_fr h.1 d6 (by decide) (by decide)
        have g3 := y_mg_fr h.2.1 d6 (by decide) (by decide)
        have h893 : zI V3 0 89 = 1 := (d6.1 0 89 (by decide)).trans h.2.2.2.2
        have hw : fX12_works F V3 = some V3 := by
          unfold fX12_works
          rw [hn0, fX12_works_l0, d4, if_neg (by decide), h893, if_neg (by decide)]
        have f9 : y_fr [(0, 90)] [] V3 (zsI V3 0 90 0) := y_fr_I y_fr_refl (by decide)
        refine fin V3 hw y_fw_refl ?_
        rw [y_rR_dead h.2.2.2.1]
        exact Or.inr ⟨y_mt_fr hT3 f9 (by decide) (by decide), y_mg_fr g3 f9 (by decide) (by decide), h.2.2.1, h.2.2.2.1, h893⟩
end
