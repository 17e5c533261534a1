/-! ===== what rules keep; a press in the reference ===== -/
section
variable {F : Nat} {T : zV} {lv : Nat} {S : y_S} {V V' : zV} {tp : Bool}
/-- whatever single acts keep, rules keep -/
theorem y_ind {Q : y_S → y_S → Prop} (hr : ∀ S, Q S S) (ht : ∀ S1 S2 S3, Q S1 S2 → Q S2 S3 → Q S1 S3) (h1 : ∀ S k x, k ∈ [11, 12, 13, 14] → Q S (y_sI S 0 k x)) (h2 : ∀ S x, Q S (y_gain S x)) (h3 : ∀ S i x, Q S (y_sR S 1 i x)) (h4 : ∀ S m, Q S (y_on T S m).2) (h5 : ∀ S m, Q S (y_off S m).2) (h6 : ∀ S c, Q S (y_await S c)) (h7 : ∀ S, Q S (y_drop T S)) (h8 : ∀ S, Q S (y_take T S)) :
    ∀ (l : Nat) (top : Bool) (m : Nat) (ev : Int32) (S : y_S), Q S (y_rR T l top m ev S) := by
  have ho : ∀ S, Q S (y_offs T S) := by
    intro S
    unfold y_offs
    generalize List.range' 1 (y_many T 7 - 1) = l
    induction l generalizing S with
    | nil => exact hr S
    | cons m l ih => exact ht _ _ _ (h5 S m) (ih _)
  have has : ∀ (rec : Nat → Int32 → y_S → y_S), (∀ m ev S, Q S (rec m ev S)) → ∀ (top : Bool) (m : Nat) (A : List y_A) (S : y_S), Q S (y_as T rec top m A S) := by
    intro rec hrec top m A
    induction A with
    | nil => exact hr
    | cons x A ih =>
      intro S
      rw [y_as]
      split
      · have a := h1 S 13 (y_I S 0 13 + 1) (by decide)
        refine ht _ _ _ a ?_
        generalize y_sI S 0 13 (y_I S 0 13 + 1) = S1
        refine ht S1 (y_do T rec top m x S1) _ ?_ (ih _)
        unfold y_do
        split
        · exact h2 _ _
        split
        · exact h3 _ _ _
        split
        · split
          · exact ht _ _ _ (h4 _ _) (hrec _ _ _)
          · exact h4 _ _
        split
        · split
          · exact ht _ _ _ (h5 _ _) (hrec _ _ _)
          · exact h5 _ _
        split
        · exact h6 _ _
        split
        · exact h1 _ 14 _ (by decide)
        split
        · exact h7 _
        split
        · exact h8 _
        · exact ht _ _ _ (h1 _ 12 _ (by decide)) (ho _)
      · exact h1 S 11 _ (by decide)
  have hrl : ∀ (rec : Nat → Int32 → y_S → y_S), (∀ m ev S, Q S (rec m ev S)) → ∀ (top : Bool) (m : Nat) (ev o : Int32) (rs : List Nat) (S : y_S), Q S (y_rl T rec top m ev o rs S) := by
    intro rec hrec top m ev o rs
    induction rs with
    | nil => exact hr
    | cons r rs ih =>
      intro S
      rw [y_rl]
      split
      · split
        · exact has rec hrec top m _ S
        · exact ht _ _ _ (has rec hrec top m _ S) (ih _)
      · exact ih S
  intro l
  induction l with
  | zero => intro top m ev S; exact hr S
  | succ l ih =>
    intro top m ev S
    rw [y_rR]
    exact hrl _ (fun m ev S => ih false m ev S) top m ev _ _ S
/-- what rules leave as it was -/
def y_kp (S S' : y_S) : Prop := (y_I S' 0 9 = y_I S 0 9 ∧ y_I S' 0 10 = y_I S 0 10) ∧ ∀ r ∈ [6, 7, 8, 9, 11, 12, 23], y_R S' r = y_R S r
theorem y_kp_trans {S1 S2 S3 : y_S} (h : y_kp S1 S2) (g : y_kp S2 S3) : y_kp S1 S3 := ⟨⟨g.1.1.trans h.1.1, g.1.2.trans h.1.2⟩, fun r hr => (g.2 r hr).trans (h.2 r hr)⟩
theorem y_kp_off {m : Nat} : y_kp S (y_off S m).2 := by
  refine ⟨⟨y_off_I, y_off_I⟩, fun r hr => ?_⟩
  unfold y_off
  split
  · rfl
  · have : ¬ r = 22 ∧ ¬ r = 20 ∧ ¬ r = 19 := (show ∀ r ∈ [6, 7, 8, 9, 11, 12, 23], ¬ r = 22 ∧ ¬ r = 20 ∧ ¬ r = 19 by decide) r hr
    show (if r = 22 then _ else if r = 20 then _ else if r = 19 then _ else zA S.1 r) = zA S.1 r
    rw [if_neg this.1, if_neg this.2.1, if_neg this.2.2]
theorem y_kp_on {m : Nat} : y_kp S (y_on T S m).2 := by
  refine ⟨⟨y_on_I, y_on_I⟩, fun r hr => ?_⟩
  have : ¬ r = 21 ∧ ¬ r = 20 ∧ ¬ r = 19 := (show ∀ r ∈ [6, 7, 8, 9, 11, 12, 23], ¬ r = 21 ∧ ¬ r = 20 ∧ ¬ r = 19 by decide) r hr
  unfold y_on
  split
  · show (if r = 21 then _ else if r = 19 then _ else if r = 20 then _ else zA S.1 r) = zA S.1 r
    rw [if_neg this.1, if_neg this.2.2, if_neg this.2.1]
  · show (if r = 20 then _ else zA S.1 r) = zA S.1 r
    rw [if_neg this.2.1]
theorem y_kp_rR (l : Nat) (top : Bool) (m : Nat) (ev : Int32) (S : y_S) : y_kp S (y_rR T l top m ev S) := by
  refine y_ind (Q := y_kp) (fun S => ⟨⟨rfl, rfl⟩, fun _ _ => rfl⟩) (fun _ _ _ => y_kp_trans) (fun S k x hk => ⟨⟨?_, ?_⟩, fun _ _ => rfl⟩) (fun S x => ?_) (fun S i x => ⟨⟨rfl, rfl⟩, fun r hr => ?_⟩) (fun S m => y_kp_on) (fun S m => y_kp_off) (fun S c => ?_) (fun S => ?_) (fun S => ?_) l top m ev S
  · have : ¬ 9 = k := by simp at hk; omega
    show (if 0 = 0 ∧ 9 = k then x else zI S.1 0 9) = zI S.1 0 9
    rw [if_neg (fun z => this z.2)]
  · have : ¬ 10 = k := by simp at hk; omega
    show (if 0 = 0 ∧ 10 = k then x else zI S.1 0 10) = zI S.1 0 10
    rw [if_neg (fun z => this z.2)]
  · unfold y_gain; split <;> exact ⟨⟨rfl, rfl⟩, fun _ _ => rfl⟩
  · have : ¬ r = 1 := (show ∀ r ∈ [6, 7, 8, 9, 11, 12, 23], ¬ r = 1 by decide) r hr
    show (if r = 1 then _ else zA S.1 r) = zA S.1 r
    rw [if_neg this]
  · unfold y_await; split
    · exact ⟨⟨rfl, rfl⟩, fun _ _ => rfl⟩
    · split <;> exact ⟨⟨rfl, rfl⟩, fun _ _ => rfl⟩
  · unfold y_drop; split <;> exact ⟨⟨rfl, rfl⟩, fun _ _ => rfl⟩
  · unfold y_take; split <;> exact ⟨⟨rfl, rfl⟩, fun _ _ => rfl⟩
theorem y_stk_kp {S' : y_S} {s : Nat} (h : y_kp S S') : y_stk S' s = y_stk S s := by
  unfold y_stk y_over
  rw [h.1.1, h.2 9 (by decide)]
theorem y_bl_kp {S' : y_S} (h : y_kp S S') (g : y_bl S) : y_bl S' := by
  unfold y_bl
  rw [h.1.1, h.2 9 (by decide)]
  exact g
/-! remembers() -/
theorem y_nar01 {x : Int32} (h : x = 0 ∨ x = 1) : vp_nar .boolean x = x := by rcases h with rfl | rfl <;> rfl
theorem m_reml (hb : ∀ i, i < 12 → zA V 49 i = 0 ∨ zA V 49 i = 1) : ∀ (r i n : Nat) (V1 : zV), i + r = 12 → r + 1 ≤ n → y_fr [] [64, 65] V V1 → (∀ j, j < i → zA V1 64 j = zA V 49 j ∧ zA V1 65 j = zA V 52 j) →
    ∃ V', fX12_remembers_l2 F n V1 (nI i) = some V' ∧ (∀ j, j < 12 → zA V' 64 j = zA V 49 j ∧ zA V' 65 j = zA V 52 j) ∧ (zI V' 0 88 = 0 ∧ zI V' 0 89 = 0 ∧ zI V' 0 97 = 0 ∧ zI V' 0 90 = 0) ∧ y_fr [(0, 88), (0, 89), (0, 97), (0, 90)] [64, 65] V V' := by
  intro r
  induction r with
  | zero =>
    intro i n V1 e hn f h
    obtain ⟨n, rfl⟩ : ∃ n', n = n' + 1 := ⟨n - 1, by omega⟩
    rw [fX12_remembers_l2, if_pos (show (12 : Int32) ≤ nI i from nI_le (a := 12) (by omega) (by omega)), y_let, y_let, y_let, y_let]
    exact ⟨_, rfl, fun j hj => h j (by omega), ⟨rfl, rfl, rfl, rfl⟩, y_fr_trans (y_fr_mono f (fun _ z => absurd z List.not_mem_nil) (fun _ z => z)) (y_fr_I (y_fr_I (y_fr_I (y_fr_I y_fr_refl (by decide)) (by decide)) (by decide)) (by decide))⟩
  | succ r ih =>
    intro i n V1 e hn f h
    obtain ⟨n, rfl⟩ : ∃ n', n = n' + 1 := ⟨n - 1, by omega⟩
    rw [fX12_remembers_l2, if_neg (show ¬ (12 : Int32) ≤ nI i from nI_ge (b := 12) (by omega) (by decide)), y_ck (by omega) (by decide), y_ck (by omega) (by decide), y_let, y_ck (by omega) (by decide), y_ck (by omega) (by decide), y_let, nI_clamp (by omega), nI_1]
    have e49 : zA V1 49 i = zA V 49 i := by rw [f.2.1 49 (by decide)]
    have e52 : ∀ g, zA (zsA V1 64 g) 52 i = zA V 52 i := by
      intro g
      show zA V1 52 i = _
      rw [f.2.1 52 (by decide)]
    rw [e49, y_nar01 (hb i (by omega)), e52]
    refine ih (i + 1) n _ (by omega) (by omega) (y_fr_A (y_fr_A f (by decide)) (by decide)) (fun j hj => ?_)
    have g64 : zA (zsA (zsA V1 64 (upd (zA V1 64) i (zA V 49 i))) 65 (upd (zA (zsA V1 64 (upd (zA V1 64) i (zA V 49 i))) 65) i (zA V 52 i))) 64 j = upd (zA V1 64) i (zA V 49 i) j := rfl
    have g65 : zA (zsA (zsA V1 64 (upd (zA V1 64) i (zA V 49 i))) 65 (upd (zA (zsA V1 64 (upd (zA V1 64) i (zA V 49 i))) 65) i (zA V 52 i))) 65 j = upd (zA V1 65) i (zA V 52 i) j := rfl
    rw [g64, g65, y_upd, y_upd]
    by_cases q : j = i
    · rw [if_pos q, if_pos q, q]; exact ⟨rfl, rfl⟩
    · rw [if_neg q, if_neg q]; exact h j (by omega)
/-- the reference between the modes of a press or a tick -/
def y_mb (lv : Nat) (T : zV) (S : y_S) (V : zV) : Prop := y_mt T lv V ∧ y_mg T S V ∧ y_si T S ∧ zI V 0 88 = y_I S 0 13 ∧ zI V 0 89 = 0
theorem y_mb_w (h : y_mb lv T S V) (h0 : y_I S 0 14 = 0) : y_mw false lv T S V := ⟨h.1, h.2.1, h.2.2.1, h.2.2.2.1, h.2.2.2.2, fun z => (by cases z), fun _ => h0⟩
theorem y_mw_v (h : y_mw tp lv T S V) : y_mb lv T S V := ⟨h.1, h.2.1, h.2.2.1, h.2.2.2.1, h.2.2.2.2.1⟩
/-- what was on when the press or the tick came -/
def y_wo (T : zV) (S : y_S) (V : zV) : Prop := ∀ m, m < y_many T 7 → (zA V 64 m = 0 → y_R S 23 m = -1) ∧ (¬ zA V 64 m = 0 → y_R S 23 m = zA V 65 m)
theorem m_rem (hF : 3000 ≤ F) (hTT : y_T T) (hT : y_mt T lv V) (hg : y_mg T S V) (hs : (S.2.2.2.Nodup ∧ ∀ c ∈ S.2.2.2, c < y_many T 1) ∧ (∀ m, m < 12 → y_R S 19 m = 0 → y_R S 20 m = 0)) :
    ∃ V', fX12_remembers F V = some V' ∧ y_mb lv T (y_beg T S) V' ∧ zI V' 0 97 = 0 ∧ zI V' 0 90 = 0 ∧ y_wo T (y_beg T S) V' ∧ y_fr [(0, 88), (0, 89), (0, 97), (0, 90)] [64, 65] V V' ∧ y_mg T S V' := by
  have h12 := hTT.2.1.1.2
  have hb : ∀ i, i < 12 → zA V 49 i = 0 ∨ zA V 49 i = 1 := by
    intro i hi
    rw [y_mg_r hg (r := 19) (r7 := 49) (n := 12) (by decide) hi]
    exact hg.2.2.2.2.2.2.2.1 i hi
  obtain ⟨V1, a1, a2, a3, a4⟩ := m_reml (F := F) hb 12 0 F V (by omega) (by omega) y_fr_refl (fun j hj => by omega)
  have a1' : fX12_remembers F V = some V1 := a1
  have g1 := y_mg_fr hg a4 (by decide) (by decide)
  have gb : y_mg T (y_beg T S) V1 := by
    obtain ⟨b1, b2, b3, b4, b5, b6, b7, bb, p, hp, b8, b9⟩ := g1
    have r : ∀ r, ¬ r = 23 → y_R (y_beg T S) r = y_R S r := fun r hr => y_rem_row hr
    refine ⟨fun q hq => (b1 q hq).trans ?_, fun q hq i hi => (b2 q hq i hi).trans ?_, fun s hs => ?_, fun c hc => ?_, b5, b6, b7, fun m hm => ?_, p, hp, b8, b9⟩
    · show zI S.1 q.1 q.2.1 = if q.1 = 0 ∧ q.2.1 = 14 then 0 else if q.1 = 0 ∧ q.2.1 = 13 then 0 else zI S.1 q.1 q.2.1
      have := (show ∀ q ∈ y_mnum, ¬ (q.1 = 0 ∧ q.2.1 = 14) ∧ ¬ (q.1 = 0 ∧ q.2.1 = 13) by decide) q hq
      rw [if_neg this.1, if_neg this.2]
    · rw [r q.1 ((show ∀ q ∈ y_mrow, ¬ q.1 = 23 by decide) q hq)]
    · rw [r 6 (by decide), r 8 (by decide)]; exact b3 s hs
    · rw [r 11 (by decide), r 12 (by decide)]; exact b4 c hc
    · rw [r 19 (by decide)]; exact bb m hm
  refine ⟨V1, a1', ⟨y_mt_fr hT a4 (by decide) (by decide), gb, ⟨hs.1, fun m hm => ?_, Or.inl rfl, 0, by omega, rfl⟩, a3.1, a3.2.1⟩, a3.2.2.1, a3.2.2.2, fun m hm => ?_, a4, g1⟩
  · have e19 : y_R (y_beg T S) 19 = y_R S 19 := y_rem_row (by decide)
    have e20 : y_R (y_beg T S) 20 = y_R S 20 := y_rem_row (by decide)
    rw [e19, e20]
    exact hs.2 m hm
  · have e23 : y_R (y_beg T S) 23 m = if m < y_many T 7 then (if y_R S 19 m = 0 then -1 else y_R S 22 m) else 0 := rfl
    have c1 := a2 m (by omega)
    rw [y_mg_r hg (r := 19) (r7 := 49) (n := 12) (by decide) (show m < 12 by omega), y_mg_r hg (r := 22) (r7 := 52) (n := 12) (by decide) (show m < 12 by omega)] at c1
    rw [e23, if_pos hm, c1.1, c1.2]
    exact ⟨fun z => by rw [if_pos z], fun z => by rw [if_neg z]⟩
theorem y_hl_dead {s : Nat} (h : y_dead S) (l : List Nat) : y_hl T s l S = S := by
  induction l with
  | nil => rfl
  | cons m l ih =>
    rw [y_hl, y_rR_dead h]
    split
    · split <;> exact ih
    · rfl
def y_pz : List (Nat × Nat) := (0, 66) :: (0, 69) :: y_dz
def y_py : List Nat := 47 :: y_dy
theorem m_hitl (hF : 3000 ≤ F) (hTT : y_T T) (hax : y_ax T) (hmo : ∀ m, m < y_many T 7 → y_hd T m ≤ y_hd T (m + 1)) (hod : ∀ i, i < y_many T 7 → zA V' 56 i = zA T 12 i) {K s : Nat} (hK : K + 3000 < 2 ^ 31) (hs : s < 2 ^ 31) : ∀ (r i n : Nat) (S : y_S) (V : zV), i + r = y_many T 7 → r + 1 ≤ n → (∀ i, i < y_many T 7 → zA V 56 i = zA T 12 i) → y_mb lv T S V → zI V 0 97 = y_I S 0 14 → zI V 0 90 = 0 → y_wo T S V → y_ob K S → y_mst T S V → y_bl S →
    ∃ V', fX12_press_l147 F n V (nI s) (nI i) = some (1, V') ∧ y_mg T (y_end T (y_hl T s ((List.range' i r).map fun i => (zA T 12 i).toNatClampNeg) S)) V' ∧ y_mst T (y_end T (y_hl T s ((List.range' i r).map fun i => (zA T 12 i).toNatClampNeg) S)) V' ∧ y_fw y_pz y_py V V' ∧ y_si T (y_hl T s ((List.range' i r).map fun i => (zA T 12 i).toNatClampNeg) S) ∧ ∃ p, p ≤ 3 ∧ y_I (y_hl T s ((List.range' i r).map fun i => (zA T 12 i).toNatClampNeg) S) 14 7 = nI p := by
  intro r
  have h7 := hTT.2.1.1
  -- the end of the press
  have fin : ∀ (S : y_S) (V : zV), y_mt T lv V → y_mg T S V → y_si T S → y_mst T S V → y_bl S → ∃ V', fX12_press_b226 F V = some (1, V') ∧ y_mg T (y_end T S) V' ∧ y_mst T (y_end T S) V' ∧ y_fw y_pz y_py V V' ∧ y_si T S ∧ ∃ p, p ≤ 3 ∧ y_I S 14 7 = nI p := by
    intro S V a1 a2 a3 a4 a5
    have a2' := a2
    obtain ⟨-, -, -, -, -, -, -, -, p, hp, g8, -⟩ := a2'
    obtain ⟨V1, b1, b2, b3, b4⟩ := m_asks (F := F) (lv := lv) hF hTT a1 a2 a4 a5 a3.2.1
    rw [fX12_press_b226, b1, y_bd]
    exact ⟨V1, rfl, b2, b3, y_fw_mono b4 (by decide) (by decide), a3, p, hp, g8⟩
  induction r with
  | zero =>
    intro i n S V e hn hod h h97 h90 hwo hob hst hbl
    obtain ⟨n, rfl⟩ : ∃ n', n = n' + 1 := ⟨n - 1, by omega⟩
    rw [fX12_press_l147, show (7 : Int32) = nI 7 from rfl, m_sort h.1 (by decide), y_bd, h7.1, if_pos (nI_le (by omega) (by omega))]
    exact fin S V h.1 h.2.1 h.2.2.1 hst hbl
  | succ r ih =>
    intro i n S V e hn hod h h97 h90 hwo hob hst hbl
    obtain ⟨n, rfl⟩ : ∃ n', n = n' + 1 := ⟨n - 1, by omega⟩
    obtain ⟨m, hm, em⟩ := hTT.2.2.2.2.2.2 i (by omega)
    have e56 : zA V 56 i = nI m := (hod i (by omega)).trans em
    rw [fX12_press_l147, show (7 : Int32) = nI 7 from rfl, m_sort h.1 (by decide), y_bd, h7.1, if_neg (nI_ge (by omega) (by omega)), h97, List.range'_succ, List.map_cons, y_hl]
    by_cases q : y_I S 0 14 = 0
    rotate_left
    · rw [if_neg q, if_neg q]; exact fin S V h.1 h.2.1 h.2.2.1 hst hbl
    have hm12 : m < 12 := by omega
    have r52 : zA V 52 m = y_R S 22 m := y_mg_r h.2.1 (r := 22) (r7 := 52) (n := 12) (by decide) hm12
    rw [if_pos q, if_pos q, h.2.2.2.2, if_pos rfl, y_ck (by omega) (by decide), y_let]
    simp only [nI_clamp (show i < 2 ^ 31 by omega), e56, em, nI_clamp (show m < 2 ^ 31 by omega), y_ck hm12 (by decide)]
    have next : ∀ (S1 : y_S) (V1 : zV), (∀ i, i < y_many T 7 → zA V1 56 i = zA T 12 i) → y_mb lv T S1 V1 → zI V1 0 97 = y_I S1 0 14 → zI V1 0 90 = 0 → y_wo T S1 V1 → y_ob K S1 → y_mst T S1 V1 → y_bl S1 → y_fw y_pz y_py V V1 →
        ∃ V', fX12_press_b220 F (fX12_press_l147 F n) V1 (nI s) (nI i) = some (1, V') ∧ y_mg T (y_end T (y_hl T s ((List.range' (i + 1) r).map fun i => (zA T 12 i).toNatClampNeg) S1)) V' ∧ y_mst T (y_end T (y_hl T s ((List.range' (i + 1) r).map fun i => (zA T 12 i).toNatClampNeg) S1)) V' ∧ y_fw y_pz y_py V V' ∧ y_si T (y_hl T s ((List.range' (i + 1) r).map fun i => (zA T 12 i).toNatClampNeg) S1) ∧ ∃ p, p ≤ 3 ∧ y_I (y_hl T s ((List.range' (i + 1) r).map fun i => (zA T 12 i).toNatClampNeg) S1) 14 7 = nI p := by
      intro S1 V1 a0 a1 a2 a3 a4 a5 a6 a7 a8
      rw [fX12_press_b220, nI_1]
      obtain ⟨V2, b1, b2, b3, b4, b5⟩ := ih (i + 1) n S1 V1 (by omega) (by omega) a0 a1 a2 a3 a4 a5 a6 a7
      exact ⟨V2, b1, b2, b3, y_fw_trans a8 b4, b5⟩
    obtain ⟨w1, w2⟩ := hwo m hm
    by_cases q64 : zA V 64 m = 0
    · have : ¬ y_R S 23 m = y_R S 22 m := by
        rw [w1 q64]
        obtain ⟨j, hj, ej⟩ := hob.2 m hm12
        rw [ej]
        have hac : y_ac S ≤ 200 := by obtain ⟨a, ha, e⟩ := hob.1; rw [y_ac_of ha e]; exact ha
        intro z
        have := nI_pos (n := j) (by omega)
        rw [← z] at this
        exact this (by decide)
      rw [if_pos q64, if_neg this]
      exact next S V hod h h97 h90 hwo hob hst hbl y_fw_refl
    rw [if_neg q64, r52, w2 q64]
    by_cases q65 : zA V 65 m = y_R S 22 m
    rotate_left
    · rw [if_neg (fun z => q65 z.symm), if_neg q65]
      exact next S V hod h h97 h90 hwo hob hst hbl y_fw_refl
    rw [if_pos q65.symm, if_pos q65, y_let]
    -- the mode's rules
    have f9 : y_fr [(0, 99)] [] V (zsI V 0 99 0) := y_fr_I y_fr_refl (by decide)
    have hmw : y_mw true lv T S (zsI V 0 99 0) := ⟨y_mt_fr h.1 f9 (by decide) (by decide), y_mg_fr h.2.1 f9 (by decide) (by decide), h.2.2.1, h.2.2.2.1, h.2.2.2.2, fun _ => q.symm, fun z => (by cases z)⟩
    obtain ⟨R, hR, hR3, hh, hcond⟩ := hTT.2.2.2.2.1
    obtain ⟨V2, c1, c2, c3, c4, c5⟩ := m_frame (F := F) (fr := 0) (ev := nI s) hmw.1 (by decide) (show zI (zsI V 0 99 0) 0 90 = nI 0 from h90) hm h7.2 (hh m (by omega)).1
    have w2' : y_mw true lv T S V2 := y_mw_fr hmw c4 (by decide) (by decide) (by decide) (by decide)
    have hfm : y_fm V2 0 m (nI s) (y_hd T m) 0 0 (y_R S 22 m) := by
      have : zA (zsI V 0 99 0) 52 m = y_R S 22 m := r52
      rw [this] at c3; exact c3
    have hdp : y_dp V2 (0 + 1) = 8 - 8 := by
      rw [y_dp_succ, c3.2.1, if_neg (nI_pos hs)]; rfl
    obtain ⟨d1, d2⟩ := m_frun (F := F) (lv := lv) hF hTT hax hmo 8 (Nat.le_refl _) true 0 m (nI s) true S V2 (Nat.zero_le _) w2' c2 hfm hm hdp (fun _ => ⟨rfl, nI_pos hs, q⟩) (fun z => (by cases z))
    have hob2 := y_ob_rR (k := K) h7.2 9 true m (nI s) S hob
    have hkp := y_kp_rR (T := T) 9 true m (nI s) S
    have hac2 : y_ac (y_rR T 9 true m (nI s) S) ≤ 200 := by obtain ⟨a, ha, e⟩ := hob2.1.1; rw [y_ac_of ha e]; exact ha
    have e97 : zI V2 0 97 = 0 := by rw [c4.1 0 97 (by decide)]; exact h97.trans q
    have fV2 : y_fw y_pz y_py V V2 := y_fw_trans (y_fw_of f9 (by decide) (by decide)) (y_fw_of c4 (by decide) (by decide))
    have stk : ∀ V3, y_fw y_dz y_dy V2 V3 → y_mst T (y_rR T 9 true m (nI s) S) V3 := by
      intro V3 f3 s' hs'
      rw [f3.2.1 47 (by decide), c4.2.1 47 (by decide), y_stk_kp hkp]
      exact hst s' hs'
    rcases m_works hF (by have : y_ac (y_rR T (8 + 1) true m (nI s) S) ≤ 200 := hac2; omega) d2 with ⟨V3, i1, i2, i3, i4, i5, i6⟩ | ⟨V3, i1, i2, i3, i4, i5, i6, i7, i8⟩
    · rw [c1, y_bd, i1, y_bd]
      refine next _ V3 (fun j hj => ?_) (y_mw_v i3) (i5 rfl e97) i2 (fun m' hm' => ?_) hob2.1 (stk V3 i4) (y_bl_kp hkp hbl) (y_fw_trans fV2 (y_fw_mono i4 (by decide) (by decide)))
      · rw [i4.2.1 56 (by decide), c4.2.1 56 (by decide)]; exact hod j hj
      · rw [i4.2.1 64 (by decide), i4.2.1 65 (by decide), c4.2.1 64 (by decide), c4.2.1 65 (by decide), hkp.2 23 (by decide)]
        exact hwo m' hm'
    · rw [c1, y_bd, i1, y_bd, fX12_press_b220, nI_1, y_hl_dead i7]
      obtain ⟨n, rfl⟩ : ∃ n', n = n' + 1 := ⟨n - 1, by omega⟩
      have key : fX12_press_l147 F (n + 1) V3 (nI s) (nI (i + 1)) = fX12_press_b226 F V3 := by
        rw [fX12_press_l147, show (7 : Int32) = nI 7 from rfl, m_sort i4 (by decide), y_bd, h7.1]
        by_cases c : y_many T 7 ≤ i + 1
        · rw [if_pos (nI_le c (by omega))]
        · rw [if_neg (nI_ge (by omega) (by omega))]
          by_cases c2 : zI V3 0 97 = 0
          · rw [if_pos c2, i3, if_neg (by decide)]
          · rw [if_neg c2]
      rw [key]
      obtain ⟨V4, j1, j2, j3, j4, j5⟩ := fin _ V3 i4 i5 i6 (stk V3 i8) (y_bl_kp hkp hbl)
      exact ⟨V4, j1, j2, j3, y_fw_trans fV2 (y_fw_trans (y_fw_mono i8 (by decide) (by decide)) j4), j5⟩
end
section
variable {F : Nat} {T : zV} {lv : Nat} {S : y_S} {V V' : zV}
/-- numbers of a state between calls: n presses so far, b a bound of how often modes went off -/
def y_iv (n b : Nat) (T : zV) (S : y_S) : Prop := y_si T S ∧ y_bl S ∧ y_ofb b S ∧ (∀ s, s < 16 → ∃ c j, c ≤ n ∧ j ≤ 5000 ∧ y_R S 6 s = nI c ∧ y_R S 8 s = nI j) ∧
  (∃ t, t ≤ 5000 ∧ y_I S 0 10 = nI t ∧ ∀ d, d < 8 → ∃ c j, c ≤ t ∧ j ≤ t ∧ y_R S 11 d = nI c ∧ y_R S 12 d = nI j) ∧ (y_I S 0 9 = 0 ∨ ¬ y_I S 14 7 ≤ 0)
/-- the reference between calls -/
def y_gm (lv : Nat) (T : zV) (S : y_S) (n : Nat) (V : zV) : Prop := y_mt T lv V ∧ y_mg T S V ∧ y_mst T S V ∧ (∀ i, i < y_many T 7 → zA V 56 i = zA T 12 i) ∧ zI V 0 72 = nI n
theorem y_end_kp : y_I (y_end T S) 0 10 = y_I S 0 10 ∧ (∀ r, ¬ r = 19 ∧ ¬ r = 20 ∧ ¬ r = 22 → y_R (y_end T S) r = y_R S r) ∧ y_I (y_end T S) 0 13 = y_I S 0 13 ∧ y_I (y_end T S) 0 14 = y_I S 0 14 ∧ (y_end T S).2.2.2 = S.2.2.2 := by
  have o : ∀ k, ¬ k = 12 ∧ ¬ k = 9 → ∀ x y, y_I (y_sI (y_sI (y_offs T S) 0 12 x) 0 9 y) 0 k = y_I S 0 k := by
    intro k hk x y
    show (if 0 = 0 ∧ k = 9 then y else if 0 = 0 ∧ k = 12 then x else zI (y_offs T S).1 0 k) = _
    rw [if_neg (fun z => hk.2 z.2), if_neg (fun z => hk.1 z.2)]
    exact y_offs_I (T := T)
  have orow : (y_offs T S).2.2.2 = S.2.2.2 := by
    unfold y_offs
    generalize List.range' 1 (y_many T 7 - 1) = l
    induction l generalizing S with
    | nil => rfl
    | cons m l ih =>
      rw [List.foldl_cons, ih]
      · unfold y_off; split <;> rfl
      · intro k hk x y
        show (if 0 = 0 ∧ k = 9 then y else if 0 = 0 ∧ k = 12 then x else zI (y_offs T (y_off S m).2).1 0 k) = _
        rw [if_neg (fun z => hk.2 z.2), if_neg (fun z => hk.1 z.2)]
        exact y_offs_I (T := T)
  unfold y_end
  split
  · exact ⟨rfl, fun _ _ => rfl, rfl, rfl, rfl⟩
  split
  · split
    · exact ⟨o 10 (by decide) _ _, fun r hr => y_offs_R hr, o 13 (by decide) _ _, o 14 (by decide) _ _, orow⟩
    · refine ⟨?_, fun r hr => y_take_R.trans (y_offs_R hr), y_take_13.trans (o 13 (by decide) _ _), y_take_14.trans (o 14 (by decide) _ _), y_take_row.trans orow⟩
      have : ∀ S, y_I (y_take T S) 0 10 = y_I S 0 10 := fun S => by unfold y_take; split <;> rfl
      exact (this _).trans (o 10 (by decide) _ _)
  · exact ⟨rfl, fun _ _ => rfl, rfl, rfl, rfl⟩
theorem y_move_kp {s : Nat} : (y_move T S s).1 = S.1 ∧ (y_move T S s).2.2.2 = S.2.2.2 := by
  unfold y_move
  split
  · exact ⟨rfl, rfl⟩
  · split <;> exact ⟨rfl, rfl⟩
/-- a press that counts is noted -/
theorem y_mg_took {s : Nat} (hs : s < 16) (h : y_mg T S V) (hc : ∃ c, c < 600 ∧ y_R S 6 s = nI c) : y_mg T (y_took S s) (zsA (zsA (zsA V 44 (upd (zA V 44) s (y_R S 6 s + 1))) 46 (upd (zA V 46) s (y_I S 0 10))) 48 (upd (zA V 48) s (y_I S 0 9))) := by
  obtain ⟨c, hc, ec⟩ := hc
  obtain ⟨g1, g2, g3, g4, g5, g6, g7, gb, p, hp, g8, g9⟩ := h
  have f : y_fr [] [44, 46, 48] V (zsA (zsA (zsA V 44 (upd (zA V 44) s (y_R S 6 s + 1))) 46 (upd (zA V 46) s (y_I S 0 10))) 48 (upd (zA V 48) s (y_I S 0 9))) := y_fr_A (y_fr_A (y_fr_A y_fr_refl (by decide)) (by decide)) (by decide)
  have r : ∀ r, ¬ r = 6 ∧ ¬ r = 8 ∧ ¬ r = 9 → y_R (y_took S s) r = y_R S r := by
    intro r hr
    show (if r = 9 then _ else if r = 8 then _ else if r = 6 then _ else zA S.1 r) = zA S.1 r
    rw [if_neg hr.2.2, if_neg hr.2.1, if_neg hr.1]
  have r6 : y_R (y_took S s) 6 = upd (zA S.1 6) s (y_R S 6 s + 1) := rfl
  have r8 : y_R (y_took S s) 8 = upd (zA S.1 8) s (y_I S 0 10) := rfl
  have r9 : y_R (y_took S s) 9 = upd (zA S.1 9) s (y_I S 0 9) := rfl
  refine ⟨g1, fun q hq i hi => ?_, fun j hj => ?_, fun d hd => ?_, g5, g6, g7, fun m hm => ?_, p, hp, g8, y_ml_fr g9 f List.not_mem_nil List.not_mem_nil (by decide) (by decide)⟩
  · have hq' : q = (1, 43, 16) ∨ q = (6, 44, 16) ∨ q = (7, 45, 16) ∨ q = (9, 48, 16) ∨ q = (11, 53, 8) ∨ q = (19, 49, 12) ∨ q = (20, 50, 12) ∨ q = (21, 51, 12) ∨ q = (22, 52, 12) := by
      have : q ∈ [(1, 43, 16), (6, 44, 16), (7, 45, 16), (9, 48, 16), (11, 53, 8), (19, 49, 12), (20, 50, 12), (21, 51, 12), (22, 52, 12)] := hq
      simpa using this
    have u : ∀ (a b : Nat → Int32) (x : Int32), a i = b i → upd a s x i = upd b s x i := by
      intro a b x e
      rw [y_upd, y_upd]
      by_cases c : i = s
      · rw [if_pos c, if_pos c]
      · rw [if_neg c, if_neg c]; exact e
    rcases hq' with rfl | rfl | rfl | rfl | rfl | rfl | rfl | rfl | rfl
    · exact g2 (1, 43, 16) (by decide) i hi
    · exact u (zA V 44) (zA S.1 6) _ (g2 (6, 44, 16) (by decide) i hi)
    · exact g2 (7, 45, 16) (by decide) i hi
    · exact u (zA V 48) (zA S.1 9) _ (g2 (9, 48, 16) (by decide) i hi)
    · exact g2 (11, 53, 8) (by decide) i hi
    · exact g2 (19, 49, 12) (by decide) i hi
    · exact g2 (20, 50, 12) (by decide) i hi
    · exact g2 (21, 51, 12) (by decide) i hi
    · exact g2 (22, 52, 12) (by decide) i hi
  · show upd (zA V 46) s (y_I S 0 10) j = if upd (zA S.1 6) s (y_R S 6 s + 1) j = 0 then -1 else upd (zA S.1 8) s (y_I S 0 10) j
    rw [y_upd, y_upd, y_upd]
    by_cases c : j = s
    · rw [if_pos c, if_pos c, if_pos c, ec, nI_1, if_neg (nI_ne0 (by omega) (by omega))]
    · rw [if_neg c, if_neg c, if_neg c]; exact g3 j hj
  · rw [r 11 (by decide), r 12 (by decide)]; exact g4 d hd
  · rw [r 19 (by decide)]; exact gb m hm
theorem y_kp_hl {s : Nat} (l : List Nat) : ∀ S : y_S, y_kp S (y_hl T s l S) := by
  induction l with
  | nil => intro S; exact ⟨⟨rfl, rfl⟩, fun _ _ => rfl⟩
  | cons m l ih =>
    intro S
    rw [y_hl]
    split
    · split
      · exact y_kp_trans (y_kp_rR 9 true m (nI s) S) (ih _)
      · exact ih S
    · exact ⟨⟨rfl, rfl⟩, fun _ _ => rfl⟩
theorem y_ob_hl {k s : Nat} (hm : y_many T 7 ≤ 12) (l : List Nat) : ∀ S : y_S, y_ob k S → y_ob k (y_hl T s l S) := by
  induction l with
  | nil => intro S h; exact h
  | cons m l ih =>
    intro S h
    rw [y_hl]
    split
    · split
      · exact ih _ (y_ob_rR hm 9 true m (nI s) S h).1
      · exact ih S h
    · exact h
theorem y_si_end (h : y_si T S) : y_si T (y_end T S) := by
  have h0 := y_si_offs h
  have o : ∀ x y, y_si T (y_sI (y_sI (y_offs T S) 0 12 x) 0 9 y) := fun x y => y_si_of h0 rfl rfl rfl rfl rfl
  unfold y_end
  split
  · exact h
  split
  · split
    · exact o _ _
    · exact y_si_of (o _ _) y_take_row y_take_R y_take_R y_take_13 y_take_14
  · exact h
theorem y_bl_end (h : y_bl S) : y_bl (y_end T S) := by
  obtain ⟨⟨k, hk, ek⟩, h9⟩ := h
  refine ⟨?_, fun s hs => ?_⟩
  · unfold y_end
    rw [ek]
    by_cases q0 : k = 0
    · subst q0; rw [if_pos (show nI 0 = (0 : Int32) from rfl)]; exact ⟨0, by omega, ek⟩
    rw [if_neg (nI_ne0 (by omega) (by omega))]
    split
    · by_cases q3 : k = 3
      · subst q3; rw [if_pos (show nI 3 = (3 : Int32) from rfl)]; exact ⟨0, by omega, rfl⟩
      · rw [if_neg (show ¬ nI k = (3 : Int32) from fun z => q3 ((nI_eq (b := 3) (by omega) (by decide)).mp z)), nI_1]
        refine ⟨k + 1, by omega, ?_⟩
        unfold y_take; split <;> rfl
    · exact ⟨k, hk, ek⟩
  · rw [y_end_kp.2.1 9 (by decide)]; exact h9 s hs
theorem y_alive_end {p : Nat} (hp : p ≤ 3) (hip : y_I S 14 7 = nI p) : y_I (y_end T S) 0 9 = 0 ∨ ¬ y_I (y_end T S) 14 7 ≤ 0 := by
  unfold y_end
  by_cases q0 : y_I S 0 9 = 0
  · rw [if_pos q0]; exact Or.inl q0
  rw [if_neg q0]
  by_cases q1 : y_I S 14 7 ≤ 0
  · rw [if_pos q1]
    by_cases q3 : y_I S 0 9 = 3
    · rw [if_pos q3]; exact Or.inl rfl
    · rw [if_neg q3]
      right
      have e7 : y_I (y_sI (y_sI (y_offs T S) 0 12 0) 0 9 (y_I S 0 9 + 1)) 14 7 = nI p := by
        show y_I (y_offs T S) 14 7 = nI p
        rw [y_offs_I (T := T)]; exact hip
      have hp0 : p = 0 := by
        rw [hip] at q1
        have := (nI_leI (b := 0) (by omega) (by decide)).mp q1
        omega
      subst hp0
      unfold y_take
      rw [e7, if_neg (show ¬ (3 : Int32) ≤ nI 0 by decide)]
      show ¬ (nI 0 + 1 : Int32) ≤ 0
      decide
  · rw [if_neg q1]; exact Or.inr q1
theorem y_ofb_end {b : Nat} (hm : y_many T 7 ≤ 12) (h : y_ofb b S) : y_ofb (b + 12) (y_end T S) := by
  have h0 := y_ofb_offs hm h
  unfold y_end
  split
  · exact y_ofb_mono h (by omega)
  split
  · split
    · exact y_ofb_eq h0 rfl
    · exact y_ofb_eq h0 (y_take_R.trans rfl)
  · exact y_ofb_mono h (by omega)
/-- a press of a switch that there is -/
theorem m_press (hF : 3000 ≤ F) (hTT : y_T T) (hax : y_ax T) (hmo : ∀ m, m < y_many T 7 → y_hd T m ≤ y_hd T (m + 1)) {n b s : Nat} (hn : n < 600) (hb : b + 6000 < 2 ^ 31) (hs : s < y_many T 0) (h : y_gm lv T S n V) (hiv : y_iv n b T S) (h64 : ¬ zI V 0 64 = 0) :
    ∃ V', fX12_press F V (nI s) = some ((if (y_hit T S s).1 = true then 1 else 0), V') ∧ y_gm lv T (y_hit T S s).2 (n + 1) V' ∧ y_iv (n + 1) (b + 2500) T (y_hit T S s).2 ∧ y_fw ((0, 72) :: y_pz) (44 :: 45 :: 46 :: 48 :: 64 :: 65 :: y_py) V V' := by
  obtain ⟨hT, hg, hst, hod, h72⟩ := h
  obtain ⟨i1, i2, i3, i4, ⟨t, ht, et, i5⟩, i6⟩ := hiv
  have h0 := hTT.2.1.2.2
  have hlv := hT.1.1
  obtain ⟨c, j, hc, hj, ec, ej⟩ := i4 s (by omega)
  have e66 := y_mg_at hg (r := 0) (k := 9) (k7 := 66) (by decide)
  have e68 := y_mg_at hg (r := 0) (k := 10) (k7 := 68) (by decide)
  have r45 : zA V 45 s = y_R S 7 s := y_mg_r hg (r := 7) (r7 := 45) (n := 16) (by decide) (show s < 16 by omega)
  have r44 : zA V 44 s = y_R S 6 s := y_mg_r hg (r := 6) (r7 := 44) (n := 16) (by decide) (show s < 16 by omega)
  have r46 := hg.2.2.1 s (show s < 16 by omega)
  have r12 : zA V 12 (16 * lv + s) = zA T 2 s := hT.2.2.2.2.2.1.1 s hs
  have f1 : y_fr [(0, 72)] [45] V (zsA (zsI V 0 72 (nI (n + 1))) 45 (upd (zA (zsI V 0 72 (nI (n + 1))) 45) s (y_R S 7 s + 1))) := y_fr_A (y_fr_I y_fr_refl (by decide)) (by decide)
  have f0 : y_fr [(0, 72)] [] V (zsI V 0 72 (nI (n + 1))) := y_fr_I y_fr_refl (by decide)
  have g1 : y_mg T (y_sR S 7 s (y_R S 7 s + 1)) (zsA (zsI V 0 72 (nI (n + 1))) 45 (upd (zA (zsI V 0 72 (nI (n + 1))) 45) s (y_R S 7 s + 1))) := y_mg_A (y_mg_fr hg f0 (by decide) (by decide)) (by decide) (fun z => by omega)
  have hsort : fX12_sort F V 0 = some (zA T 1 0) := m_sort (k := 0) hT (by decide)
  have e45 : ∀ x, zA (zsI V 0 72 x) 45 s = y_R S 7 s := fun _ => r45
  unfold fX12_press
  rw [if_neg (nI_pos (by omega)), if_neg h64, hsort, y_bd, h0.1, if_neg (nI_ge hs (by omega)), h72, if_neg (show ¬ nI n = (600 : Int32) from fun z => by have := (nI_eq (b := 600) (by omega) (by decide)).mp z; omega), y_let, y_ck (by omega) (by decide), y_ck (by omega) (by decide), y_let, nI_1]
  simp only [nI_clamp (show s < 2 ^ 31 by omega), e45]
  have h721 : zI (zsA (zsI V 0 72 (nI (n + 1))) 45 (upd (zA (zsI V 0 72 (nI (n + 1))) 45) s (y_R S 7 s + 1))) 0 72 = nI (n + 1) := rfl
  generalize zsA (zsI V 0 72 (nI (n + 1))) 45 (upd (zA (zsI V 0 72 (nI (n + 1))) 45) s (y_R S 7 s + 1)) = V1 at f1 g1 h721 ⊢
  have hT1 := y_mt_fr hT f1 (by decide) (by decide)
  have s1 : y_si T (y_sR S 7 s (y_R S 7 s + 1)) := y_si_of i1 rfl rfl rfl rfl rfl
  rw [f1.1 0 66 (by decide), e66]
  unfold y_hit
  -- it doesn't count
  have no : ∃ V', (some ((0 : Int32), V1) : Option (Int32 × zV)) = some ((if (false, y_sR S 7 s (y_R S 7 s + 1)).1 = true then 1 else 0), V') ∧ y_gm lv T (false, y_sR S 7 s (y_R S 7 s + 1)).2 (n + 1) V' ∧ y_iv (n + 1) (b + 2500) T (false, y_sR S 7 s (y_R S 7 s + 1)).2 ∧ y_fw ((0, 72) :: y_pz) (44 :: 45 :: 46 :: 48 :: 64 :: 65 :: y_py) V V' := by
    refine ⟨V1, rfl, ⟨hT1, g1, fun s' hs' => ?_, fun i hi => ?_, h721⟩, ⟨s1, i2, y_ofb_mono i3 (by omega), fun s' hs' => ?_, ⟨t, ht, et, i5⟩, i6⟩, y_fw_of f1 (by decide) (by decide)⟩
    · rw [f1.2.1 47 (by decide)]; exact hst s' hs'
    · rw [f1.2.1 56 (by decide)]; exact hod i hi
    · obtain ⟨c, j, a1, a2, a3, a4⟩ := i4 s' hs'
      exact ⟨c, j, by omega, a2, a3, a4⟩
  -- it counts
  have yes : ∃ V', fX12_press_b99 F V1 (nI s) = some (1, V') ∧ y_gm lv T (y_end T (y_hl T s (y_ord T) (y_beg T (y_move T (y_took (y_sR S 7 s (y_R S 7 s + 1)) s) s)))) (n + 1) V' ∧ (¬ y_I S 0 9 = 0 → y_iv (n + 1) (b + 2500) T (y_end T (y_hl T s (y_ord T) (y_beg T (y_move T (y_took (y_sR S 7 s (y_R S 7 s + 1)) s) s))))) ∧ y_fw ((0, 72) :: y_pz) (44 :: 45 :: 46 :: 48 :: 64 :: 65 :: y_py) V V' ∨ y_I S 0 9 = 0 := by
    by_cases qb : y_I S 0 9 = 0
    · exact ⟨V1, Or.inr qb⟩
    have g2 := y_mg_took (s := s) (by omega) g1 ⟨c, by omega, ec⟩
    have a6 : y_R (y_sR S 7 s (y_R S 7 s + 1)) 6 s = y_R S 6 s := rfl
    have a10 : y_I (y_sR S 7 s (y_R S 7 s + 1)) 0 10 = y_I S 0 10 := rfl
    have a9 : y_I (y_sR S 7 s (y_R S 7 s + 1)) 0 9 = y_I S 0 9 := rfl
    rw [a6, a10, a9] at g2
    have e44 : zA V1 44 s = y_R S 6 s := by rw [f1.2.1 44 (by decide)]; exact r44
    have e68' : zI V1 0 68 = y_I S 0 10 := (f1.1 0 68 (by decide)).trans e68
    have e66' : zI V1 0 66 = y_I S 0 9 := (f1.1 0 66 (by decide)).trans e66
    have hb99 : fX12_press_b99 F V1 (nI s) = zbd (fX12_passes F (zsA (zsA (zsA (zsA V1 44 (upd (zA V1 44) s (y_R S 6 s + 1))) 46 (upd (zA V1 46) s (y_I S 0 10))) 48 (upd (zA V1 48) s (y_I S 0 9))) 47 (upd (zA V1 47) s 0)) (nI s)) fun q35 => zbd (fX12_remembers F q35) fun q37 => fX12_press_l147 F F q37 (nI s) 0 := by
      unfold fX12_press_b99
      simp only [y_ck (show s < 16 by omega) (by decide), y_let, nI_clamp (show s < 2 ^ 31 by omega), y_get, reduceIte, Nat.reduceEqDiff, e44, e68', e66', y_bool0]
    have f2 : y_fr [] [44, 46, 48, 47] V1 (zsA (zsA (zsA (zsA V1 44 (upd (zA V1 44) s (y_R S 6 s + 1))) 46 (upd (zA V1 46) s (y_I S 0 10))) 48 (upd (zA V1 48) s (y_I S 0 9))) 47 (upd (zA V1 47) s 0)) := y_fr_A (y_fr_A (y_fr_A (y_fr_A y_fr_refl (by decide)) (by decide)) (by decide)) (by decide)
    have g3 := y_mg_fr g2 (y_fr_A (sc := []) (ar := [47]) (r := 47) (f := upd (zA V1 47) s 0) y_fr_refl (by decide)) (fun _ _ => List.not_mem_nil) (by decide)
    have e47 : ∀ s', zA (zsA (zsA (zsA (zsA V1 44 (upd (zA V1 44) s (y_R S 6 s + 1))) 46 (upd (zA V1 46) s (y_I S 0 10))) 48 (upd (zA V1 48) s (y_I S 0 9))) 47 (upd (zA V1 47) s 0)) 47 s' = if s' = s then 0 else zA V1 47 s' := fun _ => rfl
    rw [hb99]
    generalize zsA (zsA (zsA (zsA V1 44 (upd (zA V1 44) s (y_R S 6 s + 1))) 46 (upd (zA V1 46) s (y_I S 0 10))) 48 (upd (zA V1 48) s (y_I S 0 9))) 47 (upd (zA V1 47) s 0) = V2 at f2 g3 e47 ⊢
    have hT2 := y_mt_fr hT1 f2 List.not_mem_nil (by decide)
    have st3 : y_si T (y_took (y_sR S 7 s (y_R S 7 s + 1)) s) := y_si_of s1 rfl rfl rfl rfl rfl
    -- what it noted
    have k6 : ∀ s', y_R (y_took (y_sR S 7 s (y_R S 7 s + 1)) s) 6 s' = if s' = s then y_R S 6 s + 1 else y_R S 6 s' := fun _ => rfl
    have k8 : ∀ s', y_R (y_took (y_sR S 7 s (y_R S 7 s + 1)) s) 8 s' = if s' = s then y_I S 0 10 else y_R S 8 s' := fun _ => rfl
    have k9 : ∀ s', y_R (y_took (y_sR S 7 s (y_R S 7 s + 1)) s) 9 s' = if s' = s then y_I S 0 9 else y_R S 9 s' := fun _ => rfl
    have kk : ∀ r, ¬ r = 6 ∧ ¬ r = 7 ∧ ¬ r = 8 ∧ ¬ r = 9 → y_R (y_took (y_sR S 7 s (y_R S 7 s + 1)) s) r = y_R S r := by
      intro r hr
      show (if r = 9 then _ else if r = 8 then _ else if r = 6 then _ else if r = 7 then _ else zA S.1 r) = zA S.1 r
      rw [if_neg hr.2.2.2, if_neg hr.2.2.1, if_neg hr.1, if_neg hr.2.1]
    have kI : ∀ r k, y_I (y_took (y_sR S 7 s (y_R S 7 s + 1)) s) r k = y_I S r k := fun _ _ => rfl
    generalize y_took (y_sR S 7 s (y_R S 7 s + 1)) s = S2 at g3 st3 k6 k8 k9 kk kI ⊢
    obtain ⟨V3, b1, b2, b3⟩ := m_passes (F := F) (s := s) hF hTT.2.2.1 hT2 g3
    have hT3 := y_mt_fr hT2 b3 (by decide) (by decide)
    have mv := y_move_kp (T := T) (S := S2) (s := s)
    have mR : ∀ r, y_R (y_move T S2 s) r = y_R S2 r := fun r => by unfold y_R; rw [mv.1]
    have mI : ∀ r k, y_I (y_move T S2 s) r k = y_I S2 r k := fun r k => by unfold y_I; rw [mv.1]
    have st4 : y_si T (y_move T S2 s) := y_si_of st3 mv.2 (mR 19) (mR 20) (mI 0 13) (mI 0 14)
    obtain ⟨V4, c1, c2, c3, c4, c5, c6, c7⟩ := m_rem (F := F) hF hTT hT3 b2 ⟨st4.1, st4.2.1⟩
    have bR : ∀ r, ¬ r = 23 → y_R (y_beg T (y_move T S2 s)) r = y_R S2 r := fun r hr => (y_rem_row hr).trans (mR r)
    have bI : ∀ k, ¬ k = 13 ∧ ¬ k = 14 → y_I (y_beg T (y_move T S2 s)) 0 k = y_I S 0 k := by
      intro k hk
      show (if 0 = 0 ∧ k = 14 then 0 else if 0 = 0 ∧ k = 13 then 0 else zI (y_move T S2 s).1 0 k) = _
      rw [if_neg (fun z => hk.2 z.2), if_neg (fun z => hk.1 z.2)]
      exact (mI 0 k).trans (kI 0 k)
    have hbl4 : y_bl (y_beg T (y_move T S2 s)) := by
      obtain ⟨⟨kb, hkb, ekb⟩, h9⟩ := i2
      refine ⟨⟨kb, hkb, (bI 9 (by decide)).trans ekb⟩, fun s' hs' => ?_⟩
      rw [bR 9 (by decide), k9]
      split
      · exact ⟨kb, hkb, ekb⟩
      · exact h9 s' hs'
    have hst4 : y_mst T (y_beg T (y_move T S2 s)) V4 := by
      intro s' hs'
      have e1 : zA V4 47 s' = if s' = s then 0 else zA V 47 s' := by
        rw [c6.2.1 47 (by decide), b3.2.1 47 (by decide), e47, f1.2.1 47 (by decide)]
      rw [e1]
      unfold y_stk y_over
      rw [bI 9 (by decide), bR 9 (by decide), k9]
      by_cases q : s' = s
      · rw [if_pos q, if_pos q]
        obtain ⟨⟨kb, hkb, ekb⟩, -⟩ := i2
        rw [ekb] at qb ⊢
        have hk0 : ¬ kb = 0 := fun z => qb (by rw [z]; rfl)
        have hkc : kb = 1 ∨ kb = 2 ∨ kb = 3 := by omega
        rcases hkc with rfl | rfl | rfl <;> rfl
      · rw [if_neg q, if_neg q]; exact hst s' hs'
    have hob4 : y_ob b (y_beg T (y_move T S2 s)) := by
      refine ⟨⟨0, by omega, rfl⟩, ?_⟩
      refine y_ofb_mono (b := b) (y_ofb_eq i3 ?_) (by omega)
      rw [bR 22 (by decide), kk 22 (by decide)]
    have hod4 : ∀ i, i < y_many T 7 → zA V4 56 i = zA T 12 i := by
      intro i hi
      rw [c6.2.1 56 (by decide), b3.2.1 56 (by decide), f2.2.1 56 (by decide), f1.2.1 56 (by decide)]; exact hod i hi
    obtain ⟨V5, d1, d2, d3, d4, d5, p, hp, hip⟩ := m_hitl (F := F) (V' := V4) hF hTT hax hmo hod4 (K := b) (s := s) (by omega) (by omega) (y_many T 7) 0 F _ V4 (by omega) (by have := hTT.2.1.1.2; omega) hod4 c2 (by rw [c3]; rfl) c4 c5 hob4 hst4 hbl4
    rw [← y_ord_eq] at d2 d3 d5 hip
    have d1' : fX12_press_l147 F F V4 (nI s) 0 = some (1, V5) := d1
    have fV : y_fw ((0, 72) :: y_pz) (44 :: 45 :: 46 :: 48 :: 64 :: 65 :: y_py) V V5 := y_fw_trans (y_fw_of f1 (by decide) (by decide)) (y_fw_trans (y_fw_of f2 (fun _ z => absurd z List.not_mem_nil) (by decide)) (y_fw_trans (y_fw_of b3 (by decide) (by decide)) (y_fw_trans (y_fw_of c6 (by decide) (by decide)) (y_fw_mono d4 (by decide) (by decide)))))
    refine ⟨V5, Or.inl ⟨?_, ⟨y_mt_eq hT (fV.1 0 18 (by decide)) (fun r hr => fV.2.1 r ((show ∀ r ∈ y_st, r ∉ 44 :: 45 :: 46 :: 48 :: 64 :: 65 :: y_py by decide) r hr)), d2, d3, fun i hi => ?_, ?_⟩, fun _ => ?_, fV⟩⟩
    · rw [b1, y_bd, c1, y_bd]; exact d1'
    · rw [fV.2.1 56 (by decide)]; exact hod i hi
    · rw [d4.1 0 72 (by decide), c6.1 0 72 (by decide), b3.1 0 72 (by decide), f2.1 0 72 List.not_mem_nil]; exact h721
    · have kp := y_kp_hl (T := T) (s := s) (y_ord T) (y_beg T (y_move T S2 s))
      have obh := y_ob_hl (T := T) (s := s) hTT.2.1.1.2 (y_ord T) _ hob4
      have hac : y_ac (y_hl T s (y_ord T) (y_beg T (y_move T S2 s))) ≤ 200 := by obtain ⟨a, ha, e⟩ := obh.1; rw [y_ac_of ha e]; exact ha
      refine ⟨y_si_end d5, y_bl_end (y_bl_kp kp hbl4), y_ofb_mono (y_ofb_end hTT.2.1.1.2 obh.2) (by omega), fun s' hs' => ?_, ⟨t, ht, ?_, fun d hd => ?_⟩, y_alive_end hp hip⟩
      · rw [y_end_kp.2.1 6 (by decide), y_end_kp.2.1 8 (by decide), kp.2 6 (by decide), kp.2 8 (by decide), bR 6 (by decide), bR 8 (by decide), k6, k8]
        by_cases q : s' = s
        · rw [if_pos q, if_pos q]
          exact ⟨c + 1, t, by omega, by omega, by rw [ec, nI_1], et⟩
        · rw [if_neg q, if_neg q]
          obtain ⟨c', j', a1, a2, a3, a4⟩ := i4 s' hs'
          exact ⟨c', j', by omega, a2, a3, a4⟩
      · rw [y_end_kp.1, kp.1.2, bI 10 (by decide)]; exact et
      · rw [y_end_kp.2.1 11 (by decide), y_end_kp.2.1 12 (by decide), kp.2 11 (by decide), kp.2 12 (by decide), bR 11 (by decide), bR 12 (by decide), kk 11 (by decide), kk 12 (by decide)]
        exact i5 d hd
  by_cases q9 : y_I S 0 9 = 0
  · rw [if_pos q9, if_neg (show ¬ (¬ y_I S 0 9 = 0 ∧ (y_R S 6 s ≤ 0 ∨ zA T 2 s ≤ y_I S 0 10 - y_R S 8 s)) from fun z => z.1 q9)]
    exact no
  obtain ⟨V5, hyes⟩ := yes
  obtain ⟨y1, y2, y3, y4⟩ := hyes.resolve_right q9
  have e46 : zA V1 46 s = if y_R S 6 s = 0 then -1 else y_R S 8 s := by rw [f1.2.1 46 (by decide)]; exact r46
  have e68' : zI V1 0 68 = y_I S 0 10 := (f1.1 0 68 (by decide)).trans e68
  have e12 : zA V1 12 (16 * lv + s) = zA T 2 s := by rw [f1.2.1 12 (by decide)]; exact r12
  rw [if_neg q9, y_ck (by omega) (by decide), e46]
  by_cases q6 : y_R S 6 s = 0
  · rw [if_pos q6, if_pos rfl, if_pos (show ¬ y_I S 0 9 = 0 ∧ (y_R S 6 s ≤ 0 ∨ zA T 2 s ≤ y_I S 0 10 - y_R S 8 s) from ⟨q9, Or.inl (by rw [q6]; decide)⟩)]
    exact ⟨V5, y1, y2, y3 q9, y4⟩
  have hc0 : ¬ y_R S 6 s ≤ 0 := by
    rw [ec] at q6 ⊢
    exact nI_nle (Nat.pos_of_ne_zero fun z => q6 (by rw [z]; rfl)) (by omega)
  have h8 : ¬ y_R S 8 s = -1 := by
    rw [ej]
    intro z
    have := nI_pos (n := j) (by omega)
    rw [z] at this
    exact this (by decide)
  rw [if_neg q6, if_neg h8, y_ck (by omega) (by decide), hT1.1.2, show (16 : Int32) = nI 16 from rfl, pk_mul, nI_add, y_ck (by omega) (by decide), nI_clamp (by omega), e12, e68']
  by_cases q2 : zA T 2 s ≤ y_I S 0 10 - y_R S 8 s
  · rw [if_pos q2, if_pos (show ¬ y_I S 0 9 = 0 ∧ (y_R S 6 s ≤ 0 ∨ zA T 2 s ≤ y_I S 0 10 - y_R S 8 s) from ⟨q9, Or.inr q2⟩)]
    exact ⟨V5, y1, y2, y3 q9, y4⟩
  · rw [if_neg q2, if_neg (show ¬ (¬ y_I S 0 9 = 0 ∧ (y_R S 6 s ≤ 0 ∨ zA T 2 s ≤ y_I S 0 10 - y_R S 8 s)) from fun z => z.2.elim hc0 q2)]
    exact no
end
