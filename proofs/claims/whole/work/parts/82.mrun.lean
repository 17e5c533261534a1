/-! ===== a frame of the reference runs to its end ===== -/
def y_rec (T : zV) (l : Nat) : Nat → Int32 → y_S → y_S := fun m ev S => y_rR T l false m ev S
/-- what is left of a frame: its acts A, then its rules rs -/
def y_run (T : zV) (rec : Nat → Int32 → y_S → y_S) (top : Bool) (m : Nat) (ev o : Int32) (A : List y_A) (rs : List Nat) (S : y_S) : y_S :=
  if (¬ ev = -2 ∧ ¬ y_R (y_as T rec top m A S) 22 m = o) ∨ (top = true ∧ ¬ y_I (y_as T rec top m A S) 0 14 = 0) then y_as T rec top m A S else y_rl T rec top m ev o rs (y_as T rec top m A S)
def y_dead (S : y_S) : Prop := ¬ y_I S 0 13 < 200 ∧ y_I S 0 11 = 1
section
variable {F : Nat} {T : zV} {lv : Nat} {S : y_S} {V V' : zV} {tp : Bool}
theorem y_as_dead {rec : Nat → Int32 → y_S → y_S} {top : Bool} {m : Nat} (h : y_dead S) (A : List y_A) : y_as T rec top m A S = S := by
  cases A with
  | nil => rfl
  | cons a l => rw [y_as, if_neg h.1]; exact y_sI_same h.2
theorem y_rl_dead {rec : Nat → Int32 → y_S → y_S} {top : Bool} {m : Nat} {ev o : Int32} (h : y_dead S) (rs : List Nat) : y_rl T rec top m ev o rs S = S := by
  induction rs with
  | nil => rfl
  | cons r l ih =>
    rw [y_rl, y_as_dead h]
    split
    · split
      · rfl
      · exact ih
    · exact ih
theorem y_rR_dead {top : Bool} {m : Nat} {ev : Int32} (h : y_dead S) (l : Nat) : y_rR T l top m ev S = S := by
  cases l with
  | zero => rfl
  | succ l => rw [y_rR]; exact y_rl_dead h _
theorem y_run_dead {rec : Nat → Int32 → y_S → y_S} {top : Bool} {m : Nat} {ev o : Int32} (h : y_dead S) (A : List y_A) (rs : List Nat) : y_run T rec top m ev o A rs S = S := by
  unfold y_run
  rw [y_as_dead h, y_rl_dead h]
  split <;> rfl
def y_dz : List (Nat × Nat) := [(0, 71), (0, 85), (0, 99), (0, 61), (0, 59), (0, 67), (0, 88), (0, 89), (0, 90), (0, 97), (0, 70)]
def y_dy : List Nat := [43, 49, 50, 51, 52, 55, 63, 40, 41, 42, 57, 58, 59, 60, 61, 62]
/-- how works() comes on: the frame is off the pile, or the press is ENDLESS -/
def y_got (F : Nat) (tp : Bool) (lv : Nat) (T : zV) (fr : Nat) (top : Bool) (V : zV) (S' : y_S) (k : Nat) : Prop :=
  (∃ V' c, c ≤ k ∧ (∀ n, fX12_works_l0 F (n + c) V = fX12_works_l0 F n V') ∧ zI V' 0 90 = nI fr ∧ y_mw tp lv T S' V' ∧ (∀ q ∈ y_ff, ∀ i, i < fr → zA V' q i = zA V q i) ∧ y_fw y_dz y_dy V V' ∧ (top = true → zI V 0 97 = 0 → zI V' 0 97 = y_I S' 0 14) ∧ (top = false → zI V' 0 97 = zI V 0 97)) ∨
  (∃ V' c, c ≤ k + 2 ∧ (∀ n, fX12_works_l0 F (n + c) V = some V') ∧ zI V' 0 90 = 0 ∧ zI V' 0 89 = 1 ∧ y_mt T lv V' ∧ y_mg T S' V' ∧ y_si T S' ∧ y_dead S' ∧ y_fw y_dz y_dy V V')
theorem y_mw_act {a fr b : Nat} (h : y_mw tp lv T S V) (ha : a < 200) (e : y_I S 0 13 = nI a) : y_mw tp lv T (y_sI S 0 13 (nI (a + 1))) (zsA (zsI V 0 88 (nI (a + 1))) 60 (upd (zA (zsI V 0 88 (nI (a + 1))) 60) fr (nI b))) := by
  obtain ⟨h1, h2, h3, h4, h5, h6, h7⟩ := h
  have f : y_fr [(0, 88)] [60] V (zsA (zsI V 0 88 (nI (a + 1))) 60 (upd (zA (zsI V 0 88 (nI (a + 1))) 60) fr (nI b))) := y_fr_A (y_fr_I y_fr_refl (by decide)) (by decide)
  have g := y_mg_fr h2 f (by decide) (by decide)
  obtain ⟨g1, g2, g3, g4, g5, g6, g7, gb, p, hp, g8, g9⟩ := g
  refine ⟨y_mt_fr h1 f (by decide) (by decide), ⟨fun z hz => (g1 z hz).trans ?_, g2, g3, g4, g5, g6, g7, gb, p, hp, g8, g9⟩, ⟨h3.1, h3.2.1, h3.2.2.1, a + 1, by omega, rfl⟩, rfl, h5, h6, h7⟩
  show zI S.1 z.1 z.2.1 = if z.1 = 0 ∧ z.2.1 = 13 then nI (a + 1) else zI S.1 z.1 z.2.1
  rw [if_neg ((show ∀ z ∈ y_mnum, ¬ (z.1 = 0 ∧ z.2.1 = 13) by decide) z hz)]
/-- one act is begun -/
theorem m_begin {n fr m r a b e : Nat} {ev o : Int32} (hfr : fr < 12) (h90 : zI V 0 90 = nI (fr + 1)) (h : y_mw tp lv T S V) (hf : y_fm V fr m ev r a e o) (ha : a < e) (he : e ≤ 2000) (hb : b < 200) (e13 : y_I S 0 13 = nI b) :
    fX12_works_l0 F (n + 1) V = zbd (fX12_does F (zsA (zsI V 0 88 (nI (b + 1))) 60 (upd (zA (zsI V 0 88 (nI (b + 1))) 60) fr (nI (a + 1)))) (nI a) (nI m) (nI fr)) fun q22 => fX12_works_l0 F n q22 := by
  obtain ⟨f1, f2, f3, f4, f5, f6⟩ := hf
  have h88 : zI V 0 88 = nI b := h.2.2.2.1.trans e13
  rw [fX12_works_l0, h90, if_neg (nI_nle (by omega) (by omega)), h.2.2.2.2.1, if_pos rfl, y_let, nI_pred, y_ck hfr (by decide), y_ck hfr (by decide)]
  have c1 : ∀ x, zA (zsI V 0 88 x) 60 fr = nI a := fun _ => f4
  have c2 : ∀ x y, zA (zsA (zsI V 0 88 x) 60 (upd (zA (zsI V 0 88 x) 60) fr y)) 60 fr = y := by
    intro x y
    show upd (zA V 60) fr y fr = y
    rw [y_upd, if_pos rfl]
  have c3 : ∀ x y, zA (zsA (zsI V 0 88 x) 60 y) 57 fr = nI m := fun _ _ => f1
  simp only [nI_clamp (show fr < 2 ^ 31 by omega), f4, f5]
  rw [if_neg (nI_ge ha (by omega)), h88, if_neg (show ¬ nI b = (200 : Int32) from fun z => by have := (nI_eq (b := 200) (by omega) (by decide)).mp z; omega), y_let, y_ck hfr (by decide), y_ck hfr (by decide), y_let, y_ck hfr (by decide), y_ck hfr (by decide), nI_1, c1, nI_1, c2, c3, nI_pred]
  rfl
/-- the 201st act -/
theorem m_enough {n fr m r a e : Nat} {ev o : Int32} (hfr : fr < 12) (h90 : zI V 0 90 = nI (fr + 1)) (h : y_mw tp lv T S V) (hf : y_fm V fr m ev r a e o) (ha : a < e) (he : e ≤ 2000) (e13 : y_I S 0 13 = nI 200) :
    fX12_works_l0 F (n + 1) V = some (zsI (zsI (zsI V 0 89 1) 0 70 1) 0 90 0) := by
  obtain ⟨f1, f2, f3, f4, f5, f6⟩ := hf
  have h88 : zI V 0 88 = nI 200 := h.2.2.2.1.trans e13
  rw [fX12_works_l0, h90, if_neg (nI_nle (by omega) (by omega)), h.2.2.2.2.1, if_pos rfl, y_let, nI_pred, y_ck hfr (by decide), y_ck hfr (by decide)]
  simp only [nI_clamp (show fr < 2 ^ 31 by omega), f4, f5]
  rw [if_neg (nI_ge ha (by omega)), h88, if_pos (show nI 200 = (200 : Int32) from rfl), y_let, y_let, y_let]
/-- no act is left -/
theorem m_rule {n fr m r a : Nat} {ev o : Int32} (hfr : fr < 12) (h90 : zI V 0 90 = nI (fr + 1)) (h : y_mw tp lv T S V) (hf : y_fm V fr m ev r a a o) (ha : a ≤ 2000) :
    fX12_works_l0 F (n + 1) V = zbd (fX12_nextRule F V (nI fr)) fun q8 => if q8.1 = 0 then fX12_works_l0 F n (zsI q8.2 0 90 (zI q8.2 0 90 - 1)) else fX12_works_l0 F n q8.2 := by
  obtain ⟨f1, f2, f3, f4, f5, f6⟩ := hf
  rw [fX12_works_l0, h90, if_neg (nI_nle (by omega) (by omega)), h.2.2.2.2.1, if_pos rfl, y_let, nI_pred, y_ck hfr (by decide), y_ck hfr (by decide)]
  simp only [nI_clamp (show fr < 2 ^ 31 by omega), f4, f5]
  rw [if_pos (nI_le (Nat.le_refl _) (by omega))]
  rfl
theorem y_run_cons {rec : Nat → Int32 → y_S → y_S} {top : Bool} {m : Nat} {ev o : Int32} {x : y_A} {A : List y_A} {rs : List Nat} {b : Nat} (hb : b < 200) (e13 : y_I S 0 13 = nI b) : y_run T rec top m ev o (x :: A) rs S = y_run T rec top m ev o A rs (y_do T rec top m x (y_sI S 0 13 (nI (b + 1)))) := by
  have : y_as T rec top m (x :: A) S = y_as T rec top m A (y_do T rec top m x (y_sI S 0 13 (nI (b + 1)))) := by
    rw [y_as, e13, if_pos (show nI b < (200 : Int32) from nI_lt (b := 200) hb (by decide)), nI_1]
  unfold y_run
  rw [this]
theorem y_run_nil {rec : Nat → Int32 → y_S → y_S} {m : Nat} {ev : Int32} {rs : List Nat} : y_run T rec false m ev (y_R S 22 m) [] rs S = y_rl T rec false m ev (y_R S 22 m) rs S := by
  unfold y_run
  rw [show y_as T rec false m [] S = S from rfl, if_neg]
  rintro (z | z)
  · exact z.2 rfl
  · exact absurd z.1 (by decide)
theorem y_rl_fire {rec : Nat → Int32 → y_S → y_S} {top : Bool} {m r : Nat} {ev o : Int32} {rs : List Nat} (h1 : zA T 17 r = ev) (h2 : y_cond T r (y_R S 1) (y_R S 20 m) (y_I S 14 7) = some true) : y_rl T rec top m ev o (r :: rs) S = y_run T rec top m ev o (y_ra T r) rs S := by
  rw [y_rl, if_pos ⟨h1, h2⟩]; rfl
/-- what came of a part, then of the rest -/
theorem y_got_step {fr k1 k : Nat} {top : Bool} {V1 : zV} {S' : y_S} {j : Nat} (hw : ∀ n, fX12_works_l0 F (n + j) V = fX12_works_l0 F n V1) (hj : k1 + j ≤ k) (hff : ∀ q ∈ y_ff, ∀ i, i < fr → zA V1 q i = zA V q i) (hfw : y_fw y_dz y_dy V V1) (h97 : zI V1 0 97 = zI V 0 97)
    (h : y_got F tp lv T fr top V1 S' k1) : y_got F tp lv T fr top V S' k := by
  rcases h with ⟨V', c, a1, a2, a3, a4, a5, a6, a7, a8⟩ | ⟨V', c, a1, a2, a3, a4, a5, a6, a7, a8, a9⟩
  · exact Or.inl ⟨V', c + j, by omega, fun n => by rw [← a2 n, ← hw (n + c), Nat.add_assoc], a3, a4, fun q hq i hi => (a5 q hq i hi).trans (hff q hq i hi), y_fw_trans hfw a6, fun z z2 => a7 z (h97.trans z2), fun z => (a8 z).trans h97⟩
  · exact Or.inr ⟨V', c + j, by omega, fun n => by rw [← a2 n, ← hw (n + c), Nat.add_assoc], a3, a4, a5, a6, a7, a8, y_fw_trans hfw a9⟩
theorem y_ac_le' (h : y_si T S) : ∃ a, a ≤ 200 ∧ y_I S 0 13 = nI a ∧ y_ac S = a := by
  obtain ⟨a, ha, e⟩ := h.2.2.2
  exact ⟨a, ha, e, y_ac_of ha e⟩
end

section
variable {F : Nat} {T : zV} {lv : Nat}
theorem m_run1 (hF : 3000 ≤ F) (hTT : y_T T) (hax : y_ax T) {l : Nat} (hl : l ≤ 8)
    (hrec : 1 ≤ l → ∀ (tp : Bool) (fr m : Nat) (ev : Int32) (S : y_S) (V : zV), fr + 1 ≤ 9 - l → y_mw tp lv T S V → zI V 0 90 = nI (fr + 2) → y_fm V (fr + 1) m ev (y_hd T m) 0 0 (y_R S 22 m) → m < y_many T 7 → y_dp V (fr + 2) = 9 - l → (ev = -1 ∨ ev = -2) →
      y_ac S ≤ y_ac (y_rR T l false m ev S) ∧ y_got F tp lv T (fr + 1) false V (y_rR T l false m ev S) (3 * (y_ac (y_rR T l false m ev S) - y_ac S) + 1)) :
    ∀ (c : Nat) (A : List y_A) (fr m r a : Nat) (ev o : Int32) (top tp : Bool) (S : y_S) (V : zV), y_mw tp lv T S V → fr ≤ 8 - l → zI V 0 90 = nI (fr + 1) → y_fm V fr m ev r a (a + A.length) o → m < y_many T 7 → r + c = y_hd T (m + 1) → a + A.length ≤ 2000 → (∀ i x, A[i]? = some x → y_ma T V (a + i) x) →
      (∀ x ∈ A, (x.1 = 18 → x.2.1 < y_many T 7) ∧ (x.1 = 20 → x.2.1 < y_many T 1)) → y_dp V (fr + 1) = 8 - l → (top = true → tp = true ∧ ¬ ev < 0) → (top = false → ev = -1 ∨ ev = -2) →
      y_ac S ≤ y_ac (y_run T (y_rec T l) top m ev o A (List.range' r c) S) ∧ y_got F tp lv T fr top V (y_run T (y_rec T l) top m ev o A (List.range' r c) S) (3 * (y_ac (y_run T (y_rec T l) top m ev o A (List.range' r c) S) - y_ac S) + (if A = [] then 1 else 0)) := by
  have h12 := hTT.2.1.1.2
  obtain ⟨R, hR, hR3, hh, hcond⟩ := hTT.2.2.2.2.1
  intro c
  induction c using Nat.strongRecOn with
  | ind c ihc =>
  intro A
  induction A with
  | nil =>
    intro fr m r a ev o top tp S V h hfr h90 hf hm hrc ha hA hA2 hdp ht1 ht2
    have hfr12 : fr < 12 := by omega
    have hf0 : y_fm V fr m ev r a a o := hf
    obtain ⟨f1, f2, f3, f4, f5, f6⟩ := hf
    have hrule : ∀ n, fX12_works_l0 F (n + 1) V = zbd (fX12_nextRule F V (nI fr)) fun q8 => if q8.1 = 0 then fX12_works_l0 F n (zsI q8.2 0 90 (zI q8.2 0 90 - 1)) else fX12_works_l0 F n q8.2 := fun n => m_rule hfr12 h90 h hf0 (by have : a + 0 ≤ 2000 := ha; omega)
    rw [if_pos rfl]
    -- the frame is taken off
    have popped : ∀ V1, fX12_nextRule F V (nI fr) = some (0, V1) → y_fr [(0, 97)] [59, 60, 61, 63] V V1 → (∀ q ∈ [59, 60, 61], ∀ i, ¬ i = fr → zA V1 q i = zA V q i) → y_run T (y_rec T l) top m ev o [] (List.range' r c) S = S → (top = true → zI V 0 97 = 0 → zI V1 0 97 = y_I S 0 14) → (top = false → zI V1 0 97 = zI V 0 97) →
        y_ac S ≤ y_ac (y_run T (y_rec T l) top m ev o [] (List.range' r c) S) ∧ y_got F tp lv T fr top V (y_run T (y_rec T l) top m ev o [] (List.range' r c) S) (3 * (y_ac (y_run T (y_rec T l) top m ev o [] (List.range' r c) S) - y_ac S) + 1) := by
      intro V1 e1 f o1 es w1 w2
      rw [es]
      refine ⟨Nat.le_refl _, Or.inl ⟨zsI V1 0 90 (nI fr), 1, by omega, fun n => ?_, rfl, ?_, fun q hq i hi => ?_, ?_, w1, w2⟩⟩
      · rw [hrule n, e1, y_bd, if_pos (show (0 : Int32) = 0 from rfl)]
        dsimp only
        rw [f.1 0 90 (by decide), h90, nI_pred]
      · exact y_mw_fr (y_mw_fr h f (by decide) (by decide) (by decide) (by decide)) (y_fr_I (sc := [(0, 90)]) (ar := []) y_fr_refl (by decide)) (by decide) (by decide) (by decide) (by decide)
      · show zA V1 q i = zA V q i
        have hq' : q = 57 ∨ q = 58 ∨ q = 59 ∨ q = 60 ∨ q = 61 ∨ q = 62 := by
          have : q ∈ [57, 58, 59, 60, 61, 62] := hq
          simpa using this
        rcases hq' with rfl | rfl | rfl | rfl | rfl | rfl
        · rw [f.2.1 57 (by decide)]
        · rw [f.2.1 58 (by decide)]
        · exact o1 59 (by decide) i (by omega)
        · exact o1 60 (by decide) i (by omega)
        · exact o1 61 (by decide) i (by omega)
        · rw [f.2.1 62 (by decide)]
      · exact y_fw_trans (y_fw_of f (by decide) (by decide)) (y_fw_of (y_fr_I (sc := [(0, 90)]) (ar := []) y_fr_refl (by decide)) (by decide) (by decide))
    have hnil : y_as T (y_rec T l) top m [] S = S := rfl
    have h22 : zA V 52 m = y_R S 22 m := y_mg_r h.2.1 (r := 22) (r7 := 52) (n := 12) (by decide) (show m < 12 by omega)
    -- with hold or the mode gone off
    by_cases hh1 : top = true ∧ ¬ y_I S 0 14 = 0
    · have hs : y_run T (y_rec T l) top m ev o [] (List.range' r c) S = S := by
        unfold y_run
        rw [hnil, if_pos (Or.inr hh1)]
      obtain ⟨t1, t2⟩ := ht1 hh1.1
      have e99 : zI V 0 99 = y_I S 0 14 := h.2.2.2.2.2.1 t1
      refine popped (zsI V 0 97 1) ?_ (y_fr_mono (y_fr_I (sc := [(0, 97)]) (ar := []) y_fr_refl (by decide)) (fun _ z => z) (fun _ z => absurd z List.not_mem_nil)) (fun _ _ _ _ => rfl) hs (fun _ _ => ?_) (fun z => by rw [hh1.1] at z; cases z)
      · unfold fX12_nextRule
        rw [y_ck hfr12 (by decide), y_let, y_ck hfr12 (by decide)]
        simp only [nI_clamp (show fr < 2 ^ 31 by omega), f1, f2]
        rw [if_neg t2, e99, if_neg hh1.2, y_let]
      · show (1 : Int32) = _
        exact (h.2.2.1.2.2.1.resolve_left hh1.2).symm
    have hnext : fX12_nextRule F V (nI fr) = fX12_nextRule_b30 F V (nI fr) (nI m) := by
      unfold fX12_nextRule
      rw [y_ck hfr12 (by decide), y_let, y_ck hfr12 (by decide)]
      simp only [nI_clamp (show fr < 2 ^ 31 by omega), f1, f2]
      by_cases q : ev < 0
      · rw [if_pos q]
      · rw [if_neg q]
        have htop : top = true := by
          cases top with
          | true => rfl
          | false =>
            rcases ht2 rfl with z | z
            · rw [z] at q; exact absurd (by decide) q
            · rw [z] at q; exact absurd (by decide) q
        have e99 : zI V 0 99 = y_I S 0 14 := h.2.2.2.2.2.1 (ht1 htop).1
        rw [e99, if_pos (Classical.byContradiction fun z => hh1 ⟨htop, z⟩)]
    have h14 : top = true → y_I S 0 14 = 0 := fun z => Classical.byContradiction fun z2 => hh1 ⟨z, z2⟩
    by_cases hh2 : ¬ ev = -2 ∧ ¬ y_R S 22 m = o
    · have hs : y_run T (y_rec T l) top m ev o [] (List.range' r c) S = S := by
        unfold y_run
        rw [hnil, if_pos (Or.inl hh2)]
      refine popped V ?_ y_fr_refl (fun _ _ _ _ => rfl) hs (fun z1 z2 => by rw [z2, h14 z1]) (fun _ => rfl)
      rw [hnext, fX12_nextRule_b30, y_ck hfr12 (by decide)]
      simp only [nI_clamp (show fr < 2 ^ 31 by omega), f2]
      rw [if_neg hh2.1, y_ck (by omega) (by decide), y_ck hfr12 (by decide)]
      simp only [nI_clamp (show fr < 2 ^ 31 by omega), nI_clamp (show m < 2 ^ 31 by omega), h22, f6]
      rw [if_neg hh2.2]
    have hrun : y_run T (y_rec T l) top m ev o [] (List.range' r c) S = y_rl T (y_rec T l) top m ev o (List.range' r c) S := by
      unfold y_run
      rw [hnil, if_neg (fun z => z.elim hh2 hh1)]
    have hl58 : fX12_nextRule F V (nI fr) = fX12_nextRule_l58 F F V (nI fr) (nI m) := by
      rw [hnext, fX12_nextRule_b30, y_ck hfr12 (by decide)]
      simp only [nI_clamp (show fr < 2 ^ 31 by omega), f2]
      by_cases q : ev = -2
      · rw [if_pos q]
      · rw [if_neg q, y_ck (by omega) (by decide), y_ck hfr12 (by decide)]
        simp only [nI_clamp (show fr < 2 ^ 31 by omega), nI_clamp (show m < 2 ^ 31 by omega), h22, f6]
        rw [if_pos (Classical.byContradiction fun z => hh2 ⟨q, z⟩)]
    obtain ⟨V1, g1, g2, g3⟩ := m_nextl (F := F) hF hTT hfr12 hm c r F V hrc (by have := (hh (m + 1) (by omega)).2; omega) h f2 f3
    rcases g3 with ⟨a1, a2⟩ | ⟨r', c', lo, a1, a0, a2, a3, a4, a5, a6, a7, a8, a9, a10, R', hR', hr'⟩
    · refine popped V1 (hl58.trans a2) (y_fr_mono g1 (fun _ z => absurd z List.not_mem_nil) (fun _ z => z)) g2 (hrun.trans (a1 _ _ _)) (fun z1 z2 => ?_) (fun _ => g1.1 0 97 List.not_mem_nil)
      rw [g1.1 0 97 List.not_mem_nil, z2, h14 z1]
    · have hfire : y_run T (y_rec T l) top m ev o [] (List.range' r c) S = y_run T (y_rec T l) top m ev o (y_ra T r') (List.range' (r' + 1) c') S := by
        rw [hrun, a4, y_rl_fire a2 a3]
      obtain ⟨x1, x2⟩ := hax R' hR' r' hr'
      have w1 : y_mw tp lv T S V1 := y_mw_fr h g1 (fun _ _ => List.not_mem_nil) (by decide) (fun _ _ => List.not_mem_nil) (by decide)
      have hw : ∀ n, fX12_works_l0 F (n + 1) V = fX12_works_l0 F n V1 := by
        intro n
        rw [hrule n, hl58, a5, y_bd, if_neg (show ¬ (1 : Int32) = 0 by decide)]
      obtain ⟨i1, i2⟩ := ihc c' (by omega) (y_ra T r') fr m (r' + 1) lo ev o top tp S V1 w1 hfr ((g1.1 0 90 List.not_mem_nil).trans h90) ⟨by rw [g1.2.1 57 (by decide)]; exact f1, by rw [g1.2.1 58 (by decide)]; exact f2, a6, a7, a8, by rw [g1.2.1 62 (by decide)]; exact f6⟩ hm (by omega) a9 a10 x2 ((y_dp_eq fun f _ => by rw [g1.2.1 58 (by decide)]).trans hdp) ht1 ht2
      rw [if_neg x1] at i2
      rw [hfire]
      refine ⟨i1, y_got_step hw (Nat.le_refl _) (fun q hq i hi => ?_) (y_fw_of g1 (fun _ z => absurd z List.not_mem_nil) (by decide)) (g1.1 0 97 List.not_mem_nil) i2⟩
      have hq' : q = 57 ∨ q = 58 ∨ q = 59 ∨ q = 60 ∨ q = 61 ∨ q = 62 := by
        have : q ∈ [57, 58, 59, 60, 61, 62] := hq
        simpa using this
      rcases hq' with rfl | rfl | rfl | rfl | rfl | rfl
      · rw [g1.2.1 57 (by decide)]
      · rw [g1.2.1 58 (by decide)]
      · exact g2 59 (by decide) i (by omega)
      · exact g2 60 (by decide) i (by omega)
      · exact g2 61 (by decide) i (by omega)
      · rw [g1.2.1 62 (by decide)]
  | cons x A ihA =>
    intro fr m r a ev o top tp S V h hfr h90 hf hm hrc ha hA hA2 hdp ht1 ht2
    have hfr12 : fr < 12 := by omega
    have hlen : (x :: A).length = A.length + 1 := rfl
    rw [hlen] at hf ha
    obtain ⟨b, hb, e13, eac⟩ := y_ac_le' h.2.2.1
    rw [if_neg (show ¬ x :: A = [] by simp)]
    by_cases hb2 : b < 200
    rotate_left
    · -- ENDLESS
      have hb200 : b = 200 := by omega
      subst hb200
      have es : y_run T (y_rec T l) top m ev o (x :: A) (List.range' r c) S = y_sI S 0 11 1 := by
        have e1 : y_as T (y_rec T l) top m (x :: A) S = y_sI S 0 11 1 := by rw [y_as, e13, if_neg (show ¬ nI 200 < (200 : Int32) by decide)]
        have hd : y_dead (y_sI S 0 11 1) := ⟨by show ¬ y_I S 0 13 < 200; rw [e13]; decide, rfl⟩
        unfold y_run
        rw [e1, y_rl_dead hd]
        split <;> rfl
      rw [es]
      have ea : y_ac (y_sI S 0 11 1) = y_ac S := rfl
      refine ⟨Nat.le_refl _, Or.inr ⟨zsI (zsI (zsI V 0 89 1) 0 70 1) 0 90 0, 1, by omega, fun n => m_enough hfr12 h90 h hf (by omega) ha e13, rfl, rfl, ?_, ?_, ⟨h.2.2.1.1, h.2.2.1.2.1, h.2.2.1.2.2.1, h.2.2.1.2.2.2⟩, ⟨by show ¬ y_I S 0 13 < 200; rw [e13]; decide, rfl⟩, ?_⟩⟩
      · exact y_mt_fr h.1 (y_fr_I (sc := [(0, 89), (0, 70), (0, 90)]) (ar := []) (y_fr_I (y_fr_I y_fr_refl (by decide)) (by decide)) (by decide)) (by decide) (by decide)
      · have g0 := y_mg_fr h.2.1 (y_fr_I (sc := [(0, 89)]) (ar := []) (r := 0) (k := 89) (x := 1) y_fr_refl (by decide)) (by decide) (by decide)
        have g1 := y_mg_I g0 (r := 0) (k := 11) (k7 := 70) (x := 1) (by decide)
        exact y_mg_fr g1 (y_fr_I (sc := [(0, 90)]) (ar := []) (r := 0) (k := 90) (x := 0) y_fr_refl (by decide)) (by decide) (by decide)
      · exact y_fw_of (y_fr_I (sc := [(0, 89), (0, 70), (0, 90)]) (ar := []) (y_fr_I (y_fr_I y_fr_refl (by decide)) (by decide)) (by decide)) (by decide) (by decide)
    -- one act
    rw [y_run_cons hb2 e13]
    have hx := hA 0 x rfl
    have hw0 : ∀ n, fX12_works_l0 F (n + 1) V = zbd (fX12_does F (zsA (zsI V 0 88 (nI (b + 1))) 60 (upd (zA (zsI V 0 88 (nI (b + 1))) 60) fr (nI (a + 1)))) (nI a) (nI m) (nI fr)) fun q22 => fX12_works_l0 F n q22 := fun n => m_begin hfr12 h90 h hf (by omega) ha hb2 e13
    have h1 := y_mw_act (fr := fr) (b := a + 1) h hb2 e13
    have fV : y_fr [(0, 88)] [60] V (zsA (zsI V 0 88 (nI (b + 1))) 60 (upd (zA (zsI V 0 88 (nI (b + 1))) 60) fr (nI (a + 1)))) := y_fr_A (y_fr_I y_fr_refl (by decide)) (by decide)
    have e60 : ∀ i, zA (zsA (zsI V 0 88 (nI (b + 1))) 60 (upd (zA (zsI V 0 88 (nI (b + 1))) 60) fr (nI (a + 1)))) 60 i = if i = fr then nI (a + 1) else zA V 60 i := fun i => rfl
    generalize zsA (zsI V 0 88 (nI (b + 1))) 60 (upd (zA (zsI V 0 88 (nI (b + 1))) 60) fr (nI (a + 1))) = V1 at hw0 h1 fV e60
    have e131 : y_I (y_sI S 0 13 (nI (b + 1))) 0 13 = nI (b + 1) := rfl
    have eac1 : y_ac (y_sI S 0 13 (nI (b + 1))) = b + 1 := y_ac_of (by omega) e131
    generalize y_sI S 0 13 (nI (b + 1)) = S1 at h1 e131 eac1 ⊢
    obtain ⟨f1, f2, f3, f4, f5, f6⟩ := hf
    have hf1 : y_fm V1 fr m ev r (a + 1) (a + 1 + A.length) o := ⟨by rw [fV.2.1 57 (by decide)]; exact f1, by rw [fV.2.1 58 (by decide)]; exact f2, by rw [fV.2.1 59 (by decide)]; exact f3, by rw [e60, if_pos rfl], by rw [fV.2.1 61 (by decide), f5, show a + (A.length + 1) = a + 1 + A.length by omega], by rw [fV.2.1 62 (by decide)]; exact f6⟩
    have h901 : zI V1 0 90 = nI (fr + 1) := (fV.1 0 90 (by decide)).trans h90
    have o1 : ∀ q ∈ y_ff, ∀ i, i < fr → zA V1 q i = zA V q i := by
      intro q hq i hi
      by_cases q60 : q = 60
      · subst q60; rw [e60, if_neg (by omega)]
      · rw [fV.2.1 q (by rw [List.mem_singleton]; exact q60)]
    have hdp1 : y_dp V1 (fr + 1) = 8 - l := (y_dp_eq fun f _ => by rw [fV.2.1 58 (by decide)]).trans hdp
    have ma1 : ∀ i y, A[i]? = some y → y_ma T V1 (a + 1 + i) y := by
      intro i y hy
      have := hA (i + 1) y hy
      rw [show a + (i + 1) = a + 1 + i by omega] at this
      exact y_ma_eq (fun q hq => fV.2.1 q ((show ∀ q ∈ y_st, q ∉ [60] by decide) q hq)) this
    have hx1 : y_ma T V1 a x := y_ma_eq (fun q hq => fV.2.1 q ((show ∀ q ∈ y_st, q ∉ [60] by decide) q hq)) hx
    have hA2' : ∀ y ∈ A, (y.1 = 18 → y.2.1 < y_many T 7) ∧ (y.1 = 20 → y.2.1 < y_many T 1) := fun y hy => hA2 y (List.mem_cons_of_mem _ hy)
    have hx2 := hA2 x List.mem_cons_self
    -- the rest, from where the frame is on top again
    have rest : ∀ (S2 : y_S) (V2 : zV) (k j : Nat), y_mw tp lv T S2 V2 → zI V2 0 90 = nI (fr + 1) → (∀ q ∈ y_ff, ∀ i, i < fr + 1 → zA V2 q i = zA V1 q i) → y_fw y_dz y_dy V1 V2 → zI V2 0 97 = zI V1 0 97 → (∀ n, fX12_works_l0 F (n + j) V = fX12_works_l0 F n V2) → b + 1 ≤ y_ac S2 → j ≤ 3 * (y_ac S2 - (b + 1)) + 2 →
        y_ac S ≤ y_ac (y_run T (y_rec T l) top m ev o A (List.range' r c) S2) ∧ y_got F tp lv T fr top V (y_run T (y_rec T l) top m ev o A (List.range' r c) S2) (3 * (y_ac (y_run T (y_rec T l) top m ev o A (List.range' r c) S2) - y_ac S) + 0) := by
      intro S2 V2 k j w2 w90 wo wf w97 wj wb wj2
      have hst : ∀ q ∈ y_st, zA V2 q = zA V1 q := fun q hq => wf.2.1 q ((show ∀ q ∈ y_st, q ∉ y_dy by decide) q hq)
      obtain ⟨i1, i2⟩ := ihA fr m r (a + 1) ev o top tp S2 V2 w2 hfr w90 ⟨by rw [wo 57 (by decide) fr (by omega)]; exact hf1.1, by rw [wo 58 (by decide) fr (by omega)]; exact hf1.2.1, by rw [wo 59 (by decide) fr (by omega)]; exact hf1.2.2.1, by rw [wo 60 (by decide) fr (by omega)]; exact hf1.2.2.2.1, by rw [wo 61 (by decide) fr (by omega)]; exact hf1.2.2.2.2.1, by rw [wo 62 (by decide) fr (by omega)]; exact hf1.2.2.2.2.2⟩ hm hrc (by omega) (fun i y hy => y_ma_eq hst (ma1 i y hy)) hA2' ((y_dp_eq fun f hf => wo 58 (by decide) f hf).trans hdp1) ht1 ht2
      refine ⟨by omega, y_got_step wj ?_ (fun q hq i hi => (wo q hq i (by omega)).trans (o1 q hq i hi)) (y_fw_trans (y_fw_of fV (by decide) (by decide)) wf) (w97.trans (fV.1 0 97 (by decide))) i2⟩
      rw [eac]
      split <;> omega
    have hT1 := h1.1
    -- a frame more is laid on, and runs
    have nested : ∀ (v : Nat) (ev2 : Int32) (S2 : y_S) (V2 V3 : zV), 1 ≤ l → v < y_many T 7 → (ev2 = -1 ∨ ev2 = -2) → y_mw tp lv T S2 V2 → y_I S2 0 13 = nI (b + 1) → y_fw y_dz y_dy V1 V2 → (∀ q ∈ y_ff, zA V2 q = zA V1 q) → zI V2 0 97 = zI V1 0 97 → zI V3 0 90 = nI (fr + 1 + 1) → y_fm V3 (fr + 1) v ev2 (y_hd T v) 0 0 (y_R S2 22 v) → y_fr [(0, 90)] y_ff V2 V3 → (∀ q ∈ y_ff, ∀ i, i < fr + 1 → zA V3 q i = zA V2 q i) →
        fX12_does F V1 (nI a) (nI m) (nI fr) = some V3 → y_ac S ≤ y_ac (y_run T (y_rec T l) top m ev o A (List.range' r c) (y_rR T l false v ev2 S2)) ∧ y_got F tp lv T fr top V (y_run T (y_rec T l) top m ev o A (List.range' r c) (y_rR T l false v ev2 S2)) (3 * (y_ac (y_run T (y_rec T l) top m ev o A (List.range' r c) (y_rR T l false v ev2 S2)) - y_ac S) + 0) := by
      intro v ev2 S2 V2 V3 hl1 hv hev2 w2 e2 wf w57 w97 w90 wfm wf3 wo3 hdo
      have w3 : y_mw tp lv T S2 V3 := y_mw_fr w2 wf3 (by decide) (by decide) (by decide) (by decide)
      have hdp3 : y_dp V3 (fr + 2) = 9 - l := by
        rw [show fr + 2 = fr + 1 + 1 from rfl, y_dp_succ, wfm.2.1, y_dp_eq (V := V1) (fun f hf => by rw [wo3 58 (by decide) f hf, w57 58 (by decide)]), hdp1]
        rcases hev2 with q | q <;> rw [q] <;> rw [if_pos (by decide)] <;> omega
      obtain ⟨j1, j2⟩ := hrec hl1 tp fr v ev2 S2 V3 (by omega) w3 w90 wfm hv hdp3 hev2
      have eS2 : y_ac S2 = b + 1 := y_ac_of (by omega) e2
      rw [eS2] at j1 j2
      have fw3 : y_fw y_dz y_dy V1 V3 := y_fw_trans wf (y_fw_of wf3 (by decide) (by decide))
      have w973 : zI V3 0 97 = zI V1 0 97 := (wf3.1 0 97 (by decide)).trans w97
      rcases j2 with ⟨V4, c4, b1, b2, b3, b4, b5, b6, b7, b8⟩ | ⟨V4, c4, b1, b2, b3, b4, b5, b6, b7, b8, b9⟩
      · exact rest _ V4 0 (c4 + 1) b4 b3 (fun q hq i hi => by rw [b5 q hq i hi, wo3 q hq i hi, w57 q hq]) (y_fw_trans fw3 b6) ((b8 rfl).trans w973) (fun n => by rw [← Nat.add_assoc, hw0 (n + c4), hdo, y_bd]; exact b2 n) j1 (by omega)
      · rw [y_run_dead b8]
        refine ⟨by omega, Or.inr ⟨V4, c4 + 1, by omega, fun n => by rw [← Nat.add_assoc, hw0 (n + c4), hdo, y_bd]; exact b2 n, b3, b4, b5, b6, b7, b8, y_fw_trans (y_fw_trans (y_fw_of fV (by decide) (by decide)) fw3) b9⟩⟩
    have hff49 : ∀ q ∈ y_ff, q ∉ [49, 50, 51] ∧ q ∉ [49, 50, 52] := by decide
    have k1 : zA V1 31 a = nI (x.1 + 19) := hx1.1
    by_cases h18 : x.1 = 18
    · have hv := hx2.1 h18
      have k4 : zA V1 32 a = nI x.2.1 := hx1.2.2.2.1 (Or.inr (Or.inl h18))
      have hdoes : fX12_does F V1 (nI a) (nI m) (nI fr) = zbd (fX12_starts F V1 (nI x.2.1)) fun q34 => some q34 := by
        unfold fX12_does
        rw [y_ck (show a < 2000 by omega) (by decide)]
        simp only [y_ck (show a < 2000 by omega) (by decide), nI_clamp (show a < 2 ^ 31 by omega), k1, h18, k4]
        rw [if_neg (by decide), if_neg (by decide), if_pos (show nI (18 + 19) = (37 : Int32) from rfl)]
      obtain ⟨V2, g1, g2, g3⟩ := m_starts (F := F) (fr := fr + 1) hF hT1 h1.2.1 (by omega) h901 hv h12 (hh x.2.1 (by omega)).1
      have w2 : y_mw tp lv T (y_on T S1 x.2.1).2 V2 := y_mw_new h1 g1 (y_fw_of g2 (fun _ z => z) (fun _ z => z)) (fun _ _ => List.not_mem_nil) (by decide) (y_si_on h1.2.2.1) y_on_I y_on_I
      have e2 : y_I (y_on T S1 x.2.1).2 0 13 = nI (b + 1) := y_on_I.trans e131
      have eac2 : y_ac (y_on T S1 x.2.1).2 = b + 1 := y_ac_of (by omega) e2
      have fw2 : y_fw y_dz y_dy V1 V2 := y_fw_of g2 (fun _ z => absurd z List.not_mem_nil) (by decide)
      have edo : y_do T (y_rec T l) top m x S1 = if (y_on T S1 x.2.1).1 = true then y_rR T l false x.2.1 (-1) (y_on T S1 x.2.1).2 else (y_on T S1 x.2.1).2 := by
        unfold y_do
        rw [h18, if_neg (by decide), if_neg (by decide), if_pos rfl]; rfl
      have plain : fX12_starts F V1 (nI x.2.1) = some V2 → y_ac S ≤ y_ac (y_run T (y_rec T l) top m ev o A (List.range' r c) (y_on T S1 x.2.1).2) ∧ y_got F tp lv T fr top V (y_run T (y_rec T l) top m ev o A (List.range' r c) (y_on T S1 x.2.1).2) (3 * (y_ac (y_run T (y_rec T l) top m ev o A (List.range' r c) (y_on T S1 x.2.1).2) - y_ac S) + 0) := fun hs =>
        rest _ V2 0 1 w2 ((g2.1 0 90 List.not_mem_nil).trans h901) (fun q hq i hi => by rw [g2.2.1 q (hff49 q hq).1]) fw2 (g2.1 0 97 List.not_mem_nil) (fun n => by rw [hw0 n, hdoes, hs, y_bd, y_bd]) (by omega) (by omega)
      rw [edo]
      rcases g3 with ⟨q1, q2⟩ | ⟨q1, q2, q3⟩ | ⟨q1, q2, V3, q3, q4, q5, q6, q7⟩
      · rw [if_neg (by rw [q1]; decide)]
        exact plain q2
      · rw [if_pos q1]
        rw [hdp1] at q2
        have : l = 0 := by omega
        subst this
        exact plain q3
      · rw [if_pos q1]
        rw [hdp1] at q2
        exact nested x.2.1 (-1) _ V2 V3 (by omega) hv (Or.inl rfl) w2 e2 fw2 (fun q hq => g2.2.1 q (hff49 q hq).1) (g2.1 0 97 List.not_mem_nil) q4 q5 q6 q7 (by rw [hdoes, q3, y_bd])
    by_cases h19 : x.1 = 19
    · have hdoes : fX12_does F V1 (nI a) (nI m) (nI fr) = zbd (fX12_leaves F V1 (nI m)) fun q37 => some q37 := by
        unfold fX12_does
        rw [y_ck (show a < 2000 by omega) (by decide)]
        simp only [y_ck (show a < 2000 by omega) (by decide), nI_clamp (show a < 2 ^ 31 by omega), k1, h19]
        rw [if_neg (by decide), if_neg (by decide), if_neg (by decide), if_pos (show nI (19 + 19) = (38 : Int32) from rfl)]
      obtain ⟨V2, g1, g2, g3⟩ := m_leaves (F := F) (fr := fr + 1) hF hT1 h1.2.1 (by omega) h901 hm h12 (hh m (by omega)).1
      have w2 : y_mw tp lv T (y_off S1 m).2 V2 := y_mw_new h1 g1 (y_fw_of g2 (fun _ z => z) (fun _ z => z)) (fun _ _ => List.not_mem_nil) (by decide) (y_si_off h1.2.2.1) y_off_I y_off_I
      have e2 : y_I (y_off S1 m).2 0 13 = nI (b + 1) := y_off_I.trans e131
      have eac2 : y_ac (y_off S1 m).2 = b + 1 := y_ac_of (by omega) e2
      have fw2 : y_fw y_dz y_dy V1 V2 := y_fw_of g2 (fun _ z => absurd z List.not_mem_nil) (by decide)
      have edo : y_do T (y_rec T l) top m x S1 = if (y_off S1 m).1 = true then y_rR T l false m (-2) (y_off S1 m).2 else (y_off S1 m).2 := by
        unfold y_do
        rw [h19, if_neg (by decide), if_neg (by decide), if_neg (by decide), if_pos rfl]; rfl
      have plain : fX12_leaves F V1 (nI m) = some V2 → y_ac S ≤ y_ac (y_run T (y_rec T l) top m ev o A (List.range' r c) (y_off S1 m).2) ∧ y_got F tp lv T fr top V (y_run T (y_rec T l) top m ev o A (List.range' r c) (y_off S1 m).2) (3 * (y_ac (y_run T (y_rec T l) top m ev o A (List.range' r c) (y_off S1 m).2) - y_ac S) + 0) := fun hs =>
        rest _ V2 0 1 w2 ((g2.1 0 90 List.not_mem_nil).trans h901) (fun q hq i hi => by rw [g2.2.1 q (hff49 q hq).2]) fw2 (g2.1 0 97 List.not_mem_nil) (fun n => by rw [hw0 n, hdoes, hs, y_bd, y_bd]) (by omega) (by omega)
      rw [edo]
      rcases g3 with ⟨q1, q2⟩ | ⟨q1, q2, q3⟩ | ⟨q1, q2, V3, q3, q4, q5, q6, q7⟩
      · rw [if_neg (by rw [q1]; decide)]
        exact plain q2
      · rw [if_pos q1]
        rw [hdp1] at q2
        have : l = 0 := by omega
        subst this
        exact plain q3
      · rw [if_pos q1]
        rw [hdp1] at q2
        exact nested m (-2) _ V2 V3 (by omega) hm (Or.inr rfl) w2 e2 fw2 (fun q hq => g2.2.1 q (hff49 q hq).2) (g2.1 0 97 List.not_mem_nil) q4 q5 q6 q7 (by rw [hdoes, q3, y_bd])
    obtain ⟨V2, p1, p2, p3⟩ := m_plain (F := F) (rec := y_rec T l) (top := top) hF hTT h1 (show a < 2000 by omega) hm hfr12 hx1 h18 h19 hx2.2 (fun z => by rw [hf1.2.1]; exact (ht1 z).2) (fun z => by rw [hf1.2.1]; rcases ht2 z with q | q <;> rw [q] <;> decide) (fun z => (ht1 z).1)
    have e2 : y_ac (y_do T (y_rec T l) top m x S1) = b + 1 := by
      obtain ⟨b', hb', e', ea'⟩ := y_ac_le' p2.2.2.1
      have := p2.2.2.2.1
      rw [p3.1 0 88 (by decide), h1.2.2.2.1, e131] at this
      rw [ea']
      rw [e'] at this
      exact ((nI_eq (by omega) (by omega)).mp this).symm
    exact rest _ V2 0 1 p2 ((p3.1 0 90 (by decide)).trans h901) (fun q hq i hi => by rw [p3.2.1 q ((show ∀ q ∈ y_ff, q ∉ y_da by decide) q hq)]) (y_fw_mono p3 (by decide) (by decide)) (p3.1 0 97 (by decide)) (fun n => by rw [hw0 n, p1, y_bd]) (by omega) (by omega)
/-- a frame new on the pile runs all rules of its mode on its event -/
theorem m_frun (hF : 3000 ≤ F) (hTT : y_T T) (hax : y_ax T) (hmo : ∀ m, m < y_many T 7 → y_hd T m ≤ y_hd T (m + 1)) : ∀ (l : Nat), l ≤ 8 → ∀ (tp : Bool) (fr m : Nat) (ev : Int32) (top : Bool) (S : y_S) (V : zV), fr ≤ 8 - l → y_mw tp lv T S V → zI V 0 90 = nI (fr + 1) → y_fm V fr m ev (y_hd T m) 0 0 (y_R S 22 m) → m < y_many T 7 → y_dp V (fr + 1) = 8 - l →
    (top = true → tp = true ∧ ¬ ev < 0 ∧ y_I S 0 14 = 0) → (top = false → ev = -1 ∨ ev = -2) →
    y_ac S ≤ y_ac (y_rR T (l + 1) top m ev S) ∧ y_got F tp lv T fr top V (y_rR T (l + 1) top m ev S) (3 * (y_ac (y_rR T (l + 1) top m ev S) - y_ac S) + 1) := by
  intro l
  induction l with
  | zero =>
    intro hl tp fr m ev top S V hfr h h90 hf hm hdp ht1 ht2
    have g := m_run1 (F := F) (lv := lv) hF hTT hax (l := 0) (by omega) (fun q => absurd q (by decide)) (y_hd T (m + 1) - y_hd T m) [] fr m (y_hd T m) 0 ev (y_R S 22 m) top tp S V h hfr h90 hf hm (by have := hmo m hm; omega) (by decide) (fun i x z => by cases z) (fun x z => absurd z List.not_mem_nil) hdp (fun z => ⟨(ht1 z).1, (ht1 z).2.1⟩) ht2
    have e : y_run T (y_rec T 0) top m ev (y_R S 22 m) [] (List.range' (y_hd T m) (y_hd T (m + 1) - y_hd T m)) S = y_rR T (0 + 1) top m ev S := by
      unfold y_run
      rw [show y_as T (y_rec T 0) top m [] S = S from rfl, if_neg (fun z => z.elim (fun z => z.2 rfl) (fun z => z.2 (ht1 z.1).2.2))]; rfl
    rw [e, if_pos rfl] at g
    exact g
  | succ l ih =>
    intro hl tp fr m ev top S V hfr h h90 hf hm hdp ht1 ht2
    have g := m_run1 (F := F) (lv := lv) hF hTT hax (l := l + 1) hl (fun _ tp fr m ev S V q1 q2 q3 q4 q5 q6 q7 => ih (by omega) tp (fr + 1) m ev false S V (by omega) q2 q3 q4 q5 (by rw [q6]; omega) (fun z => absurd z (by decide)) (fun _ => q7)) (y_hd T (m + 1) - y_hd T m) [] fr m (y_hd T m) 0 ev (y_R S 22 m) top tp S V h hfr h90 hf hm (by have := hmo m hm; omega) (by decide) (fun i x z => by cases z) (fun x z => absurd z List.not_mem_nil) hdp (fun z => ⟨(ht1 z).1, (ht1 z).2.1⟩) ht2
    have e : y_run T (y_rec T (l + 1)) top m ev (y_R S 22 m) [] (List.range' (y_hd T m) (y_hd T (m + 1) - y_hd T m)) S = y_rR T (l + 1 + 1) top m ev S := by
      unfold y_run
      rw [show y_as T (y_rec T (l + 1)) top m [] S = S from rfl, if_neg (fun z => z.elim (fun z => z.2 rfl) (fun z => z.2 (ht1 z.1).2.2))]; rfl
    rw [e, if_pos rfl] at g
    exact g
end
