/-! ===== the reference's frames and modes ===== -/
/-- how many of the frames are of rules on begin or on stop -/
def y_dp (V : zV) (fr : Nat) : Nat := ((List.range fr).filter fun f => zA V 58 f < 0).length
def y_ff : List Nat := [57, 58, 59, 60, 61, 62]
section
variable {F : Nat} {T : zV} {lv : Nat} {S : y_S} {V V' : zV}
theorem y_dp_succ {fr : Nat} : y_dp V (fr + 1) = y_dp V fr + (if zA V 58 fr < 0 then 1 else 0) := by
  unfold y_dp
  rw [List.range_succ, List.filter_append, List.length_append, List.filter_cons]
  by_cases q : zA V 58 fr < 0
  · rw [if_pos q, if_pos (decide_eq_true q)]; rfl
  · rw [if_neg q, if_neg (fun z => q (of_decide_eq_true z))]; rfl
theorem y_dp_le {fr : Nat} : y_dp V fr ≤ fr := by
  unfold y_dp
  refine Nat.le_trans (List.length_filter_le _ _) ?_
  rw [List.length_range]; exact Nat.le_refl _
theorem y_dp_eq {fr : Nat} (h : ∀ f, f < fr → zA V' 58 f = zA V 58 f) : y_dp V' fr = y_dp V fr := by
  unfold y_dp
  congr 1
  apply List.filter_congr
  intro f hf
  rw [h f (List.mem_range.mp hf)]
theorem m_deepl {fr : Nat} (hfr : fr ≤ 12) (h : zI V 0 90 = nI fr) : ∀ (r i n : Nat), i + r = fr → r + 1 ≤ n → fX12_deep_l4 F n V (nI (y_dp V i)) (nI i) = some (nI (y_dp V fr)) := by
  intro r
  induction r with
  | zero =>
    intro i n e hn
    obtain ⟨n, rfl⟩ : ∃ n', n = n' + 1 := ⟨n - 1, by omega⟩
    have : i = fr := by omega
    subst this
    rw [fX12_deep_l4, h, if_pos (nI_le (Nat.le_refl _) (by omega))]
  | succ r ih =>
    intro i n e hn
    obtain ⟨n, rfl⟩ : ∃ n', n = n' + 1 := ⟨n - 1, by omega⟩
    rw [fX12_deep_l4, h, if_neg (nI_ge (by omega) (by omega)), y_ck (by omega) (by decide), nI_clamp (by omega)]
    have g := ih (i + 1) n (by omega) (by omega)
    rw [y_dp_succ] at g
    by_cases q : zA V 58 i < 0
    · rw [if_pos q] at g
      rw [if_neg (Int32.not_le.mpr q), fX12_deep_b24, nI_1, nI_1]; exact g
    · rw [if_neg q] at g
      rw [if_pos (Int32.not_lt.mp q), fX12_deep_b24, nI_1]; exact g
theorem m_deep (hF : 3000 ≤ F) {fr : Nat} (hfr : fr ≤ 12) (h : zI V 0 90 = nI fr) : fX12_deep F V = some (nI (y_dp V fr)) := m_deepl hfr h fr 0 F (by omega) (by omega)
/-- frame i: its mode, what it is on, its next rule, its next act, where its acts end, how often the mode had gone off -/
def y_fm (V : zV) (i m : Nat) (ev : Int32) (r a e : Nat) (o : Int32) : Prop := zA V 57 i = nI m ∧ zA V 58 i = ev ∧ zA V 59 i = nI r ∧ zA V 60 i = nI a ∧ zA V 61 i = nI e ∧ zA V 62 i = o
/-- a frame is laid on top -/
theorem m_frame (hT : y_mt T lv V) {fr m R : Nat} {ev : Int32} (hfr : fr < 12) (h : zI V 0 90 = nI fr) (hm : m < y_many T 7) (hm12 : y_many T 7 ≤ 12) (hd : zA T 16 m = nI R) :
    ∃ V', fX12_frame F V (nI m) ev = some V' ∧ zI V' 0 90 = nI (fr + 1) ∧ y_fm V' fr m ev R 0 0 (zA V 52 m) ∧ y_fr [(0, 90)] y_ff V V' ∧ (∀ r ∈ y_ff, ∀ i, i < fr → zA V' r i = zA V r i) := by
  have h23 : zA V 23 (13 * lv + m) = nI R := (hT.2.2.2.1 m (by omega)).trans hd
  have hlv := hT.1.1
  unfold fX12_frame
  simp only [y_get, reduceIte, Nat.reduceEqDiff, h, hT.1.2, show (13 : Int32) = nI 13 from rfl, pk_mul, nI_add, y_ck (show fr < 12 by omega) (by decide), y_ck (show m < 12 by omega) (by decide), y_ck (show 13 * lv + m < 26 by omega) (by decide), y_let, nI_clamp (show fr < 2 ^ 31 by omega), nI_clamp (show m < 2 ^ 31 by omega), nI_clamp (show 13 * lv + m < 2 ^ 31 by omega), nI_1]
  refine ⟨_, rfl, ?_, ⟨?_, ?_, ?_, ?_, ?_, ?_⟩, ?_, ?_⟩
  · rfl
  · show upd (zA V 57) fr (nI m) fr = _
    rw [y_upd, if_pos rfl]
  · show upd (zA V 58) fr ev fr = _
    rw [y_upd, if_pos rfl]
  · show upd (zA V 59) fr (zA V 23 (13 * lv + m)) fr = _
    rw [y_upd, if_pos rfl, h23]
  · show upd (zA V 60) fr 0 fr = _
    rw [y_upd, if_pos rfl]; rfl
  · show upd (zA V 61) fr 0 fr = _
    rw [y_upd, if_pos rfl]; rfl
  · show upd (zA V 62) fr (zA V 52 m) fr = _
    rw [y_upd, if_pos rfl]
  · refine y_fr_I (y_fr_A (y_fr_A (y_fr_A (y_fr_A (y_fr_A (y_fr_A y_fr_refl ?_) ?_) ?_) ?_) ?_) ?_) ?_ <;> decide
  · intro r hr i hi
    have hr' : r = 57 ∨ r = 58 ∨ r = 59 ∨ r = 60 ∨ r = 61 ∨ r = 62 := by
      have : r ∈ [57, 58, 59, 60, 61, 62] := hr
      simpa using this
    have u : ∀ (f : Nat → Int32) (x : Int32), upd f fr x i = f i := fun f x => by rw [y_upd, if_neg (by omega)]
    rcases hr' with rfl | rfl | rfl | rfl | rfl | rfl <;> exact u _ _
/-- a mode starts; one frame more where its rules on begin are to be done -/
theorem m_starts (hF : 3000 ≤ F) (hT : y_mt T lv V) (h : y_mg T S V) {fr m R : Nat} (hfr : fr < 12) (h90 : zI V 0 90 = nI fr) (hm : m < y_many T 7) (hm12 : y_many T 7 ≤ 12) (hd : zA T 16 m = nI R) :
    ∃ V1, y_mg T (y_on T S m).2 V1 ∧ y_fr [] [49, 50, 51] V V1 ∧
      (((y_on T S m).1 = false ∧ fX12_starts F V (nI m) = some V1) ∨
       ((y_on T S m).1 = true ∧ 8 ≤ y_dp V fr ∧ fX12_starts F V (nI m) = some V1) ∨
       ((y_on T S m).1 = true ∧ y_dp V fr < 8 ∧ ∃ V2, fX12_starts F V (nI m) = some V2 ∧ zI V2 0 90 = nI (fr + 1) ∧ y_fm V2 fr m (-1) R 0 0 (y_R (y_on T S m).2 22 m) ∧ y_fr [(0, 90)] y_ff V1 V2 ∧ (∀ r ∈ y_ff, ∀ i, i < fr → zA V2 r i = zA V1 r i))) := by
  have hlv := hT.1.1
  have h22 : zA V 22 (12 * lv + m) = zA T 11 m := (hT.2.2.1 m hm).2
  have r49 : zA V 49 m = y_R S 19 m := y_mg_r h (r := 19) (by decide) (show m < 12 by omega)
  have r51 : zA V 51 m = y_R S 21 m := y_mg_r h (r := 21) (by decide) (show m < 12 by omega)
  have hs : fX12_starts F V (nI m) = if y_R S 19 m = 0 then zbd (fX12_deep F (zsA (zsA (zsA V 49 (upd (zA V 49) m 1)) 50 (upd (zA V 50) m (zA T 11 m))) 51 (upd (zA V 51) m (y_R S 21 m + 1)))) fun q16 => if (8 : Int32) ≤ q16 then some (zsA (zsA (zsA V 49 (upd (zA V 49) m 1)) 50 (upd (zA V 50) m (zA T 11 m))) 51 (upd (zA V 51) m (y_R S 21 m + 1))) else zbd (fX12_frame F (zsA (zsA (zsA V 49 (upd (zA V 49) m 1)) 50 (upd (zA V 50) m (zA T 11 m))) 51 (upd (zA V 51) m (y_R S 21 m + 1))) (nI m) (-1)) fun q19 => some q19 else some (zsA (zsA V 49 (upd (zA V 49) m 1)) 50 (upd (zA V 50) m (zA T 11 m))) := by
    unfold fX12_starts
    simp only [hT.1.2, show (12 : Int32) = nI 12 from rfl, pk_mul, nI_add, y_ck (show m < 12 by omega) (by decide), y_ck (show 12 * lv + m < 24 by omega) (by decide), y_let, nI_clamp (show m < 2 ^ 31 by omega), nI_clamp (show 12 * lv + m < 2 ^ 31 by omega), y_bool1, h22, r49, r51, y_get, reduceIte, Nat.reduceEqDiff]
  have h1 : y_mg T (y_sR (y_sR S 19 m 1) 20 m (zA T 11 m)) (zsA (zsA V 49 (upd (zA V 49) m 1)) 50 (upd (zA V 50) m (zA T 11 m))) := y_mg_A (y_mg_A h (by decide) (fun _ => Or.inr rfl)) (by decide) (fun q => by omega)
  rw [hs]
  unfold y_on
  by_cases q : y_R S 19 m = 0
  · rw [if_pos q, if_pos q]
    have h2 : y_mg T (y_sR (y_sR (y_sR S 19 m 1) 20 m (zA T 11 m)) 21 m (y_R S 21 m + 1)) (zsA (zsA (zsA V 49 (upd (zA V 49) m 1)) 50 (upd (zA V 50) m (zA T 11 m))) 51 (upd (zA V 51) m (y_R S 21 m + 1))) := y_mg_A h1 (by decide) (fun q => by omega)
    have eS : y_sR (y_sR (y_sR S 19 m 1) 20 m (zA T 11 m)) 21 m (y_R S 21 m + 1) = y_sR (y_sR (y_sR S 20 m (zA T 11 m)) 19 m 1) 21 m (y_R S 21 m + 1) := by
      refine Prod.ext (y_zext (fun _ _ => rfl) (fun _ _ => rfl) (fun r => ?_) (fun _ => rfl) (fun _ _ => rfl) (fun _ => rfl)) rfl
      show (if r = 21 then _ else if r = 20 then _ else if r = 19 then _ else zA S.1 r) = (if r = 21 then _ else if r = 19 then _ else if r = 20 then _ else zA S.1 r)
      by_cases q1 : r = 21
      · rw [if_pos q1, if_pos q1]; rfl
      rw [if_neg q1, if_neg q1]
      by_cases q2 : r = 20
      · rw [if_pos q2, if_neg (by omega), if_pos q2]; rfl
      · rw [if_neg q2]
        by_cases q3 : r = 19
        · rw [if_pos q3, if_pos q3]; rfl
        · rw [if_neg q3, if_neg q3, if_neg q2]
    rw [eS] at h2
    have fV : y_fr [] [49, 50, 51] V (zsA (zsA (zsA V 49 (upd (zA V 49) m 1)) 50 (upd (zA V 50) m (zA T 11 m))) 51 (upd (zA V 51) m (y_R S 21 m + 1))) := y_fr_A (y_fr_A (y_fr_A y_fr_refl (by decide)) (by decide)) (by decide)
    generalize zsA (zsA (zsA V 49 (upd (zA V 49) m 1)) 50 (upd (zA V 50) m (zA T 11 m))) 51 (upd (zA V 51) m (y_R S 21 m + 1)) = V1 at h2 fV ⊢
    have h90' : zI V1 0 90 = nI fr := (fV.1 0 90 List.not_mem_nil).trans h90
    have hdp : y_dp V1 fr = y_dp V fr := y_dp_eq fun f _ => by rw [fV.2.1 58 (by decide)]
    rw [m_deep hF (by omega) h90', y_bd, hdp]
    refine ⟨V1, h2, fV, ?_⟩
    by_cases q8 : 8 ≤ y_dp V fr
    · rw [if_pos (show (8 : Int32) ≤ nI (y_dp V fr) from nI_le (a := 8) q8 (by have := y_dp_le (V := V) (fr := fr); omega))]
      exact Or.inr (Or.inl ⟨rfl, q8, rfl⟩)
    · rw [if_neg (show ¬ (8 : Int32) ≤ nI (y_dp V fr) from nI_ge (b := 8) (by omega) (by decide))]
      obtain ⟨V2, i1, i2, i3, i4, i5⟩ := m_frame (F := F) (ev := -1) (y_mt_fr hT fV List.not_mem_nil (by decide)) hfr h90' hm hm12 hd
      rw [i1, y_bd]
      refine Or.inr (Or.inr ⟨rfl, by omega, V2, rfl, i2, ?_, i4, i5⟩)
      rw [y_mg_r h2 (r := 22) (by decide) (show m < 12 by omega)] at i3
      exact i3
  · rw [if_neg q, if_neg q]
    refine ⟨_, ?_, y_fr_A (y_fr_A y_fr_refl (by decide)) (by decide), Or.inl ⟨rfl, rfl⟩⟩
    have e1 : y_sR S 19 m 1 = S := by
      have hb := (h.2.2.2.2.2.2.2.1 m (by omega)).resolve_left q
      refine Prod.ext (y_zext (fun _ _ => rfl) (fun _ _ => rfl) (fun r => ?_) (fun _ => rfl) (fun _ _ => rfl) (fun _ => rfl)) rfl
      show (if r = 19 then upd (zA S.1 19) m 1 else zA S.1 r) = zA S.1 r
      by_cases q1 : r = 19
      · rw [if_pos q1, q1]
        funext j
        rw [y_upd]
        by_cases q2 : j = m
        · rw [if_pos q2, q2]; exact hb.symm
        · rw [if_neg q2]
      · rw [if_neg q1]
    rw [e1] at h1
    exact h1
/-- a mode leaves -/
theorem m_leaves (hF : 3000 ≤ F) (hT : y_mt T lv V) (h : y_mg T S V) {fr m R : Nat} (hfr : fr < 12) (h90 : zI V 0 90 = nI fr) (hm : m < y_many T 7) (hm12 : y_many T 7 ≤ 12) (hd : zA T 16 m = nI R) :
    ∃ V1, y_mg T (y_off S m).2 V1 ∧ y_fr [] [49, 50, 52] V V1 ∧
      (((y_off S m).1 = false ∧ fX12_leaves F V (nI m) = some V1) ∨
       ((y_off S m).1 = true ∧ 8 ≤ y_dp V fr ∧ fX12_leaves F V (nI m) = some V1) ∨
       ((y_off S m).1 = true ∧ y_dp V fr < 8 ∧ ∃ V2, fX12_leaves F V (nI m) = some V2 ∧ zI V2 0 90 = nI (fr + 1) ∧ y_fm V2 fr m (-2) R 0 0 (y_R (y_off S m).2 22 m) ∧ y_fr [(0, 90)] y_ff V1 V2 ∧ (∀ r ∈ y_ff, ∀ i, i < fr → zA V2 r i = zA V1 r i))) := by
  have r49 : zA V 49 m = y_R S 19 m := y_mg_r h (r := 19) (by decide) (show m < 12 by omega)
  have r52 : zA V 52 m = y_R S 22 m := y_mg_r h (r := 22) (by decide) (show m < 12 by omega)
  have hs : fX12_leaves F V (nI m) = if y_R S 19 m = 0 then some V else zbd (fX12_deep F (zsA (zsA (zsA V 49 (upd (zA V 49) m 0)) 50 (upd (zA V 50) m 0)) 52 (upd (zA V 52) m (y_R S 22 m + 1)))) fun q16 => if (8 : Int32) ≤ q16 then some (zsA (zsA (zsA V 49 (upd (zA V 49) m 0)) 50 (upd (zA V 50) m 0)) 52 (upd (zA V 52) m (y_R S 22 m + 1))) else zbd (fX12_frame F (zsA (zsA (zsA V 49 (upd (zA V 49) m 0)) 50 (upd (zA V 50) m 0)) 52 (upd (zA V 52) m (y_R S 22 m + 1))) (nI m) (-2)) fun q19 => some q19 := by
    unfold fX12_leaves
    simp only [y_ck (show m < 12 by omega) (by decide), y_let, nI_clamp (show m < 2 ^ 31 by omega), y_bool0, r49, r52, y_get, reduceIte, Nat.reduceEqDiff]
  rw [hs]
  unfold y_off
  by_cases q : y_R S 19 m = 0
  · rw [if_pos q, if_pos q]
    exact ⟨V, h, y_fr_refl, Or.inl ⟨rfl, rfl⟩⟩
  · rw [if_neg q, if_neg q]
    have h2 : y_mg T (y_sR (y_sR (y_sR S 19 m 0) 20 m 0) 22 m (y_R S 22 m + 1)) (zsA (zsA (zsA V 49 (upd (zA V 49) m 0)) 50 (upd (zA V 50) m 0)) 52 (upd (zA V 52) m (y_R S 22 m + 1))) := y_mg_A (y_mg_A (y_mg_A h (by decide) (fun _ => Or.inl rfl)) (by decide) (fun q => by omega)) (by decide) (fun q => by omega)
    have fV : y_fr [] [49, 50, 52] V (zsA (zsA (zsA V 49 (upd (zA V 49) m 0)) 50 (upd (zA V 50) m 0)) 52 (upd (zA V 52) m (y_R S 22 m + 1))) := y_fr_A (y_fr_A (y_fr_A y_fr_refl (by decide)) (by decide)) (by decide)
    generalize zsA (zsA (zsA V 49 (upd (zA V 49) m 0)) 50 (upd (zA V 50) m 0)) 52 (upd (zA V 52) m (y_R S 22 m + 1)) = V1 at h2 fV ⊢
    have h90' : zI V1 0 90 = nI fr := (fV.1 0 90 List.not_mem_nil).trans h90
    have hdp : y_dp V1 fr = y_dp V fr := y_dp_eq fun f _ => by rw [fV.2.1 58 (by decide)]
    rw [m_deep hF (by omega) h90', y_bd, hdp]
    refine ⟨V1, h2, fV, ?_⟩
    by_cases q8 : 8 ≤ y_dp V fr
    · rw [if_pos (show (8 : Int32) ≤ nI (y_dp V fr) from nI_le (a := 8) q8 (by have := y_dp_le (V := V) (fr := fr); omega))]
      exact Or.inr (Or.inl ⟨rfl, q8, rfl⟩)
    · rw [if_neg (show ¬ (8 : Int32) ≤ nI (y_dp V fr) from nI_ge (b := 8) (by omega) (by decide))]
      obtain ⟨V2, i1, i2, i3, i4, i5⟩ := m_frame (F := F) (ev := -2) (y_mt_fr hT fV List.not_mem_nil (by decide)) hfr h90' hm hm12 hd
      rw [i1, y_bd]
      refine Or.inr (Or.inr ⟨rfl, by omega, V2, rfl, i2, ?_, i4, i5⟩)
      rw [y_mg_r h2 (r := 22) (by decide) (show m < 12 by omega)] at i3
      exact i3
/-- all modes but the first go off -/
theorem m_offsl (hm12 : y_many T 7 ≤ 12) (h7 : zA T 1 7 = nI (y_many T 7)) : ∀ (r i n : Nat) (S : y_S) (V : zV), i + r = y_many T 7 → r + 1 ≤ n → y_mt T lv V → y_mg T S V → (∀ m, m < 12 → y_R S 19 m = 0 → y_R S 20 m = 0) →
    ∃ V', fX12_offs_l2 F n V (nI i) = some V' ∧ y_mg T ((List.range' i r).foldl (fun S m => (y_off S m).2) S) V' ∧ y_fr [] [49, 50, 52] V V' := by
  intro r
  induction r with
  | zero =>
    intro i n S V e hn hT h hz
    obtain ⟨n, rfl⟩ : ∃ n', n = n' + 1 := ⟨n - 1, by omega⟩
    refine ⟨V, ?_, h, y_fr_refl⟩
    rw [fX12_offs_l2, show (7 : Int32) = nI 7 from rfl, m_sort hT (by decide), y_bd, h7, if_pos (nI_le (by omega) (by omega))]
  | succ r ih =>
    intro i n S V e hn hT h hz
    obtain ⟨n, rfl⟩ : ∃ n', n = n' + 1 := ⟨n - 1, by omega⟩
    have r49 : zA V 49 i = y_R S 19 i := y_mg_r h (r := 19) (by decide) (show i < 12 by omega)
    have r50 : zA V 50 i = y_R S 20 i := y_mg_r h (r := 20) (by decide) (show i < 12 by omega)
    have r52 : zA V 52 i = y_R S 22 i := y_mg_r h (r := 22) (by decide) (show i < 12 by omega)
    have next : ∀ (S : y_S) (V1 : zV), y_mt T lv V1 → y_mg T S V1 → (∀ m, m < 12 → y_R S 19 m = 0 → y_R S 20 m = 0) → ∃ V', fX12_offs_l2 F n V1 (nI i + 1) = some V' ∧ y_mg T ((List.range' (i + 1) r).foldl (fun S m => (y_off S m).2) S) V' ∧ y_fr [] [49, 50, 52] V1 V' := by
      intro S V1 a b c
      rw [nI_1]
      exact ih (i + 1) n S V1 (by omega) (by omega) a b c
    rw [fX12_offs_l2, show (7 : Int32) = nI 7 from rfl, m_sort hT (by decide), y_bd, h7, if_neg (nI_ge (by omega) (by omega)), y_ck (by omega) (by decide)]
    simp only [nI_clamp (show i < 2 ^ 31 by omega), r49]
    rw [List.range'_succ, List.foldl_cons]
    by_cases q : y_R S 19 i = 0
    · have e0 : (y_off S i).2 = S := by unfold y_off; rw [if_pos q]
      rw [if_pos q, fX12_offs_b31, y_ck (by omega) (by decide), y_let, y_ck (by omega) (by decide), y_let, y_bool0, e0]
      simp only [nI_clamp (show i < 2 ^ 31 by omega)]
      have h2 : y_mg T (y_sR (y_sR S 19 i 0) 20 i 0) (zsA (zsA V 49 (upd (zA V 49) i 0)) 50 (upd (zA (zsA V 49 (upd (zA V 49) i 0)) 50) i 0)) := y_mg_A (y_mg_A h (by decide) (fun _ => Or.inl rfl)) (by decide) (fun q => by omega)
      have eS : y_sR (y_sR S 19 i 0) 20 i 0 = S := by
        refine Prod.ext (y_zext (fun _ _ => rfl) (fun _ _ => rfl) (fun r => ?_) (fun _ => rfl) (fun _ _ => rfl) (fun _ => rfl)) rfl
        show (if r = 20 then upd (zA S.1 20) i 0 else if r = 19 then upd (zA S.1 19) i 0 else zA S.1 r) = zA S.1 r
        by_cases q1 : r = 20
        · rw [if_pos q1, q1]
          funext j
          rw [y_upd]
          by_cases q2 : j = i
          · rw [if_pos q2, q2]; exact (hz i (by omega) q).symm
          · rw [if_neg q2]
        rw [if_neg q1]
        by_cases q3 : r = 19
        · rw [if_pos q3, q3]
          funext j
          rw [y_upd]
          by_cases q2 : j = i
          · rw [if_pos q2, q2]; exact q.symm
          · rw [if_neg q2]
        · rw [if_neg q3]
      rw [eS] at h2
      have f : y_fr [] [49, 50, 52] V (zsA (zsA V 49 (upd (zA V 49) i 0)) 50 (upd (zA (zsA V 49 (upd (zA V 49) i 0)) 50) i 0)) := y_fr_A (y_fr_A y_fr_refl (by decide)) (by decide)
      obtain ⟨V2, a1, a2, a3⟩ := next S _ (y_mt_fr hT f List.not_mem_nil (by decide)) h2 hz
      exact ⟨V2, a1, a2, y_fr_trans f a3⟩
    · have e0 : (y_off S i).2 = y_sR (y_sR (y_sR S 19 i 0) 20 i 0) 22 i (y_R S 22 i + 1) := by unfold y_off; rw [if_neg q]
      rw [if_neg q, y_ck (by omega) (by decide), y_ck (by omega) (by decide), y_let, fX12_offs_b31, y_ck (by omega) (by decide), y_let, y_ck (by omega) (by decide), y_let, y_bool0, e0]
      simp only [nI_clamp (show i < 2 ^ 31 by omega), r52]
      have h2 : y_mg T (y_sR (y_sR (y_sR S 22 i (y_R S 22 i + 1)) 19 i 0) 20 i 0) (zsA (zsA (zsA V 52 (upd (zA V 52) i (y_R S 22 i + 1))) 49 (upd (zA (zsA V 52 (upd (zA V 52) i (y_R S 22 i + 1))) 49) i 0)) 50 (upd (zA (zsA (zsA V 52 (upd (zA V 52) i (y_R S 22 i + 1))) 49 (upd (zA (zsA V 52 (upd (zA V 52) i (y_R S 22 i + 1))) 49) i 0)) 50) i 0)) := y_mg_A (y_mg_A (y_mg_A h (by decide) (fun q => by omega)) (by decide) (fun _ => Or.inl rfl)) (by decide) (fun q => by omega)
      have eS : y_sR (y_sR (y_sR S 22 i (y_R S 22 i + 1)) 19 i 0) 20 i 0 = y_sR (y_sR (y_sR S 19 i 0) 20 i 0) 22 i (y_R S 22 i + 1) := by
        refine Prod.ext (y_zext (fun _ _ => rfl) (fun _ _ => rfl) (fun r => ?_) (fun _ => rfl) (fun _ _ => rfl) (fun _ => rfl)) rfl
        show (if r = 20 then upd (zA S.1 20) i 0 else if r = 19 then upd (zA S.1 19) i 0 else if r = 22 then upd (zA S.1 22) i (y_R S 22 i + 1) else zA S.1 r) = if r = 22 then upd (zA S.1 22) i (y_R S 22 i + 1) else if r = 20 then upd (zA S.1 20) i 0 else if r = 19 then upd (zA S.1 19) i 0 else zA S.1 r
        by_cases q1 : r = 22
        · rw [if_neg (by omega), if_neg (by omega), if_pos q1, if_pos q1]
        · rw [if_neg q1, if_neg q1]
      rw [eS] at h2
      have f : y_fr [] [49, 50, 52] V (zsA (zsA (zsA V 52 (upd (zA V 52) i (y_R S 22 i + 1))) 49 (upd (zA (zsA V 52 (upd (zA V 52) i (y_R S 22 i + 1))) 49) i 0)) 50 (upd (zA (zsA (zsA V 52 (upd (zA V 52) i (y_R S 22 i + 1))) 49 (upd (zA (zsA V 52 (upd (zA V 52) i (y_R S 22 i + 1))) 49) i 0)) 50) i 0)) := y_fr_A (y_fr_A (y_fr_A y_fr_refl (by decide)) (by decide)) (by decide)
      obtain ⟨V2, a1, a2, a3⟩ := next _ _ (y_mt_fr hT f List.not_mem_nil (by decide)) h2 (fun m hm => by
        show upd (zA S.1 19) i 0 m = 0 → upd (zA S.1 20) i 0 m = 0
        rw [y_upd, y_upd]
        by_cases e : m = i
        · rw [if_pos e, if_pos e]; exact fun z => z
        · rw [if_neg e, if_neg e]; exact hz m hm)
      exact ⟨V2, a1, a2, y_fr_trans f a3⟩
end
