/-! ===== the reference reads, whole ===== -/
/-- the answer of a read and its place -/
def r_ans (b : Nat → Nat) (L : Nat) (x p : Int32) : Prop := match r_gram (r_tK b L) with
  | .error (f, j) => x = nI f ∧ p = nI (r_tS b L j)
  | .ok E => (x = 0 ∧ p = -1 ∧ ∀ j k, ¬ r_sP b L E (r_cn (r_tK b L) 18 E) j k) ∨
    ∃ j k, r_sP b L E (r_cn (r_tK b L) 18 E) j k ∧ j ≤ 1000 ∧ 1 ≤ k ∧ k ≤ 5 ∧ x = nI k ∧ p = nI (r_tS b L j) ∧ ∀ j' k', r_sP b L E (r_cn (r_tK b L) 18 E) j' k' → j < j' ∨ (j = j' ∧ k ≤ k')
def r_zs : List Nat := [2, 4, 10, 11, 12, 13, 14, 15, 16, 17, 18, 19, 20, 22, 41, 46, 51, 54, 58, 64]
def r_zw : List Nat := [2, 3, 4, 5, 10, 11, 35, 36, 39]
/-- the frame of a read -/
def r_fz (sd : Nat) (V V' : zV) : Prop := (∀ r k, ¬ (r = 0 ∧ k ∈ r_zs) → zI V' r k = zI V r k) ∧ (∀ r, r ∉ r_hr → r ∉ r_zw → zA V' r = zA V r) ∧ (∀ r, r ≠ 6 → r ≠ 9 → zB V' r = zB V r) ∧ (∀ r k, zL V' r k = zL V r k) ∧
  ∀ r ∈ r_hr, ∀ i, (i < sd * r_hs r ∨ sd * r_hs r + r_hs r ≤ i) → zA V' r i = zA V r i
theorem r_fz_refl {sd : Nat} {V : zV} : r_fz sd V V := ⟨fun _ _ _ => rfl, fun _ _ _ => rfl, fun _ _ _ => rfl, fun _ _ => rfl, fun _ _ _ _ => rfl⟩
theorem r_fz_trans {sd : Nat} {V V' V'' : zV} (h : r_fz sd V V') (g : r_fz sd V' V'') : r_fz sd V V'' :=
  ⟨fun r k m => (g.1 r k m).trans (h.1 r k m), fun r m n => (g.2.1 r m n).trans (h.2.1 r m n), fun r m n => (g.2.2.1 r m n).trans (h.2.2.1 r m n), fun r k => (g.2.2.2.1 r k).trans (h.2.2.2.1 r k), fun r hr i hi => (g.2.2.2.2 r hr i hi).trans (h.2.2.2.2 r hr i hi)⟩
theorem r_fz_fx {sd : Nat} {V V' : zV} (h : r_fx sd V V') : r_fz sd V V' :=
  ⟨fun r k m => h.1 r k fun z => m ⟨z.1, (show ∀ k ∈ r_sc, k ∈ r_zs by decide) k z.2⟩, fun r m n => h.2.1 r m fun z => n ((show ∀ k ∈ r_wr, k ∈ r_zw by decide) r z), fun r _ m => h.2.2.1 r m, h.2.2.2.1, h.2.2.2.2⟩
theorem r_fz_I {sd k : Nat} {V V' : zV} {x : Int32} (h : r_fz sd V V') (hk : k ∈ r_zs) : r_fz sd V (zsI V' 0 k x) := by
  refine ⟨fun r k' m => ?_, h.2.1, h.2.2.1, h.2.2.2.1, h.2.2.2.2⟩
  rw [y_get.1, if_neg (fun z => m ⟨z.1, by rw [z.2]; exact hk⟩)]
  exact h.1 r k' m
theorem r_fz_W {sd r : Nat} {V V' : zV} {f : Nat → Int32} (h : r_fz sd V V') (hr : r ∈ r_zw) : r_fz sd V (zsA V' r f) := by
  refine ⟨h.1, fun a m n => ?_, h.2.2.1, h.2.2.2.1, fun a ha i hi => ?_⟩
  · have e : zA (zsA V' r f) a = if a = r then f else zA V' a := rfl
    rw [e, if_neg (fun z => n (by rw [z]; exact hr))]
    exact h.2.1 a m n
  · have e : zA (zsA V' r f) a = if a = r then f else zA V' a := rfl
    rw [e, if_neg (fun z => by subst z; exact absurd hr ((show ∀ a ∈ r_hr, a ∉ r_zw by decide) a ha))]
    exact h.2.2.2.2 a ha i hi
theorem r_fz_fq {sd : Nat} {V V' : zV} (h : r_fq [(0, 10)] [3, 4, 5] [6] V V') : r_fz sd V V' :=
  ⟨fun r k m => h.1 r k fun z => m (by
    have := List.mem_singleton.mp z
    cases this
    exact ⟨rfl, by decide⟩), fun r _ n => h.2.1 r fun z => n ((show ∀ k ∈ [3, 4, 5], k ∈ r_zw by decide) r z), fun r m _ => h.2.2.1 r fun z => m (List.mem_singleton.mp z), h.2.2.2, fun r hr i _ => by rw [h.2.1 r fun z => absurd z ((show ∀ a ∈ r_hr, a ∉ [3, 4, 5] by decide) r hr)]⟩
section
variable {F : Nat} {b : Nat → Nat} {L M sd : Nat} {V : zV}
/-- what is told lies on the tape -/
def r_tp (b : Nat → Nat) (L : Nat) (V : zV) : Prop := L ≤ 4000 ∧ (∀ i, b i < 256) ∧ zI V 0 2 = nI L ∧ ∀ i, i < L → zA V 1 i = r_sg (b i)
theorem r_nar : ∀ n : Fin 256, vp_nar .byte (r_sg n.1) &&& 255 = nI n.1 := by decide +kernel
theorem m_l77 : ∀ (n N k : Nat) (V : zV), k + n = 9 → n + 1 ≤ N → zI V 0 19 = nI sd → sd ≤ 1 → (∀ w, w < k → zA V 8 (9 * sd + w) = 0) →
    ∃ V', fX12_read_l77 F N V (nI k) = fX12_read_l150 F F V' ∧ r_fx sd V V' ∧ (zI V' 0 22 = 0 ∧ zI V' 0 41 = nI (400 * sd) ∧ zI V' 0 46 = nI (1000 * sd) ∧ zI V' 0 54 = nI (1200 * sd) ∧ zI V' 0 51 = 0) ∧ (∀ k, k ∉ [22, 41, 46, 51, 54] → zI V' 0 k = zI V 0 k) ∧ (∀ r, ¬ r = 8 → zA V' r = zA V r) ∧ (∀ r, zB V' r = zB V r) ∧ ∀ w, w < 9 → zA V' 8 (9 * sd + w) = 0 := by
  intro n
  induction n with
  | zero =>
    intro N k V hk hN h19 hsd h8
    obtain ⟨N, rfl⟩ : ∃ N', N = N' + 1 := ⟨N - 1, by omega⟩
    have : k = 9 := by omega
    subst this
    rw [fX12_read_l77, if_pos (show (9 : Int32) ≤ nI 9 by decide)]
    have g1 : ∀ x, zI (zsI V 0 22 x) 0 19 = nI sd := fun _ => h19
    have g2 : ∀ x y, zI (zsI (zsI V 0 22 x) 0 41 y) 0 19 = nI sd := fun _ _ => h19
    have g3 : ∀ x y z, zI (zsI (zsI (zsI V 0 22 x) 0 41 y) 0 46 z) 0 19 = nI sd := fun _ _ _ => h19
    simp only [y_let, g1, g2, g3, show (400 : Int32) = nI 400 from rfl, show (1000 : Int32) = nI 1000 from rfl, show (1200 : Int32) = nI 1200 from rfl, pk_mul]
    refine ⟨_, rfl, r_fx_I (r_fx_I (r_fx_I (r_fx_I (r_fx_I r_fx_refl (by decide)) (by decide)) (by decide)) (by decide)) (by decide), ⟨rfl, rfl, rfl, rfl, rfl⟩, fun k hk => ?_, fun _ _ => rfl, fun _ => rfl, h8⟩
    have hk : ¬ k = 22 ∧ ¬ k = 41 ∧ ¬ k = 46 ∧ ¬ k = 51 ∧ ¬ k = 54 := by
      simpa using hk
    rw [y_get.1, if_neg (fun z => by omega), y_get.1, if_neg (fun z => by omega), y_get.1, if_neg (fun z => by omega), y_get.1, if_neg (fun z => by omega), y_get.1, if_neg (fun z => by omega)]
  | succ n ih =>
    intro N k V hk hN h19 hsd h8
    obtain ⟨N, rfl⟩ : ∃ N', N = N' + 1 := ⟨N - 1, by omega⟩
    rw [fX12_read_l77, if_neg (show ¬ (9 : Int32) ≤ nI k from nI_ge (b := 9) (by omega) (by decide)), h19, show (9 : Int32) = nI 9 from rfl, pk_mul, nI_add, y_ck (by omega) (by decide), y_let, nI_clamp (by omega), nI_1]
    have fx : r_fx sd V (zsA V 8 (upd (zA V 8) (9 * sd + k) 0)) := r_fx_H (k := k) r_fx_refl (by decide) (by rw [show r_hs 8 = 9 from rfl, Nat.mul_comm]) (by show k < 9; omega)
    obtain ⟨V', a1, a2, a3, a4, a5, a6, a7⟩ := ih N (k + 1) (zsA V 8 (upd (zA V 8) (9 * sd + k) 0)) (by omega) (by omega) h19 hsd fun w hw => by
      show upd (zA V 8) (9 * sd + k) 0 _ = _
      rw [y_upd]
      by_cases q : w = k
      · subst q; rw [if_pos rfl]
      · rw [if_neg (by omega)]; exact h8 w (by omega)
    refine ⟨V', a1, r_fx_trans fx a2, a3, a4, fun r hr => (a5 r hr).trans ?_, a6, a7⟩
    show (if r = 8 then _ else zA V r) = _
    rw [if_neg hr]
theorem m_l10 (ht : r_tp b L V) : ∀ (n N k : Nat) (V1 : zV), k + n = L → n + 1 ≤ N → zI V1 0 4 = nI L → (∀ i, i < L → zA V1 1 i = r_sg (b i)) → (∀ i, i < k → zA V1 2 i &&& 255 = nI (b i)) →
    ∃ V2, fX12_read_l10 F N V1 (nI k) = (zbd (fX12_cut F (zsI V2 0 2 0)) fun q54 =>
      zlet (zsI q54 0 11 (0 : Int32)) fun V7_56 =>
      zlet (zsI V7_56 0 12 (0 : Int32)) fun V7_58 =>
      zlet (zsI V7_58 0 13 (0 : Int32)) fun V7_60 =>
      zlet (zsI V7_60 0 15 (0 : Int32)) fun V7_62 =>
      zlet (zsI V7_62 0 19 ((1 : Int32) - (zI V7_62 0 18))) fun V7_64 =>
      fX12_read_l77 F F V7_64 (0 : Int32)) ∧ ((∀ r k, zI V2 r k = zI V1 r k) ∧ (∀ r, ¬ r = 2 → zA V2 r = zA V1 r) ∧ (∀ r, zB V2 r = zB V1 r) ∧ ∀ r k, zL V2 r k = zL V1 r k) ∧ (∀ i, i < L → zA V2 2 i &&& 255 = nI (b i)) := by
  have hL := ht.1
  have hb := ht.2.1
  intro n
  induction n with
  | zero =>
    intro N k V1 hk hN h4 h1 h2
    obtain ⟨N, rfl⟩ : ∃ N', N = N' + 1 := ⟨N - 1, by omega⟩
    have : k = L := by omega
    subst this
    rw [fX12_read_l10, h4, if_pos (nI_le (Nat.le_refl _) (by omega)), y_let]
    exact ⟨V1, rfl, ⟨fun _ _ => rfl, fun _ _ => rfl, fun _ => rfl, fun _ _ => rfl⟩, h2⟩
  | succ n ih =>
    intro N k V1 hk hN h4 h1 h2
    obtain ⟨N, rfl⟩ : ∃ N', N = N' + 1 := ⟨N - 1, by omega⟩
    rw [fX12_read_l10, h4, if_neg (nI_ge (show k < L by omega) (by omega)), y_ck (by omega) (by decide), y_ck (by omega) (by decide), y_let, nI_clamp (by omega), h1 k (by omega), nI_1]
    obtain ⟨V2, a1, a2, a3⟩ := ih N (k + 1) (zsA V1 2 (upd (zA V1 2) k (vp_nar .byte (r_sg (b k))))) (by omega) (by omega) h4 h1 fun i hi => by
      show upd (zA V1 2) k _ i &&& 255 = _
      rw [y_upd]
      by_cases q : i = k
      · subst q; rw [if_pos rfl]; exact r_nar ⟨b i, hb i⟩
      · rw [if_neg q]; exact h2 i (by omega)
    refine ⟨V2, a1, ⟨a2.1, fun r hr => (a2.2.1 r hr).trans ?_, a2.2.2.1, a2.2.2.2⟩, a3⟩
    show (if r = 2 then _ else zA V1 r) = _
    rw [if_neg hr]
end
