/-! ===== layouts as sets ===== -/
theorem y_fold_mem (l : List Nat) (f : Nat → Option Nat) : ∀ (A : List Nat) (x : Nat), x ∈ l.foldl (fun L w => y_put L (f w)) A ↔ x ∈ A ∨ ∃ w, w ∈ l ∧ f w = some x := by
  induction l with
  | nil => intro A x; simp
  | cons w l ih =>
    intro A x
    rw [List.foldl_cons, ih, y_put_mem]
    constructor
    · rintro ((h | h) | ⟨v, hv, h⟩)
      · exact Or.inl h
      · exact Or.inr ⟨w, List.mem_cons_self, h⟩
      · exact Or.inr ⟨v, List.mem_cons_of_mem _ hv, h⟩
    · rintro (h | ⟨v, hv, h⟩)
      · exact Or.inl (Or.inl h)
      · rcases List.mem_cons.mp hv with z | z
        · rw [z] at h; exact Or.inl (Or.inr h)
        · exact Or.inr ⟨v, z, h⟩
theorem y_fold_nd (l : List Nat) (f : Nat → Option Nat) : ∀ (A : List Nat), A.Nodup → (l.foldl (fun L w => y_put L (f w)) A).Nodup := by
  induction l with
  | nil => intro A h; exact h
  | cons w l ih => intro A h; exact ih _ (y_put_nd h)
theorem y_mvA_mem {B A : List Nat} {a b x : Nat} : x ∈ y_mvA B A a b ↔ x ∈ A ∨ ∃ c, c ∈ B ∧ y_mv c a b = some x := y_fold_mem B (fun c => y_mv c a b) A x
theorem y_fold2_mem (l : List Nat) (g : List Nat → Nat → List Nat) (Q : Nat → Nat → Prop) (hg : ∀ A i x, x ∈ g A i ↔ x ∈ A ∨ Q i x) : ∀ (A : List Nat) (x : Nat), x ∈ l.foldl g A ↔ x ∈ A ∨ ∃ i, i ∈ l ∧ Q i x := by
  induction l with
  | nil => intro A x; simp
  | cons w l ih =>
    intro A x
    rw [List.foldl_cons, ih, hg]
    constructor
    · rintro ((h | h) | ⟨v, hv, h⟩)
      · exact Or.inl h
      · exact Or.inr ⟨w, List.mem_cons_self, h⟩
      · exact Or.inr ⟨v, List.mem_cons_of_mem _ hv, h⟩
    · rintro (h | ⟨v, hv, h⟩)
      · exact Or.inl (Or.inl h)
      · rcases List.mem_cons.mp hv with z | z
        · rw [z] at h; exact Or.inl (Or.inr h)
        · exact Or.inr ⟨v, z, h⟩
section
variable {F : Nat} {T : zV} {lv : Nat} {S : y_S} {V V' : zV}
theorem y_silent_lt {w : Nat} (h : w ∈ y_silent T) : w < y_many T 5 := by
  unfold y_silent at h
  exact List.mem_range.mp (List.mem_filter.mp h).1
theorem y_spr_sub : ∀ (n i : Nat) (A : List Nat) (x : Nat), x ∈ A → x ∈ y_spr T n i A := by
  intro n
  induction n with
  | zero => intro i A x h; exact h
  | succ n ih =>
    intro i A x h
    rw [y_spr]
    split
    · exact h
    · exact ih _ _ _ ((y_fold_mem _ _ A x).mpr (Or.inl h))
theorem y_spr_min {Q : Nat → Prop} (hQ : y_cl T Q) : ∀ (n i : Nat) (A : List Nat), (∀ x ∈ A, Q x) → ∀ x ∈ y_spr T n i A, Q x := by
  intro n
  induction n with
  | zero => intro i A h; exact h
  | succ n ih =>
    intro i A h
    rw [y_spr]
    split
    · exact h
    · rename_i c hc
      refine ih _ _ fun x hx => ?_
      rcases (y_fold_mem _ _ A x).mp hx with z | ⟨w, hw, e⟩
      · exact h x z
      · exact hQ c (h c (List.mem_of_getElem? hc)) w hw x e
theorem y_spr_gd {p : Nat} (hw : y_ww T) : ∀ (n i : Nat) (A : List Nat), A.Nodup → (∀ c ∈ A, y_gd (y_many T 4) p c) → (y_spr T n i A).Nodup ∧ ∀ c ∈ y_spr T n i A, y_gd (y_many T 4) p c := by
  have hP := hw.2.1
  intro n
  induction n with
  | zero => intro i A h g; exact ⟨h, g⟩
  | succ n ih =>
    intro i A h g
    rw [y_spr]
    split
    · exact ⟨h, g⟩
    · rename_i c hc
      refine ih _ _ (y_fold_nd _ _ A h) fun x hx => ?_
      rcases (y_fold_mem _ _ A x).mp hx with z | ⟨w, hw', e⟩
      · exact g x z
      · obtain ⟨w1, w2, w3, w4, -⟩ := y_way_at hw (y_silent_lt hw')
        exact y_ge1 hP (g c (List.mem_of_getElem? hc)) w3 w2 w4 e
theorem y_spr_cl {p : Nat} (hw : y_ww T) (hp : p ≤ 3) : ∀ (n i : Nat) (A : List Nat), n + i = 121 → A.Nodup → (∀ c ∈ A, y_gd (y_many T 4) p c) →
    (∀ j c, j < i → A[j]? = some c → ∀ w ∈ y_silent T, ∀ d, y_mv c (y_way T w).1 (y_way T w).2 = some d → d ∈ A) → y_cl T (fun c => c ∈ y_spr T n i A) := by
  have hP := hw.2.1
  intro n
  induction n with
  | zero =>
    intro i A e h g k c hc w hw' d hd
    have hlen := y_gd_len hP hp h g
    have hc' : c ∈ A := hc
    obtain ⟨j, hj, ej⟩ := List.mem_iff_getElem.mp hc'
    exact k j c (by omega) (by rw [List.getElem?_eq_getElem hj, ej]) w hw' d hd
  | succ n ih =>
    intro i A e h g k
    rw [show (fun c => c ∈ y_spr T (n + 1) i A) = fun c => c ∈ (match A[i]? with | none => A | some c => y_spr T n (i + 1) ((y_silent T).foldl (fun L w => y_put L (y_mv c (y_way T w).1 (y_way T w).2)) A)) from rfl]
    cases hA : A[i]? with
    | none =>
      have hl := List.getElem?_eq_none_iff.mp hA
      intro c hc w hw' d hd
      have hc' : c ∈ A := hc
      obtain ⟨j, hj, ej⟩ := List.mem_iff_getElem.mp hc'
      exact k j c (by omega) (by rw [List.getElem?_eq_getElem hj, ej]) w hw' d hd
    | some c0 =>
      dsimp only
      refine ih _ _ (by omega) (y_fold_nd _ _ A h) (fun x hx => ?_) (fun j c hj hc w hw' d hd => ?_)
      · rcases (y_fold_mem _ _ A x).mp hx with z | ⟨w, hw', e⟩
        · exact g x z
        · obtain ⟨w1, w2, w3, w4, -⟩ := y_way_at hw (y_silent_lt hw')
          exact y_ge1 hP (g c0 (List.mem_of_getElem? hA)) w3 w2 w4 e
      · have hil : i < A.length := (List.getElem?_eq_some_iff.mp hA).1
        have hext : ∀ j c, j ≤ i → ((y_silent T).foldl (fun L w => y_put L (y_mv c0 (y_way T w).1 (y_way T w).2)) A)[j]? = some c → A[j]? = some c := by
          intro j c hj hc
          have := y_fold_ext (y_silent T) (fun w => y_mv c0 (y_way T w).1 (y_way T w).2) A j _ (List.getElem?_eq_getElem (show j < A.length by omega))
          rw [hc] at this
          rw [List.getElem?_eq_getElem (show j < A.length by omega)]
          exact this.symm
        rcases Nat.lt_or_eq_of_le (Nat.lt_succ_iff.mp hj) with z | z
        · exact (y_fold_mem _ _ A d).mpr (Or.inl (k j c z (hext j c (by omega) hc) w hw' d hd))
        · subst z
          have := hext j c (Nat.le_refl _) hc
          rw [hA] at this
          cases this
          exact (y_fold_mem _ _ A d).mpr (Or.inr ⟨w, hw', hd⟩)
/-- what is reached doesn't hang on the order -/
theorem y_spr_same {p : Nat} (hw : y_ww T) (hp : p ≤ 3) {A B : List Nat} (hA : A.Nodup) (gA : ∀ c ∈ A, y_gd (y_many T 4) p c) (hB : B.Nodup) (gB : ∀ c ∈ B, y_gd (y_many T 4) p c) (h : ∀ x, x ∈ A ↔ x ∈ B) (x : Nat) : x ∈ y_spr T 121 0 A ↔ x ∈ y_spr T 121 0 B :=
  ⟨fun z => y_spr_min (y_spr_cl hw hp 121 0 B rfl hB gB fun j c hj => by omega) 121 0 A (fun y hy => y_spr_sub 121 0 B y ((h y).mp hy)) x z,
   fun z => y_spr_min (y_spr_cl hw hp 121 0 A rfl hA gA fun j c hj => by omega) 121 0 B (fun y hy => y_spr_sub 121 0 A y ((h y).mpr hy)) x z⟩
theorem y_spr_id {A : List Nat} (h : y_cl T (fun c => c ∈ A)) (x : Nat) : x ∈ y_spr T 121 0 A ↔ x ∈ A :=
  ⟨fun z => y_spr_min h 121 0 A (fun y hy => hy) x z, fun z => y_spr_sub 121 0 A x z⟩
theorem m_knowsl {p : Nat} (hF : 3000 ≤ F) (hw : y_ww T) (hp : p ≤ 3) : ∀ (m i n : Nat) (C : List Nat) (V : zV), m + i = 121 → m + 1 ≤ n → y_mt T lv V → y_mf (y_many T 4) p C V →
    ∃ V', fX12_knows_l2 F n V (nI i) = fX12_knows_l116 F F (zsI V' 0 59 (zI V' 0 61)) 0 ∧ y_mf (y_many T 4) p (y_spr T m i C) V' ∧ y_fr [(0, 61)] [41, 42] V V' := by
  have hP := hw.2.1
  intro m
  induction m with
  | zero =>
    intro i n C V e hn hT h
    obtain ⟨n, rfl⟩ : ∃ n', n = n' + 1 := ⟨n - 1, by omega⟩
    have hlen := y_gd_len hP hp h.1 h.2.1
    refine ⟨V, ?_, h, y_fr_refl⟩
    rw [fX12_knows_l2, h.2.2.1, if_pos (nI_le (by omega) (by omega)), y_let]
  | succ m ih =>
    intro i n C V e hn hT h
    obtain ⟨n, rfl⟩ : ∃ n', n = n' + 1 := ⟨n - 1, by omega⟩
    have hlen := y_gd_len hP hp h.1 h.2.1
    have hlv := hT.1.1
    rw [fX12_knows_l2, y_spr]
    cases hA : C[i]? with
    | none =>
      have hl := List.getElem?_eq_none_iff.mp hA
      refine ⟨V, ?_, h, y_fr_refl⟩
      rw [h.2.2.1, if_pos (nI_le (by omega) (by omega)), y_let]
    | some c =>
      have hil : i < C.length := (List.getElem?_eq_some_iff.mp hA).1
      have hgc := h.2.1 c (List.mem_of_getElem? hA)
      dsimp only
      rw [h.2.2.1, if_neg (nI_ge hil (by omega)), y_ck (by omega) (by decide), y_let, y_let, nI_clamp (by omega), h.2.2.2.1 i c hA, hT.1.2, show (24 : Int32) = nI 24 from rfl, pk_mul, y_silent_eq]
      obtain ⟨V1, g1, g2, g3⟩ := m_knows1 (F := F) (lv := lv) (k2 := fX12_knows_l2 F n) (i := i) hw hp hgc (y_many T 5) 0 F C V (by omega) (by have := hw.2.2.2.1; omega) hT h
      obtain ⟨V2, i1, i2, i3⟩ := ih (i + 1) n _ V1 (by omega) (by omega) (y_mt_fr hT g3 (by decide) (by decide)) g2
      exact ⟨V2, g1.trans i1, i2, y_fr_trans g3 i3⟩
/-- what is fresh becomes known, with all that silent ways lead to -/
theorem m_knows {p : Nat} (hF : 3000 ≤ F) (hw : y_ww T) (hp : p ≤ 3) {C : List Nat} (hT : y_mt T lv V) (h : y_mf (y_many T 4) p C V) :
    ∃ V', fX12_knows F V = some V' ∧ zI V' 0 61 = 0 ∧ zI V' 0 59 = nI (y_spr T 121 0 C).length ∧ (∀ j c, (y_spr T 121 0 C)[j]? = some c → zA V' 40 j = nI (y_enc c)) ∧ (∀ l, l < 65536 → zA V' 42 l = 0) ∧ y_fr [(0, 61), (0, 59)] [40, 41, 42] V V' := by
  have hP := hw.2.1
  obtain ⟨V1, g1, g2, g3⟩ := m_knowsl (F := F) (lv := lv) hF hw hp 121 0 F C V (by omega) (by omega) hT h
  have hlen := y_gd_len hP hp g2.1 g2.2.1
  have f1 : y_fr [(0, 59)] [] V1 (zsI V1 0 59 (zI V1 0 61)) := y_fr_I y_fr_refl (by decide)
  obtain ⟨V2, i1, i2, i3, i4, i5⟩ := m_knowsc (F := F) (p := 0) hF (y_spr T 121 0 C).length 0 F (y_spr T 121 0 C) (zsI V1 0 59 (zI V1 0 61)) hlen (by omega) (by omega) (fun c hc => Or.inr (g2.2.1 c hc).1) g2.2.2.1 g2.2.2.2.1 (fun j c hj => by omega) (fun l hl => by
    rcases g2.2.2.2.2.1 l hl with z | z
    · exact Or.inl z
    · obtain ⟨c, hc, e⟩ := (g2.2.2.2.2.2 l hl).mp z
      obtain ⟨j, hj, ej⟩ := List.mem_iff_getElem.mp hc
      exact Or.inr ⟨j, c, Nat.zero_le _, by rw [List.getElem?_eq_getElem hj, ej], e⟩)
  refine ⟨V2, ?_, i2, ?_, i3, i4, y_fr_trans (y_fr_mono g3 (by decide) (by decide)) (y_fr_trans (y_fr_mono f1 (by decide) (by decide)) (y_fr_mono i5 (by decide) (by decide)))⟩
  · have g1' : fX12_knows_l2 F F V 0 = fX12_knows_l116 F F (zsI V1 0 59 (zI V1 0 61)) 0 := g1
    unfold fX12_knows
    rw [g1']; exact i1
  · rw [i5.1 0 59 (by decide)]; exact g2.2.2.1
/-- the known layouts anew -/
theorem y_ml_new {p : Nat} {C L : List Nat} (hw : y_ww T) (hp : p ≤ 3) (hC : C.Nodup) (gC : ∀ c ∈ C, y_gd (y_many T 4) p c) (hL : L.Nodup) (gL : ∀ c ∈ L, y_gd (y_many T 4) p c) (h0 : y_many T 4 = 0 → L = []) (hcl : y_cl T (fun c => c ∈ L))
    (hs : ∀ x, x ∈ y_spr T 121 0 C ↔ x ∈ L) (h61 : zI V 0 61 = 0) (h59 : zI V 0 59 = nI (y_spr T 121 0 C).length) (h40 : ∀ j c, (y_spr T 121 0 C)[j]? = some c → zA V 40 j = nI (y_enc c)) (h42 : ∀ l, l < 65536 → zA V 42 l = 0) : y_ml T p L V :=
  ⟨⟨y_spr T 121 0 C, (y_spr_gd hw 121 0 C hC gC).1, hs, h59, h40⟩, h61, h42, hL, gL, h0, hcl⟩
/-- before an operation nothing is fresh -/
theorem y_mf_nil {p P q : Nat} {L : List Nat} (h : y_ml T p L V) : y_mf P q [] V := by
  refine ⟨List.nodup_nil, fun c z => absurd z List.not_mem_nil, h.2.1, fun i c z => (by cases z), fun l hl => Or.inl (h.2.2.1 l hl), fun l hl => ⟨fun z => ?_, fun ⟨c, z, _⟩ => absurd z List.not_mem_nil⟩⟩
  rw [h.2.2.1 l hl] at z
  exact absurd z (by decide)
end
/-! ===== serve, drain, a press's ways in the reference ===== -/
def y_cn (v c : Nat) : Nat := (if c / 81 = v then 1 else 0) + (if c / 9 % 9 = v then 1 else 0) + (if c % 9 = v then 1 else 0)
theorem y_cn_s {v x y z : Nat} (hx : x ≤ 8) (hy : y ≤ 8) (hz : z ≤ 8) : y_cn v ((max x (max y z) * 9 + (x + y + z - max x (max y z) - min x (min y z))) * 9 + min x (min y z)) = (if x = v then 1 else 0) + (if y = v then 1 else 0) + (if z = v then 1 else 0) := y_sum_s (fun u => if u = v then 1 else 0) hx hy hz rfl
theorem y_cn_mv {v c a b d : Nat} (hc : c < 729) (hb : b ≤ 8) (h : y_mv c a b = some d) : y_cn v d + (if a = v then 1 else 0) = y_cn v c + (if b = v then 1 else 0) := by
  unfold y_mv at h
  dsimp only at h
  split at h
  · rename_i q
    cases h
    rw [y_cn_s hb (by omega) (by omega)]
    unfold y_cn
    rw [q]; omega
  split at h
  · rename_i q
    cases h
    rw [y_cn_s (by omega) hb (by omega)]
    unfold y_cn
    rw [q]; omega
  split at h
  · rename_i q
    cases h
    rw [y_cn_s (by omega) (by omega) hb]
    unfold y_cn
    rw [q]; omega
  · cases h
theorem y_cn_has {c a b : Nat} : (y_mv c a b).isSome = true ↔ 0 < y_cn a c := by
  rw [y_mv_some]
  unfold y_cn
  by_cases q1 : c / 81 = a
  · rw [if_pos q1]; exact ⟨fun _ => by omega, fun _ => Or.inl q1⟩
  by_cases q2 : c / 9 % 9 = a
  · rw [if_pos q2]; exact ⟨fun _ => by omega, fun _ => Or.inr (Or.inl q2)⟩
  by_cases q3 : c % 9 = a
  · rw [if_pos q3]; exact ⟨fun _ => by omega, fun _ => Or.inr (Or.inr q3)⟩
  · rw [if_neg q1, if_neg q2, if_neg q3]
    exact ⟨fun z => z.elim (absurd · q1) fun z => z.elim (absurd · q2) (absurd · q3), fun z => absurd z (by decide)⟩
section
variable {F : Nat} {T : zV} {lv : Nat} {S : y_S} {V V' : zV}
theorem y_lDrop_mem {L : List Nat} {x : Nat} : x ∈ y_lDrop T L ↔ ∃ q, q < y_many T 4 ∧ ∃ c, c ∈ L ∧ y_mv c (q + 1) 0 = some x := by
  unfold y_lDrop
  rw [y_fold2_mem (List.range (y_many T 4)) (fun A p => y_mvA L A (p + 1) 0) (fun q x => ∃ c, c ∈ L ∧ y_mv c (q + 1) 0 = some x) (fun A i x => y_mvA_mem)]
  constructor
  · rintro (h | ⟨q, hq, h⟩)
    · cases h
    · exact ⟨q, List.mem_range.mp hq, h⟩
  · rintro ⟨q, hq, h⟩
    exact Or.inr ⟨q, List.mem_range.mpr hq, h⟩
/-- a drain keeps them closed -/
theorem y_lDrop_cl {p : Nat} {L : List Nat} (hw : y_ww T) (g : ∀ c ∈ L, y_gd (y_many T 4) p c) (h : y_cl T (fun c => c ∈ L)) : y_cl T (fun c => c ∈ y_lDrop T L) := by
  have hP := hw.2.1
  intro x hx w hw' y hy
  obtain ⟨q, hq, c, hc, hcx⟩ := y_lDrop_mem.mp hx
  obtain ⟨w1, w2, w3, w4, -⟩ := y_way_at hw (y_silent_lt hw')
  have gc := g c hc
  have gx := (y_mv_gd hP gc (Nat.zero_le _) hcx).1
  have hfx : 0 < y_cn (y_way T w).1 x := y_cn_has.mp (by rw [hy]; rfl)
  have n1 := y_cn_mv (v := (y_way T w).1) gc.1 (Nat.zero_le _) hcx
  rw [if_neg (show ¬ 0 = (y_way T w).1 by omega)] at n1
  obtain ⟨c', hc'⟩ := Option.isSome_iff_exists.mp (y_cn_has (b := (y_way T w).2).mpr (show 0 < y_cn (y_way T w).1 c by omega))
  have hc'L : c' ∈ L := h c hc w hw' c' hc'
  have hqc : 0 < y_cn (q + 1) c := y_cn_has.mp (by rw [hcx]; rfl)
  have n2 := y_cn_mv (v := q + 1) gc.1 (show (y_way T w).2 ≤ 8 by omega) hc'
  have hq' : 0 < y_cn (q + 1) c' := by
    by_cases e : (y_way T w).1 = q + 1
    · rw [e, if_pos rfl] at n1
      rw [if_pos e] at n2
      rw [e] at hfx
      omega
    · rw [if_neg e] at n2
      omega
  obtain ⟨y', hy'⟩ := Option.isSome_iff_exists.mp (y_cn_has (b := 0).mpr hq')
  have e1 := y_mv_enc gc.1 (Nat.zero_le _) hcx
  have e2 := y_mv_enc gx.1 (show (y_way T w).2 ≤ 8 by omega) hy
  have e3 := y_mv_enc gc.1 (show (y_way T w).2 ≤ 8 by omega) hc'
  have gc' := g c' hc'L
  have e4 := y_mv_enc gc'.1 (Nat.zero_le _) hy'
  have gy := (y_mv_gd hP gx w2 hy).1
  have gy' := (y_mv_gd hP gc' (Nat.zero_le _) hy').1
  have : y' = y := y_enc_inj gy' gy (by omega)
  subst this
  exact y_lDrop_mem.mpr ⟨q, hq, c', hc'L, hy'⟩
theorem y_all_cl {p : Nat} (hw : y_ww T) : y_cl T (fun c => c ∈ y_all (y_many T 4) p) := by
  intro x hx w hw' y hy
  obtain ⟨w1, w2, w3, w4, -⟩ := y_way_at hw (y_silent_lt hw')
  exact y_all_iff.mpr (y_ge1 hw.2.1 (y_all_iff.mp hx) w3 w2 w4 hy)
theorem y_mv0 {P p c b : Nat} (hp : p < 3) (h : y_gd P p c) : ∃ d, y_mv c 0 b = some d := by
  have h5 := h.2.2.2.2
  unfold y_cnt at h5
  have : c % 9 = 0 := by
    have := h.2.2.1
    have := h.2.2.2.1
    omega
  exact Option.isSome_iff_exists.mp (y_mv_some.mpr (Or.inr (Or.inr this)))
theorem m_servesl {p : Nat} (hF : 3000 ≤ F) (hw : y_ww T) (hp : p < 3) (h1 : 1 ≤ y_many T 4) {C : List Nat} (hC : C.length ≤ 120) (gC : ∀ c ∈ C, y_gd (y_many T 4) p c) :
    ∀ (l pre : List Nat) (n : Nat) (A : List Nat) (V : zV), C = pre ++ l → l.length + 1 ≤ n → zI V 0 59 = nI C.length → (∀ i c, C[i]? = some c → zA V 40 i = nI (y_enc c)) → y_mt T lv V → y_mf (y_many T 4) (p + 1) A V →
    ∃ V', fX12_serves_l21 F n V (nI pre.length) = zbd (fX12_knows F V') (fun q => some q) ∧ y_mf (y_many T 4) (p + 1) (y_mvA l A 0 1) V' ∧ y_fr [(0, 61)] [41, 42] V V' := by
  have hP := hw.2.1
  intro l
  induction l with
  | nil =>
    intro pre n A V e hn h59 h40 hT h
    obtain ⟨n, rfl⟩ : ∃ n', n = n' + 1 := ⟨n - 1, by omega⟩
    rw [List.append_nil] at e
    subst e
    refine ⟨V, ?_, h, y_fr_refl⟩
    rw [fX12_serves_l21, h59, if_pos (nI_le (Nat.le_refl _) (by omega))]
  | cons c l ih =>
    intro pre n A V e hn h59 h40 hT h
    obtain ⟨n, rfl⟩ : ∃ n', n = n' + 1 := ⟨n - 1, by omega⟩
    have hlen : C.length = pre.length + (l.length + 1) := by rw [e, List.length_append]; rfl
    have hc : C[pre.length]? = some c := by rw [e, List.getElem?_append_right (Nat.le_refl _), Nat.sub_self]; rfl
    have gc := gC c (List.mem_of_getElem? hc)
    obtain ⟨d, hd⟩ := y_mv0 (b := 1) hp gc
    have he := y_mv_enc gc.1 (show 1 ≤ 8 by omega) hd
    have e0 : y_p4 0 = 0 := rfl
    have e1 : y_p4 1 = 1 := rfl
    have gd := (y_mv_gd hP gc h1 hd).1
    obtain ⟨V1, g1, g2, g3⟩ := m_comes (F := F) hP (show p + 1 ≤ 3 by omega) h (show y_gd (y_many T 4) (p + 1) d from gd)
    rw [fX12_serves_l21, h59, if_neg (nI_ge (by omega) (by omega)), y_ck (by omega) (by decide), nI_clamp (by omega), h40 _ _ hc, nI_1, show y_enc c + 1 = y_enc d by omega, g1, y_bd, nI_1]
    obtain ⟨V2, i1, i2, i3⟩ := ih (pre ++ [c]) n _ V1 (by rw [e, List.append_assoc]; rfl) (by simpa using hn) (by rw [g3.1 0 59 (by decide)]; exact h59) (by rw [g3.2.1 40 (by decide)]; exact h40) (y_mt_fr hT g3 (by decide) (by decide)) g2
    rw [List.length_append] at i1
    refine ⟨V2, i1, ?_, y_fr_trans g3 i3⟩
    have : y_mvA (c :: l) A 0 1 = y_mvA l (y_put A (y_mv c 0 1)) 0 1 := rfl
    rw [this, hd]
    exact i2
/-- a ball is served -/
theorem m_serves (hF : 3000 ≤ F) (hw : y_ww T) (hT : y_mt T lv V) (h : y_mg T S V) : ∃ V', fX12_serves F V = some V' ∧ y_mg T (y_take T S) V' ∧ y_fr [(0, 61), (0, 59), (0, 67)] [40, 41, 42] V V' := by
  have hP := hw.2.1
  obtain ⟨g1, g2, g3, g4, g5, g6, g7, gb, p, hp, g8, g9⟩ := h
  have h67 : zI V 0 67 = nI p := (g1 (14, 7, 67) (by decide)).trans g8
  unfold fX12_serves y_take
  rw [h67, g8]
  by_cases q : p = 3
  · subst q
    rw [if_pos (show nI 3 = (3 : Int32) from rfl), if_pos (show (3 : Int32) ≤ nI 3 from nI_le (a := 3) (Nat.le_refl _) (by decide))]
    exact ⟨V, rfl, ⟨g1, g2, g3, g4, g5, g6, g7, gb, 3, hp, g8, g9⟩, y_fr_refl⟩
  rw [if_neg (show ¬ nI p = (3 : Int32) from fun z => q ((nI_eq (b := 3) (by omega) (by decide)).mp z)), if_neg (show ¬ (3 : Int32) ≤ nI p from nI_ge (b := 3) (by omega) (by decide)), y_let, nI_1]
  have g9' := g9
  obtain ⟨⟨C, c1, c2, c3, c4⟩, c5, c6, c7, c8, c9, c10⟩ := g9
  have gC : ∀ c ∈ C, y_gd (y_many T 4) p c := fun c hc => c8 c ((c2 c).mp hc)
  have hCl := y_gd_len hP hp c1 gC
  have f0 : y_fr [(0, 67)] [] V (zsI V 0 67 (nI (p + 1))) := y_fr_I y_fr_refl (by decide)
  have hmf : y_mf (y_many T 4) (p + 1) [] (zsI V 0 67 (nI (p + 1))) := y_mf_fr (y_mf_nil g9') f0 (by decide) (by decide) (by decide)
  have hT0 := y_mt_fr hT f0 (by decide) (by decide)
  -- what is fresh at last, and then what is known
  have key : ∃ V1 C1, fX12_serves_l21 F F (zsI V 0 67 (nI (p + 1))) 0 = zbd (fX12_knows F V1) (fun q => some q) ∧ y_mf (y_many T 4) (p + 1) C1 V1 ∧ y_fr [(0, 61)] [41, 42] (zsI V 0 67 (nI (p + 1))) V1 ∧ ∀ x, x ∈ C1 ↔ x ∈ y_mvA S.2.1 [] 0 1 := by
    by_cases hP0 : y_many T 4 = 0
    · have hL := c9 hP0
      have hC0 : C = [] := by
        cases C with
        | nil => rfl
        | cons c l => have := (c2 c).mp List.mem_cons_self; rw [hL] at this; cases this
      obtain ⟨F', rfl⟩ : ∃ F', F = F' + 1 := ⟨F - 1, by omega⟩
      refine ⟨zsI V 0 67 (nI (p + 1)), [], ?_, hmf, y_fr_refl, fun x => by rw [hL]; exact Iff.rfl⟩
      have : zI (zsI V 0 67 (nI (p + 1))) 0 59 = nI 0 := by rw [f0.1 0 59 (by decide), c3, hC0]; rfl
      rw [fX12_serves_l21, this, if_pos (show nI 0 ≤ (0 : Int32) from nI_le (b := 0) (Nat.le_refl _) (by decide))]
    · obtain ⟨V1, a1, a2, a3⟩ := m_servesl (F := F) hF hw (show p < 3 by omega) (by omega) hCl gC C [] F [] (zsI V 0 67 (nI (p + 1))) rfl (by omega) (by rw [f0.1 0 59 (by decide)]; exact c3) (by rw [f0.2.1 40 (by decide)]; exact c4) hT0 hmf
      refine ⟨V1, _, a1, a2, a3, fun x => ?_⟩
      rw [y_mvA_mem, y_mvA_mem]
      constructor
      · rintro (z | ⟨c, hc, e⟩)
        · exact Or.inl z
        · exact Or.inr ⟨c, (c2 c).mp hc, e⟩
      · rintro (z | ⟨c, hc, e⟩)
        · exact Or.inl z
        · exact Or.inr ⟨c, (c2 c).mpr hc, e⟩
  obtain ⟨V1, C1, k1, k2, k3, k4⟩ := key
  obtain ⟨V2, i1, i2, i3, i4, i5, i6⟩ := m_knows (F := F) (lv := lv) hF hw (show p + 1 ≤ 3 by omega) (y_mt_fr hT0 k3 (by decide) (by decide)) k2
  rw [k1, i1, y_bd]
  have ff : y_fr [(0, 61), (0, 59), (0, 67)] [40, 41, 42] V V2 := y_fr_trans (y_fr_mono f0 (by decide) (by decide)) (y_fr_trans (y_fr_mono k3 (by decide) (by decide)) (y_fr_mono i6 (by decide) (by decide)))
  have nd0 : (y_mvA S.2.1 [] 0 1).Nodup := y_fold_nd S.2.1 (fun c => y_mv c 0 1) [] List.nodup_nil
  have gd0 : ∀ c ∈ y_mvA S.2.1 [] 0 1, y_gd (y_many T 4) (p + 1) c := fun c hc => k2.2.1 c ((k4 c).mpr hc)
  have hnew := y_spr_gd hw 121 0 (y_mvA S.2.1 [] 0 1) nd0 gd0
  have ml : y_ml T (p + 1) (y_lTake T S.2.1) V2 := y_ml_new hw (show p + 1 ≤ 3 by omega) k2.1 k2.2.1 hnew.1 hnew.2 (fun z => by unfold y_lTake; rw [c9 z]; rfl) (y_spr_cl hw (show p + 1 ≤ 3 by omega) 121 0 _ rfl nd0 gd0 fun j c hj => by omega) (fun x => y_spr_same hw (show p + 1 ≤ 3 by omega) k2.1 k2.2.1 nd0 gd0 k4 x) i2 i3 i4 i5
  refine ⟨V2, rfl, ⟨fun q hq => ?_, fun q hq i hi => (congrFun (ff.2.1 q.2.1 ?_) i).trans (g2 q hq i hi), fun s hs => (congrFun (ff.2.1 46 (by decide)) s).trans (g3 s hs), fun c hc => (congrFun (ff.2.1 54 (by decide)) c).trans (g4 c hc), (ff.2.2.1 0 65).trans g5, (ff.1 0 69 (by decide)).trans g6, ⟨(ff.1 0 85 (by decide)).trans g7.1, fun i c hc => (congrFun (ff.2.1 55 (by decide)) i).trans (g7.2 i c hc)⟩, gb, p + 1, by omega, rfl, ml⟩, ff⟩
  · show zI V2 0 q.2.2 = if q.1 = 14 ∧ q.2.1 = 7 then nI (p + 1) else zI S.1 q.1 q.2.1
    by_cases e : q.1 = 14 ∧ q.2.1 = 7
    · have : q.2.2 = 67 := (show ∀ q ∈ y_mnum, q.1 = 14 ∧ q.2.1 = 7 → q.2.2 = 67 by decide) q hq e
      rw [if_pos e, this, i6.1 0 67 (by decide), k3.1 0 67 (by decide)]; rfl
    · rw [if_neg e, ff.1 0 q.2.2 ((show ∀ q ∈ y_mnum, ¬ (q.1 = 14 ∧ q.2.1 = 7) → ((0, q.2.2) : Nat × Nat) ∉ [(0, 61), (0, 59), (0, 67)] by decide) q hq e)]
      exact g1 q hq
  · exact (show ∀ q ∈ y_mrow, q.2.1 ∉ [40, 41, 42] by decide) q hq
end
