/-! ===== the class's names: one token ===== -/
section
variable {F : Nat} {b : Nat → Nat} {L N E : Nat} {V1 V3 : zV}
def r_n3 (b : Nat → Nat) (L E i : Nat) (V3 : zV) : Prop := r_nl (r_tl b L i) V3 ∧ r_nd b L E V3 ∧ ∀ k, (k = 0 ∨ k = 1 ∨ k = 3 ∨ k = 4 ∨ k = 6 ∨ k = 7) → zA V3 4 k = nI (r_cn (r_tK b L) k (i - 1))
/-- what a token of the names comes to -/
def r_no (b : Nat → Nat) (L N E i : Nat) (B : Nat → Int64) (res : Option (zV × zV)) : Prop :=
  (∃ V1' V3', res = some (V1', V3') ∧ r_nv b L N E (i + 1) V1' ∧ r_n3 b L E (i + 1) V3' ∧ zI V1' 0 5 = 0 ∧ zI V1' 0 6 = -1 ∧ zB V1' 1 = B ∧ ∀ k, ¬ r_sP b L E (r_cn (r_tK b L) 18 E) i k) ∨
  ∃ V1' V3' k, res = some (V1', V3') ∧ r_sP b L E (r_cn (r_tK b L) 18 E) i k ∧ (∀ k', r_sP b L E (r_cn (r_tK b L) 18 E) i k' → k ≤ k') ∧ 1 ≤ k ∧ k ≤ 5 ∧ zI V1' 0 5 = nI k ∧ zI V1' 0 6 = nI (r_tS b L i) ∧ zB V1' 1 = B ∧ zI V1' 0 4 = nI N
def r_wh (b : Nat → Nat) (L E i t : Nat) : Option Nat := if t = 7 then r_lk (r_tl b L E) (r_tW b L i) 7 else r_lk (r_tl b L i) (r_tW b L i) t
theorem c_use (hF : 100 ≤ F) (hg : r_gf (r_tK b L) E) {i t : Nat} (hi : i < E) (hk : r_tK b L i = 27) (ht : t ≤ 7) (h : r_nv b L N E i V1) (h3 : r_n3 b L E i V3) (h7 : t = 7 → 1 ≤ i ∧ r_tK b L (i - 1) = 18) :
    match r_wh b L E i t with
      | some c => c ≤ 1000 ∧ fX5_use F V1 V3 (nI i) (nI t) = fX5_use_b74 F V1 V3 (nI i) (nI c)
      | none => fX5_use F V1 V3 (nI i) (nI t) = fX5_use_b74 F V1 V3 (nI i) (-1) := by
  obtain ⟨ha, h8⟩ := r_tW_ok hk
  obtain ⟨⟨g1, g2, g3⟩, g4, g5, p, g6, g7, g8⟩ := hg
  have hN := h.1
  have te := c_telling (F := F) hF h3.1 ha h8
  have nn : ∀ k : Nat, k < 2 ^ 31 → ¬ nI k = -1 := by
    intro k hk z
    have : ¬ nI k < 0 := nI_pos hk
    rw [z] at this
    exact this (by decide)
  have hph : t = 7 → ∀ a, i ≤ a → a < E → r_tg (r_tK b L) a → r_tK b L (a - 1) = 7 := by
    intro q a a1 a2 a3
    obtain ⟨q1, q2⟩ := h7 q
    have hp : p ≤ i - 1 := by
      by_cases z : p ≤ i - 1
      · exact z
      · exact absurd q2 (g7 (i - 1) (by omega)).2
    have := g8 (a - 1) (by omega) (by omega)
    omega
  unfold fX5_use
  rw [c_namej h (by omega) (Nat.le_refl _) hk, y_bd]
  cases hf : r_fd (r_tl b L i) (r_tW b L i) with
  | some x =>
    rw [hf] at te
    obtain ⟨k', e, e1, e2, e3, e4⟩ := te
    obtain ⟨m1, m2, m3, m4, m5, m6, m7⟩ := h3.1.2.2 k' e e1
    have hk' : k' < (r_tl b L i).length := (List.getElem?_eq_some_iff.mp e1).1
    have hl := h3.1.2.1
    have hw : r_wh b L E i t = if x.1 = t then some x.2 else none := by
      unfold r_wh
      by_cases q : t = 7
      · rw [if_pos q, r_lk_fd, r_fd_mono hf (by omega), q]
      · rw [if_neg q, r_lk_fd, hf]
    rw [hw, e4, y_bd, if_neg (nI_pos (by omega)), if_neg (show ¬ (76 : Int32) ≤ nI k' from nI_ge (b := 76) (by omega) (by decide))]
    simp only [y_ck (show k' < 76 by omega) (show 76 < 2 ^ 31 by decide), nI_clamp (show k' < 2 ^ 31 by omega), m2, m3, e3]
    rw [e3] at m4 m5
    by_cases q : x.1 = t
    · rw [if_pos q, if_pos (by rw [q])]
      exact ⟨m5, rfl⟩
    · rw [if_neg q, if_neg (fun z => q ((nI_eq (by omega) (by omega)).mp z))]
      rfl
  | none =>
    rw [hf] at te
    rw [te, y_bd, if_pos (by decide), fX5_use_b61]
    have hno := r_fd_tl (b := b) (L := L) (s := r_tW b L i) i
    rw [hf] at hno
    by_cases q : t = 7
    rotate_left
    · have hw : r_wh b L E i t = none := by
        unfold r_wh
        rw [if_neg q, r_lk_fd, hf]
      rw [hw, if_neg (show ¬ nI t = (7 : Int32) from fun z => q ((nI_eq (b := 7) (by omega) (by decide)).mp z))]
    subst q
    have hw : r_wh b L E i 7 = r_lk (r_tl b L E) (r_tW b L i) 7 := by unfold r_wh; rw [if_pos rfl]
    rw [hw, if_pos (show nI 7 = (7 : Int32) from rfl), r_lk_fd]
    have hph := hph rfl
    rcases c_modeNamed (F := F) hF h3.2.1 (g5 7 (by omega)) (fun a a1 a2 => (g4 a a1 (by omega)).1) hk with ⟨a, a1, a2, a3, a4, a5⟩ | ⟨a1, a5⟩
    · have ga := g4 a a1 (by omega)
      have hfd := r_fd_first (b := b) (L := L) (s := r_tW b L i) (i := E) (a := a + 1) ga.2.1 ⟨ga.1, by rw [Nat.add_sub_cancel]; omega⟩ a3 fun a' h1 h2 z => by
        by_cases q : a' < i
        · exact hno a' q h2 z
        · have h6 := hph a' (by omega) (by omega) h2
          have h0 : a' ≠ 0 := by
            intro y
            subst y
            rw [show 0 - 1 = 0 from rfl] at h6
            have := h2.1
            omega
          exact a4 (a' - 1) (by omega) h6 (by rw [show a' - 1 + 1 = a' by omega]; exact z)
      rw [hfd, a5, y_bd]
      dsimp only
      rw [Nat.add_sub_cancel, a2, if_pos rfl]
      have := r_cn_le (K := r_tK b L) (w := 7) a
      exact ⟨by omega, rfl⟩
    · have hfd : r_fd (r_tl b L E) (r_tW b L i) = none := by
        have hz := r_fd_tl (b := b) (L := L) (s := r_tW b L i) E
        cases hfe : r_fd (r_tl b L E) (r_tW b L i) with
        | none => rfl
        | some x =>
          rw [hfe] at hz
          obtain ⟨a, d1, d2, d3, -⟩ := hz
          exfalso
          by_cases q : a < i
          · exact hno a q d2 d3
          · have h6 := hph a (by omega) (by omega) d2
            have h0 : a ≠ 0 := by
              intro y
              subst y
              rw [show 0 - 1 = 0 from rfl] at h6
              have := d2.1
              omega
            exact a1 (a - 1) (by omega) h6 (by rw [show a - 1 + 1 = a by omega]; exact d3)
      rw [hfd, a5, y_bd]
/-- faults at a NAME -/
theorem r_sP_tg {i k : Nat} (h : r_tg (r_tK b L) i) (hi : i < E) : r_sP b L E (r_cn (r_tK b L) 18 E) i k ↔ k = 3 ∧ r_tol (r_tl b L i) (r_tW b L i) = true := by
  have hro := r_ro20.mpr h.2
  constructor
  · rintro (⟨-, ⟨-, z | z | z⟩ | z⟩ | ⟨⟨m, m1, m2, m3, m4, m5⟩, -⟩)
    · exact ⟨z.1, z.2.2⟩
    · have := z.2.1; omega
    · have := z.2.1; have := h.2; omega
    · have := z.2.1; have := h.1; omega
    · have e : i - 1 = m := by omega
      have := h.2
      rw [e] at this
      omega
  · rintro ⟨rfl, h2⟩
    exact Or.inl ⟨hi, Or.inl ⟨h.1, Or.inl ⟨rfl, hro, h2⟩⟩⟩
theorem r_sP_us {i k t : Nat} (hk : r_tK b L i = 27) (ht : r_ro (r_tK b L) i = t) (h7 : t ≤ 7) (hi : i < E) (h0 : 0 < i) (h18 : t = 7 ↔ r_tK b L (i - 1) = 18) : r_sP b L E (r_cn (r_tK b L) 18 E) i k ↔ (k = 4 ∧ r_wh b L E i t = none) ∨ (k = 5 ∧ r_tK b L (i - 1) = 27 ∧ (r_tK b L (i - 2) = 2 ∨ r_tK b L (i - 2) = 5) ∧ r_tW b L i = r_tW b L (i - 1)) := by
  constructor
  · rintro (⟨-, ⟨-, z | z | z⟩ | z⟩ | ⟨⟨m, m1, m2, m3, m4, m5⟩, z⟩)
    · have := z.2.1; omega
    · left
      refine ⟨z.1, ?_⟩
      unfold r_wh
      rw [if_neg (by omega), ← ht]; exact z.2.2
    · exact Or.inr z
    · have := z.2.1; omega
    · left
      have e : i - 1 = m := by omega
      have et : t = 7 := h18.mpr (by rw [e]; exact m2)
      refine ⟨z, ?_⟩
      unfold r_wh
      rw [if_pos et, m5]; exact m4
  · rintro (⟨rfl, z⟩ | ⟨rfl, z⟩)
    · unfold r_wh at z
      by_cases q : t = 7
      · rw [if_pos q] at z
        have e : i - 1 + 1 = i := by omega
        exact Or.inr ⟨⟨i - 1, by omega, h18.mp q, r_cn_lt (by omega) (h18.mp q), by rw [e]; exact z, e.symm⟩, rfl⟩
      · rw [if_neg q] at z
        exact Or.inl ⟨hi, Or.inl ⟨hk, Or.inr (Or.inl ⟨rfl, by omega, by rw [ht]; exact z⟩)⟩⟩
    · exact Or.inl ⟨hi, Or.inl ⟨hk, Or.inr (Or.inr ⟨rfl, z⟩)⟩⟩
/-- nothing is told at i -/
theorem r_n3_same {i : Nat} (hg : r_gf (r_tK b L) E) (hi : i ≤ E) (h : r_n3 b L E i V3) (ht : ¬ r_tg (r_tK b L) i) : r_n3 b L E (i + 1) V3 := by
  obtain ⟨n1, n2, n3⟩ := h
  have e : r_tl b L (i + 1) = r_tl b L i := r_tl_same fun z => ht ⟨z.1, r_ro20.mp z.2⟩
  refine ⟨by rw [e]; exact n1, n2, fun k hk => ?_⟩
  rw [n3 k hk, Nat.add_sub_cancel]
  by_cases q : i = 0
  · subst q; rfl
  · have e2 : r_cn (r_tK b L) k (i - 1 + 1) = r_cn (r_tK b L) k (i - 1) := r_cn_same fun z => ht ⟨?_, by omega⟩
    · rw [show i - 1 + 1 = i by omega] at e2; rw [e2]
    · have := (hg.2.1 (i - 1) (by omega) (by omega)).1
      rwa [show i - 1 + 1 = i by omega] at this
theorem c_tell (hF : 100 ≤ F) (hg : r_gf (r_tK b L) E) {i k : Nat} (hi : i < E) (hk : r_tg (r_tK b L) i) (ek : r_tK b L (i - 1) = k) (h : r_nv b L N E i V1) (h3 : r_n3 b L E i V3) (h5 : zI V1 0 5 = 0) (h6 : zI V1 0 6 = -1) : r_no b L N E i (zB V1 1) (fX5_tell F V1 V3 (nI i) (nI k)) := by
  obtain ⟨ha, h8⟩ := r_tW_ok hk.1
  obtain ⟨⟨g1, g2, g3⟩, g4, g5, -⟩ := id hg
  have hN := h.1
  have te := c_telling (F := F) hF h3.1 ha h8
  have nn : ∀ k : Nat, k < 2 ^ 31 → ¬ nI k = -1 := by
    intro k hk z
    have : ¬ nI k < 0 := nI_pos hk
    rw [z] at this
    exact this (by decide)
  have k7 : k ≤ 7 := by have := hk.2; omega
  unfold fX5_tell
  rw [c_namej h (by omega) (Nat.le_refl _) hk.1, y_bd]
  cases hf : r_fd (r_tl b L i) (r_tW b L i) with
  | some x =>
    rw [hf] at te
    obtain ⟨k', e, e1, e2, e3, e4⟩ := te
    have hk' : k' < (r_tl b L i).length := (List.getElem?_eq_some_iff.mp e1).1
    have hl := h3.1.2.1
    have htol : r_tol (r_tl b L i) (r_tW b L i) = true := r_fd_tol.mpr (by rw [hf]; exact fun z => by cases z)
    rw [e4, y_bd, if_neg (nn _ (by omega)), show (3 : Int32) = nI 3 from rfl, c_blm h h5 (by omega), y_bd]
    exact Or.inr ⟨_, _, 3, rfl, (r_sP_tg hk hi).mpr ⟨rfl, htol⟩, fun k' z => by have := ((r_sP_tg hk hi).mp z).1; omega, by decide, by decide, rfl, rfl, rfl, h.2.1⟩
  | none =>
    rw [hf] at te
    obtain ⟨n1, n2, n3⟩ := h3.1
    have hlen : (r_tl b L i).length < 76 := by
      have hb := r_tl_len (b := b) (L := L) i
      have m0 := r_cn_mono (K := r_tK b L) (w := 0) (i := i - 1) (j := E) (by omega)
      have m1 := r_cn_mono (K := r_tK b L) (w := 1) (i := i - 1) (j := E) (by omega)
      have m3 := r_cn_mono (K := r_tK b L) (w := 3) (i := i - 1) (j := E) (by omega)
      have m4 := r_cn_mono (K := r_tK b L) (w := 4) (i := i - 1) (j := E) (by omega)
      have m6 := r_cn_mono (K := r_tK b L) (w := 6) (i := i - 1) (j := E) (by omega)
      have m7 := r_cn_mono (K := r_tK b L) (w := 7) (i := i - 1) (j := E) (by omega)
      have q0 := g5 0 (by omega)
      have q1 := g5 1 (by omega)
      have q3 := g5 3 (by omega)
      have q4 := g5 4 (by omega)
      have q6 := g5 6 (by omega)
      have q7 := g5 7 (by omega)
      have qi := (g4 (i - 1) (by omega) (by omega)).2.2
      simp only [r_room] at q0 q1 q3 q4 q6 q7
      simp at q0 q1 q3 q4 q6 q7
      rcases hk.2 with z | z | z | z | z | z <;> rw [z] at qi <;> simp [r_room] at qi <;> omega
    have hcnt := h3.2.2 k (by have := hk.2; omega)
    have hcn : r_cn (r_tK b L) k (i - 1) ≤ 1000 := by have := r_cn_le (K := r_tK b L) (w := k) (i - 1); omega
    have hnu : r_cn (r_tK b L) k (i - 1) = r_nu b L E i := by
      unfold r_nu
      rw [if_pos hk.1, if_pos (r_ro20.mpr hk.2), ek]
    obtain ⟨V1', s1, s2, s3, s4⟩ := c_setn (F := F) (c := r_cn (r_tK b L) k (i - 1)) h hi (by omega) hk.1 hnu
    have c1 : ∀ f, zI (zsB V3 1 f) 0 4 = nI (r_tl b L i).length := fun _ => n1
    have c2 : ∀ f g, zI (zsA (zsB V3 1 f) 2 g) 0 4 = nI (r_tl b L i).length := fun _ _ => n1
    have c3 : ∀ f g u, zI (zsA (zsA (zsB V3 1 f) 2 g) 3 u) 0 4 = nI (r_tl b L i).length := fun _ _ _ => n1
    have d2 : ∀ f, zA (zsB V3 1 f) 2 = zA V3 2 := fun _ => rfl
    have d3 : ∀ f g, zA (zsA (zsB V3 1 f) 2 g) 3 = zA V3 3 := fun _ _ => rfl
    have d4 : ∀ f g, zA (zsA (zsB V3 1 f) 2 g) 4 k = nI (r_cn (r_tK b L) k (i - 1)) := fun _ _ => hcnt
    have d5 : ∀ f g u x, zA (zsI (zsA (zsA (zsB V3 1 f) 2 g) 3 u) 0 4 x) 4 k = nI (r_cn (r_tK b L) k (i - 1)) := fun _ _ _ _ => hcnt
    have d6 : ∀ f g u x, zA (zsI (zsA (zsA (zsB V3 1 f) 2 g) 3 u) 0 4 x) 4 = zA V3 4 := fun _ _ _ _ => rfl
    rw [te, y_bd, if_pos rfl, n1, if_neg (show ¬ (76 : Int32) ≤ nI _ from nI_ge (b := 76) hlen (by decide)), if_neg (nI_pos (by omega)), if_neg (show ¬ (27 : Int32) ≤ nI k from nI_ge (b := 27) (by omega) (by decide)), y_bd]
    simp only [y_ck (show (r_tl b L i).length < 76 from hlen) (show 76 < 2 ^ 31 by decide), y_ck (show k < 27 by omega) (show 27 < 2 ^ 31 by decide), nI_clamp (show (r_tl b L i).length < 2 ^ 31 by omega), nI_clamp (show k < 2 ^ 31 by omega), y_let, c1, c2, c3, d2, d3, d4, d5, s1, y_bd, nI_1]
    have etl : r_tl b L (i + 1) = r_tl b L i ++ [(r_tW b L i, k, r_cn (r_tK b L) k (i - 1))] := by
      have z : r_tol (r_tl b L i) (r_tW b L i) = false := by
        by_cases z : r_tol (r_tl b L i) (r_tW b L i) = true
        · exact absurd hf (r_fd_tol.mp z)
        · simpa using z
      rw [r_tl, if_pos ⟨hk.1, r_ro20.mpr hk.2, z⟩, ek]
    left
    refine ⟨_, _, rfl, s2, ⟨⟨?_, ?_, fun k' e he => ?_⟩, ⟨fun a a1 a2 => h3.2.1.1 a a1 a2, fun k' a1 a2 => h3.2.1.2 k' a1 a2⟩, fun k' hk' => ?_⟩, (s3 5).trans h5, (s3 6).trans h6, s4.2.2.1 1 (by decide), fun k' z => ?_⟩
    · show nI ((r_tl b L i).length + 1) = _
      rw [etl, List.length_append]; rfl
    · rw [etl, List.length_append]; show (r_tl b L i).length + 1 ≤ 76; omega
    · rw [etl] at he
      show vp_updL (zB V3 1) _ _ k' = _ ∧ upd (zA V3 2) _ _ k' = _ ∧ upd (zA V3 3) _ _ k' = _ ∧ _
      rw [y_updL, y_upd, y_upd]
      by_cases q : k' = (r_tl b L i).length
      · subst q
        rw [List.getElem?_append_right (Nat.le_refl _), Nat.sub_self] at he
        cases he
        rw [if_pos rfl, if_pos rfl, if_pos rfl]
        exact ⟨rfl, rfl, rfl, k7, hcn, ha, h8⟩
      · have : k' < ((r_tl b L i) ++ [(r_tW b L i, k, r_cn (r_tK b L) k (i - 1))]).length := (List.getElem?_eq_some_iff.mp he).1
        rw [List.length_append] at this
        have : k' < (r_tl b L i).length + 1 := this
        rw [List.getElem?_append_left (by omega)] at he
        rw [if_neg q, if_neg q, if_neg q]; exact n3 k' e he
    · show upd (zA V3 4) k _ k' = _
      rw [y_upd, Nat.add_sub_cancel]
      have hi0 : i ≠ 0 := by
        intro y
        subst y
        have := hk.1
        omega
      by_cases q : k' = k
      · subst q
        rw [if_pos rfl]
        have := r_cn_succ (K := r_tK b L) (w := k') (i := i - 1) ek
        rw [show i - 1 + 1 = i by omega] at this
        rw [this]
      · rw [if_neg q, h3.2.2 k' hk']
        have := r_cn_same (K := r_tK b L) (w := k') (i := i - 1) (by omega)
        rw [show i - 1 + 1 = i by omega] at this
        rw [this]
    · have := ((r_sP_tg hk hi).mp z).2
      exact absurd hf (r_fd_tol.mp this)
end
