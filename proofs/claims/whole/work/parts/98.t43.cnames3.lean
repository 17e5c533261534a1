/-! ===== the class's names: a NAME, all of them ===== -/
section
variable {F : Nat} {b : Nat → Nat} {L N E : Nat} {V1 V3 : zV}
theorem c_uses (hF : 100 ≤ F) (hg : r_gf (r_tK b L) E) {i t : Nat} (hi : i < E) (hk : r_tK b L i = 27) (hro : r_ro (r_tK b L) i = t) (ht : t ≤ 7) (h : r_nv b L N E i V1) (h3 : r_n3 b L E i V3) (h5 : zI V1 0 5 = 0) (h7 : t = 7 → 1 ≤ i ∧ r_tK b L (i - 1) = 18) :
    (∃ c V1', r_wh b L E i t = some c ∧ c = r_nu b L E i ∧ c ≤ 1000 ∧ fX5_use F V1 V3 (nI i) (nI t) = some V1' ∧ r_nv b L N E (i + 1) V1' ∧ (∀ k, zI V1' 0 k = zI V1 0 k) ∧ zB V1' 1 = zB V1 1) ∨ (r_wh b L E i t = none ∧ fX5_use F V1 V3 (nI i) (nI t) = some (r_blm b L 4 i V1)) := by
  have hN := h.1
  have cu := c_use (F := F) hF hg hi hk ht h h3 h7
  have hnu : ∀ c, r_wh b L E i t = some c → c = r_nu b L E i := by
    intro c hc
    unfold r_nu
    unfold r_wh at hc
    rw [if_pos hk, if_neg (by omega), hro]
    by_cases q : t = 7
    · rw [if_pos q] at hc ⊢; rw [hc]; rfl
    · rw [if_neg q] at hc ⊢; rw [hc]; rfl
  cases hw : r_wh b L E i t with
  | some c =>
    rw [hw] at cu
    obtain ⟨c1, c2⟩ := cu
    obtain ⟨V1', s1, s2, s3, s4⟩ := c_setn (F := F) (c := c) h hi (by omega) hk (hnu c hw)
    left
    refine ⟨c, V1', rfl, hnu c hw, c1, ?_, s2, s3, s4.2.2.1 1 (by decide)⟩
    rw [c2, fX5_use_b74, if_neg (fun z => ?_), s1, y_bd]
    have : ¬ nI c < 0 := nI_pos (by omega)
    rw [z] at this
    exact this (by decide)
  | none =>
    rw [hw] at cu
    right
    refine ⟨rfl, ?_⟩
    have cu : fX5_use F V1 V3 (nI i) (nI t) = fX5_use_b74 F V1 V3 (nI i) (-1) := cu
    rw [cu, fX5_use_b74, if_pos rfl, show (4 : Int32) = nI 4 from rfl, c_blm h h5 (by omega), y_bd]
theorem r_no_bd {i : Nat} {B : Nat → Int64} {res : Option (zV × zV)} (h : r_no b L N E i B res) : r_no b L N E i B (zbd res fun q => some (q.1, q.2)) := by
  rcases h with ⟨a, c, rfl, h⟩ | ⟨a, c, k, rfl, h⟩
  · exact Or.inl ⟨a, c, rfl, h⟩
  · exact Or.inr ⟨a, c, k, rfl, h⟩
/-- a use that is no second name of two -/
theorem c_use1 (hF : 100 ≤ F) (hg : r_gf (r_tK b L) E) {i t : Nat} (hi : i < E) (h0 : 0 < i) (hk : r_tK b L i = 27) (hro : r_ro (r_tK b L) i = t) (ht : t ≤ 7) (h18 : t = 7 ↔ r_tK b L (i - 1) = 18) (h2 : ¬ (r_tK b L (i - 1) = 27 ∧ (r_tK b L (i - 2) = 2 ∨ r_tK b L (i - 2) = 5))) (h : r_nv b L N E i V1) (h3 : r_n3 b L E i V3) (h5 : zI V1 0 5 = 0) (h6 : zI V1 0 6 = -1) :
    r_no b L N E i (zB V1 1) (zbd (fX5_use F V1 V3 (nI i) (nI t)) fun q => some (q, V3)) := by
  have hN := h.1
  have sp := fun k => r_sP_us (b := b) (L := L) (E := E) (k := k) hk hro ht hi h0 h18
  have ntg : ¬ r_tg (r_tK b L) i := fun z => by have := r_ro20.mpr z.2; omega
  rcases c_uses (F := F) hF hg hi hk hro ht h h3 h5 (fun z => ⟨h0, h18.mp z⟩) with ⟨c, V1', e1, e2, e3, e4, e5, e6, e7⟩ | ⟨e1, e4⟩
  · rw [e4, y_bd]
    refine Or.inl ⟨V1', V3, rfl, e5, r_n3_same hg (by omega) h3 ntg, (e6 5).trans h5, (e6 6).trans h6, e7, fun k z => ?_⟩
    rcases (sp k).mp z with ⟨-, z⟩ | ⟨-, z1, z2, -⟩
    · rw [e1] at z; cases z
    · exact h2 ⟨z1, z2⟩
  · rw [e4, y_bd]
    refine Or.inr ⟨_, V3, 4, rfl, (sp 4).mpr (Or.inl ⟨rfl, e1⟩), fun k z => ?_, by decide, by decide, rfl, rfl, rfl, h.2.1⟩
    rcases (sp k).mp z with ⟨z, -⟩ | ⟨z, -⟩ <;> omega
/-- numbers of names of one sort -/
theorem r_wh_inj (hg : r_gf (r_tK b L) E) {i t c : Nat} {s s' : List Nat} (hi : i ≤ E) (h : r_lk (r_tl b L i) s t = some c) (h' : r_lk (r_tl b L i) s' t = some c) : s = s' := by
  have get : ∀ s, r_lk (r_tl b L i) s t = some c → ∃ a, a < i ∧ 0 < a ∧ r_tW b L a = s ∧ r_tK b L (a - 1) = t ∧ r_cn (r_tK b L) t (a - 1) = c := by
    intro s h
    rw [r_lk_fd] at h
    have hz := r_fd_tl (b := b) (L := L) (s := s) i
    cases hf : r_fd (r_tl b L i) s with
    | none => rw [hf] at h; cases h
    | some x =>
      rw [hf] at h hz
      obtain ⟨a, a1, a2, a3, a4, a5, -⟩ := hz
      dsimp only at h
      split at h
      · rename_i q
        have h := Option.some.inj h
        refine ⟨a, a1, ?_, a3, by omega, ?_⟩
        · by_cases z : a = 0
          · subst z
            have := a2.1
            have := hg.1.2.2
            omega
          · omega
        · rw [← h, a5, ← a4, q]
      · cases h
  obtain ⟨a, a1, a2, a3, a4, a5⟩ := get s h
  obtain ⟨d, d1, d2, d3, d4, d5⟩ := get s' h'
  have : a - 1 = d - 1 := by
    rcases Nat.lt_trichotomy (a - 1) (d - 1) with y | y | y
    · have := r_cn_lt y a4; omega
    · exact y
    · have := r_cn_lt y d4; omega
  have : a = d := by omega
  rw [← a3, ← d3, this]
/-- the second name of two -/
theorem c_use2 (hF : 100 ≤ F) (hg : r_gf (r_tK b L) E) {i t : Nat} (hi : i < E) (h0 : 2 ≤ i) (hk : r_tK b L i = 27) (hk1 : r_tK b L (i - 1) = 27) (hk2 : (r_tK b L (i - 2) = 2 ∧ t = 1) ∨ (r_tK b L (i - 2) = 5 ∧ t = 4)) (h : r_nv b L N E i V1) (h3 : r_n3 b L E i V3) (h5 : zI V1 0 5 = 0) (h6 : zI V1 0 6 = -1) (hno : ∀ k, ¬ r_sP b L E (r_cn (r_tK b L) 18 E) (i - 1) k) :
    r_no b L N E i (zB V1 1) (zbd (fX5_checkSecondName_b36 F V1 V3 (nI i) (nI i) (nI t)) fun q => some (q, V3)) := by
  have hN := h.1
  have hro : r_ro (r_tK b L) i = t := by
    unfold r_ro
    rcases hk2 with ⟨z, rfl⟩ | ⟨z, rfl⟩ <;> rw [hk1, z] <;> rfl
  have hro1 : r_ro (r_tK b L) (i - 1) = t := by
    unfold r_ro
    rw [show i - 1 - 1 = i - 2 by omega]
    rcases hk2 with ⟨z, rfl⟩ | ⟨z, rfl⟩ <;> rw [z] <;> rfl
  have sp := fun k => r_sP_us (b := b) (L := L) (E := E) (k := k) hk hro (by omega) hi (by omega) ⟨fun z => by omega, fun z => by omega⟩
  have ntg : ¬ r_tg (r_tK b L) i := fun z => by have := r_ro20.mpr z.2; omega
  have ntg1 : ¬ (r_tK b L (i - 1) = 27 ∧ 20 ≤ r_ro (r_tK b L) (i - 1)) := fun z => by have := z.2; omega
  have etl : r_tl b L i = r_tl b L (i - 1) := by
    have := r_tl_same (b := b) (L := L) (i := i - 1) ntg1
    rwa [show i - 1 + 1 = i by omega] at this
  have h1 : ∃ c', r_lk (r_tl b L i) (r_tW b L (i - 1)) t = some c' ∧ r_nu b L E (i - 1) = c' := by
    have hn4 := hno 4
    cases hz : r_lk (r_tl b L (i - 1)) (r_tW b L (i - 1)) t with
    | none => exact absurd (Or.inl ⟨by omega, Or.inl ⟨hk1, Or.inr (Or.inl ⟨rfl, by omega, by rw [hro1]; exact hz⟩)⟩⟩) hn4
    | some c' =>
      refine ⟨c', by rw [etl]; exact hz, ?_⟩
      unfold r_nu
      rw [if_pos hk1, hro1, if_neg (by omega), if_neg (by omega), hz]; rfl
  obtain ⟨c', n1, n2⟩ := h1
  have hc' : c' ≤ 1000 := by
    have := r_lk_lt i n1
    have := r_cn_le (K := r_tK b L) (w := t) i
    omega
  unfold fX5_checkSecondName_b36
  rcases c_uses (F := F) hF hg hi hk hro (by omega) h h3 h5 (fun z => by omega) with ⟨c, V1', e1, e2, e3, e4, e5, e6, e7⟩ | ⟨e1, e4⟩
  · have v1 := c_valj (F := F) e5 (j := i) (by omega)
    have v2 := c_valj (F := F) e5 (j := i - 1) (by omega)
    rw [e5.2.2.2 i (by omega), if_pos ⟨by omega, hk⟩, ← e2] at v1
    rw [e5.2.2.2 (i - 1) (by omega), if_pos ⟨by omega, hk1⟩, n2] at v2
    have hw : r_lk (r_tl b L i) (r_tW b L i) t = some c := by
      unfold r_wh at e1
      rwa [if_neg (by omega)] at e1
    rw [e4, y_bd, v1, y_bd, show (1 : Int32) = nI 1 from rfl, pk_sub (by omega), v2, y_bd]
    by_cases q : r_tW b L i = r_tW b L (i - 1)
    · have hcc : c = c' := by
        rw [q, n1] at hw
        exact (Option.some.inj hw).symm
      rw [if_pos ((lg_cmp_eq _ _).mpr (by rw [hcc])), show (5 : Int32) = nI 5 from rfl, c_blm e5 ((e6 5).trans h5) (by omega), y_bd, y_bd]
      refine Or.inr ⟨_, V3, 5, rfl, (sp 5).mpr (Or.inr ⟨rfl, hk1, by omega, q⟩), fun k z => ?_, by decide, by decide, rfl, rfl, e7, e5.2.1⟩
      rcases (sp k).mp z with ⟨-, z⟩ | ⟨z, -⟩
      · rw [e1] at z; cases z
      · omega
    · rw [if_neg (fun z => q ?_), y_bd]
      · refine Or.inl ⟨V1', V3, rfl, e5, r_n3_same hg (by omega) h3 ntg, (e6 5).trans h5, (e6 6).trans h6, e7, fun k z => ?_⟩
        rcases (sp k).mp z with ⟨-, z⟩ | ⟨-, -, -, z⟩
        · rw [e1] at z; cases z
        · exact q z
      · have hcc : c = c' := (pk_lEQ (by omega) (by omega)).mp ((lg_cmp_eq _ _).mp z)
        rw [← hcc] at n1
        exact r_wh_inj hg (by omega) hw n1
  · have hb : r_nv b L N E i (r_blm b L 4 i V1) := h
    have h5' : ¬ zI (r_blm b L 4 i V1) 0 5 = 0 := by
      show ¬ nI 4 = 0
      decide
    rw [e4, y_bd, c_valj hb (by omega), y_bd, show (1 : Int32) = nI 1 from rfl, pk_sub (by omega), c_valj hb (by omega), y_bd]
    have fin : r_no b L N E i (zB V1 1) (zbd (some (r_blm b L 4 i V1)) fun q => some (q, V3)) := by
      rw [y_bd]
      refine Or.inr ⟨_, V3, 4, rfl, (sp 4).mpr (Or.inl ⟨rfl, e1⟩), fun k z => ?_, by decide, by decide, rfl, rfl, rfl, h.2.1⟩
      rcases (sp k).mp z with ⟨z, -⟩ | ⟨z, -⟩ <;> omega
    split
    · rw [c_blame_x h5', y_bd]; exact fin
    · exact fin
theorem c_checkName (hF : 100 ≤ F) (hg : r_gf (r_tK b L) E) {i : Nat} (hi : i < E) (hk : r_tK b L i = 27) (h : r_nv b L N E i V1) (h3 : r_n3 b L E i V3) (h5 : zI V1 0 5 = 0) (h6 : zI V1 0 6 = -1) (hno : ∀ j, j < i → ∀ k, ¬ r_sP b L E (r_cn (r_tK b L) 18 E) j k) : r_no b L N E i (zB V1 1) (fX5_checkName F V1 V3 (nI i)) := by
  have hN := h.1
  have h0 : 0 < i := by
    by_cases z : i = 0
    · subst z; have := hg.1.2.2; omega
    · omega
  have q2 : r_tK b L (i - 1) = 27 → 2 ≤ i := by
    intro z
    by_cases y : i = 1
    · subst y
      rw [show 1 - 1 = 0 from rfl] at z
      have := hg.1.2.2; omega
    · omega
  have hq2 : ∃ q11, fX10_kindAt F V1 (nI i - 2) = some q11 ∧ (r_tK b L (i - 1) = 27 → q11 = nI (r_tK b L (i - 2))) := by
    by_cases y : 2 ≤ i
    · refine ⟨_, ?_, fun _ => rfl⟩
      rw [show (2 : Int32) = nI 2 from rfl, pk_sub y, c_kat2 h (by omega)]
    · refine ⟨41, ?_, fun z => absurd (q2 z) y⟩
      have : i = 1 := by omega
      subst this
      unfold fX10_kindAt
      rw [if_pos (by decide)]
  obtain ⟨q11, k1, k2⟩ := hq2
  rw [fX5_checkName, show (1 : Int32) = nI 1 from rfl, pk_sub (by omega), c_kat2 h (by omega), y_bd, k1, y_bd]
  have kle := r_tK_le (b := b) (L := L) (i - 1)
  have use1 := fun t (hro : r_ro (r_tK b L) i = t) (ht : t ≤ 7) h18 h2 => c_use1 (F := F) hF hg hi h0 hk hro ht h18 h2 h h3 h5 h6
  generalize hq : r_tK b L (i - 1) = q at *
  by_cases tg : q = 0 ∨ q = 1 ∨ q = 3 ∨ q = 4 ∨ q = 6 ∨ q = 7
  · have res := r_no_bd (c_tell (F := F) hF hg hi (k := q) ⟨hk, by rw [hq]; exact tg⟩ hq h h3 h5 h6)
    rcases tg with rfl | rfl | rfl | rfl | rfl | rfl <;> exact res
  by_cases qa : q = 27
  · subst qa
    have h2i := q2 rfl
    have e11 := k2 rfl
    subst e11
    show r_no b L N E i (zB V1 1) (zbd (fX5_checkSecondName F V1 V3 (nI i) (nI (r_tK b L (i - 2)))) fun q45 => some (q45, V3))
    have kle2 := r_tK_le (b := b) (L := L) (i - 2)
    have ex : ∀ t, fX5_checkSecondName F V1 V3 (nI i) (nI (r_tK b L (i - 2))) = zbd (fX5_use F V1 V3 (nI i) (nI t)) (fun q => some q) → r_no b L N E i (zB V1 1) (zbd (fX5_use F V1 V3 (nI i) (nI t)) fun q => some (q, V3)) → r_no b L N E i (zB V1 1) (zbd (fX5_checkSecondName F V1 V3 (nI i) (nI (r_tK b L (i - 2)))) fun q45 => some (q45, V3)) := by
      intro t e1 e2
      rw [e1]
      cases hu : fX5_use F V1 V3 (nI i) (nI t) with
      | none => rw [hu] at e2; exact e2
      | some y => rw [hu] at e2; exact e2
    unfold fX5_checkSecondName at ex ⊢
    by_cases y3 : r_tK b L (i - 2) = 3
    · refine ex 0 ?_ (use1 0 ?_ (by decide) ⟨fun z => (by omega), fun z => (by omega)⟩ (by omega))
      · rw [y3]; rfl
      · unfold r_ro; rw [hq, y3]; rfl
    by_cases y2 : r_tK b L (i - 2) = 2
    · have := c_use2 (F := F) hF hg hi h2i hk hq (Or.inl ⟨y2, rfl⟩) h h3 h5 h6 (hno (i - 1) (by omega))
      rw [y2]
      exact this
    by_cases y5 : r_tK b L (i - 2) = 5
    · have := c_use2 (F := F) hF hg hi h2i hk hq (Or.inr ⟨y5, rfl⟩) h h3 h5 h6 (hno (i - 1) (by omega))
      rw [y5]
      exact this
    · refine ex 6 ?_ (use1 6 ?_ (by decide) ⟨fun z => (by omega), fun z => (by omega)⟩ (by omega))
      · rw [if_neg (show ¬ nI (r_tK b L (i - 2)) = (3 : Int32) from fun z => y3 ((nI_eq (b := 3) (by omega) (by decide)).mp z)), if_neg (show ¬ nI (r_tK b L (i - 2)) = (2 : Int32) from fun z => y2 ((nI_eq (b := 2) (by omega) (by decide)).mp z)), if_neg (show ¬ nI (r_tK b L (i - 2)) = (5 : Int32) from fun z => y5 ((nI_eq (b := 5) (by omega) (by decide)).mp z))]; rfl
      · unfold r_ro
        rw [hq, if_neg (by omega), if_neg (by omega), if_neg (by omega), if_neg (by omega), if_neg (by omega), if_pos rfl, if_neg y3, if_neg y2, if_neg y5]
  have h27 : ¬ (q = 27 ∧ (r_tK b L (i - 2) = 2 ∨ r_tK b L (i - 2) = 5)) := fun z => qa z.1
  by_cases qb : q = 18
  · subst qb
    exact use1 7 (by unfold r_ro; rw [hq]; rfl) (by decide) ⟨fun _ => rfl, fun _ => rfl⟩ h27
  have h18 : ∀ t, t < 7 → (t = 7 ↔ q = 18) := fun t ht => ⟨fun z => (by omega), fun z => absurd z qb⟩
  by_cases qc : q = 2 ∨ q = 20
  · have := use1 1 (by unfold r_ro; rw [hq, if_neg tg, if_pos qc]) (by decide) (h18 1 (by decide)) h27
    rcases qc with rfl | rfl <;> exact this
  by_cases qd : q = 5
  · have := use1 4 (by unfold r_ro; rw [hq, if_neg tg, if_neg qc, if_pos qd]) (by decide) (h18 4 (by decide)) h27
    subst qd; exact this
  by_cases qe : q = 8 ∨ q = 11
  · have := use1 0 (by unfold r_ro; rw [hq, if_neg tg, if_neg qc, if_neg qd, if_pos qe]) (by decide) (h18 0 (by decide)) h27
    rcases qe with rfl | rfl <;> exact this
  have := use1 6 (by unfold r_ro; rw [hq, if_neg tg, if_neg qc, if_neg qd, if_neg qe, if_neg qb, if_neg qa]) (by decide) (h18 6 (by decide)) h27
  have cs : q = 9 ∨ q = 10 ∨ q = 12 ∨ q = 13 ∨ q = 14 ∨ q = 15 ∨ q = 16 ∨ q = 17 ∨ q = 19 ∨ q = 21 ∨ q = 22 ∨ q = 23 ∨ q = 24 ∨ q = 25 ∨ q = 26 ∨ q = 28 ∨ q = 29 ∨ q = 30 ∨ q = 31 ∨ q = 32 ∨ q = 33 ∨ q = 34 ∨ q = 35 ∨ q = 36 ∨ q = 37 ∨ q = 38 ∨ q = 39 ∨ q = 40 ∨ q = 41 ∨ q = 42 := by omega
  rcases cs with rfl | rfl | rfl | rfl | rfl | rfl | rfl | rfl | rfl | rfl | rfl | rfl | rfl | rfl | rfl | rfl | rfl | rfl | rfl | rfl | rfl | rfl | rfl | rfl | rfl | rfl | rfl | rfl | rfl | rfl <;> exact this
end
