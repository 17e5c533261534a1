/-! ===== the class takes a part ===== -/
section
variable {F : Nat} {b : Nat → Nat} {L N E : Nat} {V1 T : zV}
theorem r_shp (h : r_gram (r_tK b L) = .ok E) {a : Nat} (ha : a < E) : (r_tK b L a ≤ 6 → ∃ e, r_psh (r_tK b L) a e) ∧ (r_tK b L a = 7 → ∃ e, r_hs7 (r_tK b L) a e) := by
  obtain ⟨-, -, p, -, h2, -, h4⟩ := r_gram_Q (K := r_tK b L) (E := E) (P := fun m => (r_tK b L m ≤ 6 → ∃ e, r_psh (r_tK b L) m e) ∧ ¬ r_tK b L m = 7)
    (Q := fun m => ¬ r_tK b L m ≤ 6 ∧ (r_tK b L m = 7 → ∃ e, r_hs7 (r_tK b L) m e))
    (fun i e hp m m1 m2 => by
      by_cases q : m = i
      · subst q; exact ⟨fun _ => ⟨e, hp⟩, by have := hp.1; omega⟩
      · have := (r_psh_in hp).2 m (by omega) m2
        exact ⟨fun z => by omega, by omega⟩)
    (fun i e _ hp m m1 m2 => by
      by_cases q : m = i
      · subst q; exact ⟨by have := hp.1; omega, fun _ => ⟨e, hp⟩⟩
      · have := (r_hs7_in hp).2 m (by omega) m2
        exact ⟨by omega, fun z => by omega⟩)
    (fun i e he hk hr m m1 m2 => by
      obtain ⟨c, sh, h0⟩ := r_rule_sh hk hr
      obtain ⟨a1, a2, a3, a4, a5, a6, a7, a8, a9, a10, a11, a12⟩ := sh
      have : ¬ r_tK b L m ≤ 7 := by
        by_cases q1 : m = i
        · subst q1; omega
        by_cases q2 : m = i + 1
        · subst q2; omega
        by_cases q5 : m = c
        · subst q5; omega
        by_cases q6 : m = e - 1
        · subst q6; omega
        by_cases q3 : m = i + 2
        · subst q3; omega
        by_cases q4 : m < c
        · have := a10 m (by omega) q4; unfold r_ek at this; omega
        · have := a11 m (by omega) (by omega); unfold r_ek at this; omega
      exact ⟨by omega, fun z => by omega⟩)
    (fun i hi => ⟨by omega, fun z => by omega⟩) h
  by_cases q : a < p
  · exact ⟨(h2 a q).1, fun z => absurd z (h2 a q).2⟩
  · exact ⟨fun z => absurd z (h4 a (by omega) ha).1, (h4 a (by omega) ha).2⟩
theorem r_c4_fin {i k : Nat} {q : zV} (h : r_c4 b L E i T) (hk : r_tK b L i = k) (h1 : zA q 1 = zA T 1)
    (hr : ∀ r, r ∈ [2, 3, 5, 6, 7, 8, 9, 10, 11] → (r_k4 r = k → zA q r = upd (zA T r) (r_cn (r_tK b L) k i) (r_v4 b L E r i)) ∧ (¬ r_k4 r = k → zA q r = zA T r)) (h4 : ¬ k = 2 → zA q 4 = zA T 4) (h4' : k = 2 → ∀ x y, x < 8 → y < 8 → (y_apart q x y = true ↔ y_apart T x y = true ∨ (x = r_nu b L E (i + 1) ∧ y = r_nu b L E (i + 2)) ∨ (x = r_nu b L E (i + 2) ∧ y = r_nu b L E (i + 1)))) : r_c4 b L E (i + 1) (zsA q 1 (upd (zA q 1) k (nI (r_cn (r_tK b L) k i + 1)))) := by
  have row : ∀ r, ¬ r = 1 → zA (zsA q 1 (upd (zA q 1) k (nI (r_cn (r_tK b L) k i + 1)))) r = zA q r := fun r hr => by
    show (if r = 1 then _ else zA q r) = _
    rw [if_neg hr]
  refine r_c4_step h hk (fun w hw => ?_) (fun r hr' => ?_) (fun z => (row 4 (by decide)).trans (h4 z)) (fun z => ?_)
  · show upd (zA q 1) k _ w = _
    rw [y_upd, h1]
  · have : ¬ r = 1 := fun z => absurd hr' (by rw [z]; decide)
    rw [row r this]
    exact hr r hr'
  · intro c d hc hd
    have e : y_apart (zsA q 1 (upd (zA q 1) k (nI (r_cn (r_tK b L) k i + 1)))) c d = y_apart q c d := by
      unfold y_apart
      rw [row 4 (by decide)]
    rw [e, h4' z c d hc hd, h.2.2 c d hc hd]
    constructor
    · rintro (⟨j, j1, j2, j3⟩ | ⟨z1, z2⟩ | ⟨z1, z2⟩)
      · exact ⟨j, by omega, j2, j3⟩
      · exact ⟨i, by omega, by omega, Or.inl ⟨z1.symm, z2.symm⟩⟩
      · exact ⟨i, by omega, by omega, Or.inr ⟨z2.symm, z1.symm⟩⟩
    · rintro ⟨j, j1, j2, j3⟩
      by_cases q : j = i
      · subst q
        rcases j3 with ⟨z1, z2⟩ | ⟨z1, z2⟩
        · exact Or.inr (Or.inl ⟨z1.symm, z2.symm⟩)
        · exact Or.inr (Or.inr ⟨z2.symm, z1.symm⟩)
      · exact Or.inl ⟨j, by omega, j2, j3⟩
theorem r_nu8 (hg : r_gf (r_tK b L) E) {j : Nat} (hj : j ≤ E) (hk : r_tK b L j = 27) (hro : r_ro (r_tK b L) j = 1) : r_nu b L E j < 8 := by
  unfold r_nu
  rw [if_pos hk, hro, if_neg (by decide), if_neg (by decide)]
  cases h : r_lk (r_tl b L j) (r_tW b L j) 1 with
  | none => show 0 < 8; decide
  | some c =>
    have := r_lk_lt j h
    have := r_cn_mono (K := r_tK b L) (w := 1) hj
    have := hg.2.2.1 1 (by decide)
    have e : r_room 1 = 8 := rfl
    show c < 8
    omega
theorem c_takeOne (hgr : r_gram (r_tK b L) = .ok E) (h : r_nv b L N E N V1) {i k : Nat} (hi : i < E) (hk : r_tK b L i = k) (hk7 : k ≤ 7) (h4 : r_c4 b L E i T) : ∃ q, fX9_takeOne F V1 T (nI i) (nI k) = some q ∧ zA q 1 = zA T 1 ∧ r_c4 b L E (i + 1) (zsA q 1 (upd (zA q 1) k (nI (r_cn (r_tK b L) k i + 1)))) := by
  have hg := r_gram_gf hgr
  have hN := h.1
  obtain ⟨s1, s2⟩ := r_shp hgr hi
  obtain ⟨g1, g2, g3⟩ := hg.2.1 i hi (by omega)
  have hE41 := hg.1.1
  have hy := h4.1 k hk7
  have hcn := r_cn_le (K := r_tK b L) (w := k) i
  rw [hk] at g3
  have n1 := c_num (F := F) h (j := i + 1) (by omega)
  have n2 := c_num (F := F) h (j := i + 2) (by omega)
  generalize hc : r_cn (r_tK b L) k i = c at *
  have row : ∀ (r : Nat) (f : Nat → Int32), (∀ r', ¬ r' = r → zA (zsA T r f) r' = zA T r') := fun r f r' hr => by
    show (if r' = r then _ else zA T r') = _
    rw [if_neg hr]
  have lead : ∀ x3 : Int32, x3 = nI k → fX9_takeOne F V1 T (nI i) x3 = if x3 = 0 then (if (16 : Int32) ≤ nI c then fX9_takeOne_b52 F V1 T (nI i) x3 (nI c) (nI (r_nu b L E (i + 1))) (nI (r_nu b L E (i + 2))) else zchk (zix (nI c) 16) <| zlet (zsA T 2 (upd (zA T 2) (nI c).toNatClampNeg (nI (r_nu b L E (i + 2))))) fun V => some V) else fX9_takeOne_b52 F V1 T (nI i) x3 (nI c) (nI (r_nu b L E (i + 1))) (nI (r_nu b L E (i + 2))) := by
    rintro _ rfl
    rw [fX9_takeOne, y_ck (by omega) (by decide), y_let, nI_clamp (by omega), hy, show (1 : Int32) = nI 1 from rfl, show (2 : Int32) = nI 2 from rfl, nI_add, nI_add, n1, y_bd, n2, y_bd]
  have one : ∀ (r : Nat), r ∈ [2, 3, 5, 9] → r_k4 r = k → ∃ q, some (zsA T r (upd (zA T r) c (nI (r_nu b L E (i + 2))))) = some q ∧ zA q 1 = zA T 1 ∧ r_c4 b L E (i + 1) (zsA q 1 (upd (zA q 1) k (nI (c + 1)))) := by
    intro r hr hrk
    refine ⟨_, rfl, row r _ 1 (fun z => by rw [← z] at hr; revert hr; decide), ?_⟩
    have e4 : ¬ 4 = r := fun z => by rw [← z] at hr; revert hr; decide
    have fin := r_c4_fin (T := T) (k := k) (q := zsA T r (upd (zA T r) c (nI (r_nu b L E (i + 2))))) h4 hk (row r _ 1 (fun z => by rw [← z] at hr; revert hr; decide)) (fun r' hr' => ⟨fun z => ?_, fun z => ?_⟩) (fun _ => row r _ 4 e4) (fun z => ?_)
    · rw [hc] at fin; exact fin
    · have e : r' = r := (show ∀ r ∈ [2, 3, 5, 9], ∀ r' ∈ [2, 3, 5, 6, 7, 8, 9, 10, 11], r_k4 r' = r_k4 r → r' = r by decide) r hr r' hr' (by rw [z, hrk])
      subst e
      have ev : r_v4 b L E r' i = nI (r_nu b L E (i + 2)) := by
        unfold r_v4
        rw [if_neg (show ¬ r' = 6 from fun z => by rw [z] at hr; revert hr; decide), if_neg (show ¬ r' = 8 from fun z => by rw [z] at hr; revert hr; decide), if_neg (show ¬ r' = 11 from fun z => by rw [z] at hr; revert hr; decide)]
      rw [ev, hc]
      show (if r' = r' then _ else zA T r') = _
      rw [if_pos rfl]
    · exact row r _ r' fun y => z (by rw [y, hrk])
    · exfalso
      rw [z] at hrk
      exact (show ∀ r ∈ [2, 3, 5, 9], ¬ r_k4 r = 2 by decide) r hr hrk
  have hcases : k = 0 ∨ k = 1 ∨ k = 2 ∨ k = 3 ∨ k = 4 ∨ k = 5 ∨ k = 6 ∨ k = 7 := by omega
  rcases hcases with rfl | rfl | rfl | rfl | rfl | rfl | rfl | rfl
  · have g3 : c < 16 := g3
    rw [lead _ rfl, if_pos (by decide), if_neg (show ¬ (16 : Int32) ≤ nI c from nI_ge (b := 16) g3 (by decide)), y_ck g3 (by decide), y_let, nI_clamp (by omega)]
    exact one 2 (by decide) rfl
  · have g3 : c < 8 := g3
    rw [lead _ rfl, if_neg (by decide), fX9_takeOne_b52, if_pos (by decide), if_neg (show ¬ (8 : Int32) ≤ nI c from nI_ge (b := 8) g3 (by decide)), y_ck g3 (by decide), y_let, nI_clamp (by omega)]
    exact one 3 (by decide) rfl
  · obtain ⟨e, p1, p2, p3, p4, p5, p6, p7⟩ := s1 (by omega)
    obtain ⟨p8, -, -⟩ := p5 (Or.inl hk)
    have l1 := r_nu8 (b := b) (L := L) hg (j := i + 1) (by omega) g1 (by unfold r_ro; rw [show i + 1 - 1 = i by omega, hk]; rfl)
    have l2 := r_nu8 (b := b) (L := L) hg (j := i + 2) (by omega) p8 (by unfold r_ro; rw [show i + 2 - 1 = i + 1 by omega, g1, show i + 2 - 2 = i by omega, hk]; rfl)
    obtain ⟨q, a1, a2, a3⟩ := c_apart (F := F) (T := T) l1 l2
    rw [lead _ rfl, if_neg (by decide), fX9_takeOne_b52, if_neg (by decide), fX9_takeOne_b79, if_pos (by decide), a1, y_bd]
    refine ⟨q, rfl, a2 1 (by decide), ?_⟩
    have fin := r_c4_fin (T := T) (k := 2) (q := q) h4 hk (a2 1 (by decide)) (fun r hr => ⟨fun z => absurd z ((show ∀ r ∈ [2, 3, 5, 6, 7, 8, 9, 10, 11], ¬ r_k4 r = 2 by decide) r hr), fun _ => a2 r ((show ∀ r ∈ [2, 3, 5, 6, 7, 8, 9, 10, 11], ¬ r = 4 by decide) r hr)⟩) (fun z => absurd rfl z) (fun _ x y hx hy => a3 x y hx hy)
    rw [hc] at fin; exact fin
  · have g3 : c < 16 := g3
    rw [lead _ rfl, if_neg (by decide), fX9_takeOne_b52, if_neg (by decide), fX9_takeOne_b79, if_neg (by decide), if_pos (by decide), if_neg (show ¬ (16 : Int32) ≤ nI c from nI_ge (b := 16) g3 (by decide)), y_ck g3 (by decide), y_let, nI_clamp (by omega)]
    exact one 5 (by decide) rfl
  · rw [lead _ rfl, if_neg (by decide), fX9_takeOne_b52, if_neg (by decide), fX9_takeOne_b79, if_neg (by decide), if_neg (by decide), fX9_takeOne_b122, if_neg (by decide), fX9_takeOne_b188, if_neg (by decide), fX9_takeOne_b216, if_neg (by decide)]
    refine ⟨T, rfl, rfl, ?_⟩
    have fin := r_c4_fin (T := T) (k := 4) (q := T) h4 hk rfl (fun r hr => ⟨fun z => absurd z ((show ∀ r ∈ [2, 3, 5, 6, 7, 8, 9, 10, 11], ¬ r_k4 r = 4 by decide) r hr), fun _ => rfl⟩) (fun _ => rfl) (fun z => absurd z (by decide))
    rw [hc] at fin; exact fin
  · have g3 : c < 24 := g3
    obtain ⟨e, p1, p2, p3, p4, p5, p6, p7⟩ := s1 (by omega)
    obtain ⟨p8, p9⟩ := p6 hk
    have i2 : i + 2 < E := by
      by_cases z : i + 2 = E
      · rw [z] at p8; omega
      · omega
    have fin : ∀ v : Int32, v = r_v4 b L E 8 i → ∃ q, fX9_takeOne_b184 F V1 (zsA (zsA T 6 (upd (zA T 6) c (nI (r_nu b L E (i + 1))))) 7 (upd (zA T 7) c (nI (r_nu b L E (i + 2))))) (nI c) v = some q ∧ zA q 1 = zA T 1 ∧ r_c4 b L E (i + 1) (zsA q 1 (upd (zA q 1) 5 (nI (c + 1)))) := by
      intro v hv
      have e8 : zA (zsA (zsA T 6 (upd (zA T 6) c (nI (r_nu b L E (i + 1))))) 7 (upd (zA T 7) c (nI (r_nu b L E (i + 2))))) 8 = zA T 8 := rfl
      rw [fX9_takeOne_b184, y_ck g3 (by decide), y_let, nI_clamp (by omega), e8]
      refine ⟨_, rfl, rfl, ?_⟩
      have fin := r_c4_fin (T := T) (k := 5) (q := zsA (zsA (zsA T 6 (upd (zA T 6) c (nI (r_nu b L E (i + 1))))) 7 (upd (zA T 7) c (nI (r_nu b L E (i + 2))))) 8 (upd (zA T 8) c v)) h4 hk rfl (fun r hr => ?_) (fun _ => rfl) (fun z => absurd z (by decide))
      · rw [hc] at fin; exact fin
      · rw [hc]
        simp only [List.mem_cons, List.not_mem_nil, or_false] at hr
        rcases hr with rfl | rfl | rfl | rfl | rfl | rfl | rfl | rfl | rfl
        · exact ⟨fun z => absurd z (by decide), fun _ => rfl⟩
        · exact ⟨fun z => absurd z (by decide), fun _ => rfl⟩
        · exact ⟨fun z => absurd z (by decide), fun _ => rfl⟩
        · exact ⟨fun _ => rfl, fun z => absurd rfl z⟩
        · exact ⟨fun _ => rfl, fun z => absurd rfl z⟩
        · exact ⟨fun _ => by rw [hv]; rfl, fun z => absurd rfl z⟩
        · exact ⟨fun z => absurd z (by decide), fun _ => rfl⟩
        · exact ⟨fun z => absurd z (by decide), fun _ => rfl⟩
        · exact ⟨fun z => absurd z (by decide), fun _ => rfl⟩
    have e7 : zA (zsA T 6 (upd (zA T 6) c (nI (r_nu b L E (i + 1))))) 7 = zA T 7 := rfl
    rw [lead _ rfl, if_neg (by decide), fX9_takeOne_b52, if_neg (by decide), fX9_takeOne_b79, if_neg (by decide), if_neg (by decide), fX9_takeOne_b122, if_pos (by decide), if_neg (show ¬ (24 : Int32) ≤ nI c from nI_ge (b := 24) g3 (by decide)), y_ck g3 (by decide), y_let, y_ck g3 (by decide), y_let, nI_clamp (by omega), e7, show (3 : Int32) = nI 3 from rfl, nI_add, c_kat2 h (by omega), y_bd]
    by_cases q8 : r_tK b L (i + 3) = 8
    · have i3 : i + 3 < E := by
        by_cases z : i + 3 = E
        · rw [z] at q8; omega
        · omega
      rw [if_pos (show nI (r_tK b L (i + 3)) = (8 : Int32) by rw [q8]; rfl), show (4 : Int32) = nI 4 from rfl, nI_add, c_num h (by omega), y_bd]
      refine fin _ ?_
      unfold r_v4
      rw [if_neg (by decide), if_pos rfl, if_pos q8]
    · have kle := r_tK_le (b := b) (L := L) (i + 3)
      rw [if_neg (show ¬ nI (r_tK b L (i + 3)) = (8 : Int32) from fun z => q8 ((nI_eq (b := 8) (by omega) (by decide)).mp z))]
      refine fin _ ?_
      unfold r_v4
      rw [if_neg (by decide), if_pos rfl, if_neg q8]
  · have g3 : c < 16 := g3
    rw [lead _ rfl, if_neg (by decide), fX9_takeOne_b52, if_neg (by decide), fX9_takeOne_b79, if_neg (by decide), if_neg (by decide), fX9_takeOne_b122, if_neg (by decide), fX9_takeOne_b188, if_pos (by decide), if_neg (show ¬ (16 : Int32) ≤ nI c from nI_ge (b := 16) g3 (by decide)), y_ck g3 (by decide), y_let, nI_clamp (by omega)]
    exact one 9 (by decide) rfl
  · have g3 : c < 12 := g3
    obtain ⟨e, p1, p2, p3, p4, p5⟩ := s2 hk
    have i2 : i + 2 < E := by
      by_cases z : i + 2 = E
      · rw [z] at p4; omega
      · omega
    have fin : ∀ v : Int32, v = r_v4 b L E 11 i → ∃ q, fX9_takeOne_b270 F V1 (zsA T 10 (upd (zA T 10) c (nI (r_nu b L E (i + 2))))) (nI c) v = some q ∧ zA q 1 = zA T 1 ∧ r_c4 b L E (i + 1) (zsA q 1 (upd (zA q 1) 7 (nI (c + 1)))) := by
      intro v hv
      have e8 : zA (zsA T 10 (upd (zA T 10) c (nI (r_nu b L E (i + 2))))) 11 = zA T 11 := rfl
      rw [fX9_takeOne_b270, y_ck g3 (by decide), y_let, nI_clamp (by omega), e8]
      refine ⟨_, rfl, rfl, ?_⟩
      have fin := r_c4_fin (T := T) (k := 7) (q := zsA (zsA T 10 (upd (zA T 10) c (nI (r_nu b L E (i + 2))))) 11 (upd (zA T 11) c v)) h4 hk rfl (fun r hr => ?_) (fun _ => rfl) (fun z => absurd z (by decide))
      · rw [hc] at fin; exact fin
      · rw [hc]
        simp only [List.mem_cons, List.not_mem_nil, or_false] at hr
        rcases hr with rfl | rfl | rfl | rfl | rfl | rfl | rfl | rfl | rfl
        · exact ⟨fun z => absurd z (by decide), fun _ => rfl⟩
        · exact ⟨fun z => absurd z (by decide), fun _ => rfl⟩
        · exact ⟨fun z => absurd z (by decide), fun _ => rfl⟩
        · exact ⟨fun z => absurd z (by decide), fun _ => rfl⟩
        · exact ⟨fun z => absurd z (by decide), fun _ => rfl⟩
        · exact ⟨fun z => absurd z (by decide), fun _ => rfl⟩
        · exact ⟨fun z => absurd z (by decide), fun _ => rfl⟩
        · exact ⟨fun _ => rfl, fun z => absurd rfl z⟩
        · exact ⟨fun _ => by rw [hv]; rfl, fun z => absurd rfl z⟩
    rw [lead _ rfl, if_neg (by decide), fX9_takeOne_b52, if_neg (by decide), fX9_takeOne_b79, if_neg (by decide), if_neg (by decide), fX9_takeOne_b122, if_neg (by decide), fX9_takeOne_b188, if_neg (by decide), fX9_takeOne_b216, if_pos (by decide), if_neg (show ¬ (12 : Int32) ≤ nI c from nI_ge (b := 12) g3 (by decide)), y_ck g3 (by decide), y_let, nI_clamp (by omega), show (3 : Int32) = nI 3 from rfl, nI_add, c_kat2 h (by omega), y_bd]
    by_cases q9 : r_tK b L (i + 3) = 9
    · have i3 : i + 3 < E := by
        by_cases z : i + 3 = E
        · rw [z] at q9; omega
        · omega
      rw [if_pos (show nI (r_tK b L (i + 3)) = (9 : Int32) by rw [q9]; rfl), show (4 : Int32) = nI 4 from rfl, nI_add, c_num h (by omega), y_bd]
      refine fin _ ?_
      unfold r_v4
      rw [if_neg (by decide), if_neg (by decide), if_pos rfl, if_pos q9]
    · have kle := r_tK_le (b := b) (L := L) (i + 3)
      rw [if_neg (show ¬ nI (r_tK b L (i + 3)) = (9 : Int32) from fun z => q9 ((nI_eq (b := 9) (by omega) (by decide)).mp z))]
      refine fin _ ?_
      unfold r_v4
      rw [if_neg (by decide), if_neg (by decide), if_pos rfl, if_neg q9]
end
