/-! ===== MODES in the reference ===== -/
section
variable {F : Nat} {b : Nat → Nat} {L M sd : Nat} {V : zV}
theorem r_tell {j : Nat} (h1 : r_tK b L j = 27) (h2 : 20 ≤ r_ro (r_tK b L) j) (h3 : ¬ r_tK b L (j - 1) = 27) : r_tl b L (j + 1) = (if r_tol (r_tl b L j) (r_tW b L j) = true then r_tl b L j else r_tl b L j ++ [(r_tW b L j, r_tK b L (j - 1), r_cn (r_tK b L) (r_tK b L (j - 1)) (j - 1))]) ∧ ∀ a k, r_wp b L (j + 1) a k ↔ (r_wp b L j a k ∨ (r_tol (r_tl b L j) (r_tW b L j) = true ∧ a = j ∧ k = 3)) := by
  refine ⟨?_, fun a k => ⟨fun z => ?_, fun z => ?_⟩⟩
  · rw [r_tl]
    by_cases q : r_tol (r_tl b L j) (r_tW b L j) = true
    · rw [if_pos q, if_neg (fun z => by rw [q] at z; cases z.2.2)]
    · rw [if_neg q, if_pos ⟨h1, h2, by simpa using q⟩]
  · by_cases q : a = j
    · subst q
      right
      rcases z.2 with ⟨-, z | z | z⟩ | z
      · exact ⟨z.2.2, rfl, z.1⟩
      · have := z.2.1; omega
      · exact absurd z.2.1 h3
      · have := z.2.1; omega
    · exact Or.inl ⟨by have := z.1; omega, z.2⟩
  · rcases z with z | ⟨z1, rfl, rfl⟩
    · exact ⟨by have := z.1; omega, z.2⟩
    · exact ⟨by omega, Or.inl ⟨h1, Or.inl ⟨rfl, h2, z1⟩⟩⟩
theorem r_time {j : Nat} (h1 : r_tK b L j = 28) (h2 : r_tK b L (j - 1) = 9) : r_tl b L (j + 1) = r_tl b L j ∧ ∀ a k, r_wp b L (j + 1) a k ↔ (r_wp b L j a k ∨ (r_tV b L j = 0 ∧ a = j ∧ k = 5)) := by
  refine ⟨r_tl_same fun z => by omega, fun a k => ⟨fun z => ?_, fun z => ?_⟩⟩
  · by_cases q : a = j
    · subst q
      right
      rcases z.2 with ⟨z, -⟩ | z
      · omega
      · exact ⟨z.2.2.2, rfl, z.1⟩
    · exact Or.inl ⟨by have := z.1; omega, z.2⟩
  · rcases z with z | ⟨z1, rfl, rfl⟩
    · exact ⟨by have := z.1; omega, z.2⟩
    · exact ⟨by omega, Or.inr ⟨rfl, h1, h2, z1⟩⟩
theorem r_lk_app {l : List r_E} {e : r_E} {s : List Nat} {t : Nat} : r_lk (l ++ [e]) s t = match r_lk l s t with
    | some c => some c
    | none => if e.1 = s ∧ e.2.1 = t then some e.2.2 else none := by
  induction l with
  | nil => rfl
  | cons a l ih =>
    rw [List.cons_append, r_lk, r_lk]
    by_cases q : a.1 = s ∧ a.2.1 = t
    · rw [if_pos q, if_pos q]
    · rw [if_neg q, if_neg q]; exact ih
/-- numbers are below how many there are -/
theorem r_lk_lt {s : List Nat} {t c : Nat} : ∀ i, r_lk (r_tl b L i) s t = some c → c < r_cn (r_tK b L) t i := by
  intro i
  induction i with
  | zero => intro h; cases h
  | succ i ih =>
    intro h
    have hm := r_cn_mono (K := r_tK b L) (w := t) (i := i) (j := i + 1) (by omega)
    rw [r_tl] at h
    split at h
    · rename_i q
      rw [r_lk_app] at h
      cases hl : r_lk (r_tl b L i) s t with
      | some c' =>
        rw [hl] at h
        cases h
        have := ih hl
        omega
      | none =>
        rw [hl] at h
        dsimp only at h
        split at h
        · rename_i q2
          cases h
          have hi0 : i ≠ 0 := by
            intro z
            subst z
            have := q.2.1
            unfold r_ro at this
            rw [show 0 - 1 = 0 from rfl, q.1] at this
            simp at this
          have e : r_tK b L (i - 1) = t := q2.2
          have := r_cn_lt (K := r_tK b L) (i := i - 1) (j := i) (by omega) e
          rw [e]
          omega
        · cases h
    · have := ih h; omega
/-! the table's rows, as far as token i -/
def r_kr (r : Nat) : Nat := if r = 12 then 0 else if r = 13 then 1 else if r = 14 ∨ r = 15 then 2 else if r = 16 then 3 else if r = 17 ∨ r = 18 ∨ r = 19 then 5 else if r = 20 then 6 else 7
def r_nq (b : Nat → Nat) (L m : Nat) : Nat := (r_lk (r_tl b L m) (r_tW b L m) (r_ro (r_tK b L) m)).getD 0
def r_val (b : Nat → Nat) (L r j : Nat) : Int32 :=
  if r = 14 ∨ r = 17 then nI (r_nq b L (j + 1)) else if r = 15 ∨ r = 16 ∨ r = 18 then nI (r_nq b L (j + 2))
  else if r = 19 then (if r_tK b L (j + 3) = 8 then nI (r_nq b L (j + 4)) else -1) else if r = 22 then (if r_tK b L (j + 3) = 9 then nI (r_tV b L (j + 4)) else 0) else nI (r_tV b L (j + 2))
def r_tB (b : Nat → Nat) (L sd i : Nat) (V : zV) : Prop := ∀ r, 12 ≤ r → r ≤ 22 → ∀ j, j < i → r_tK b L j = r_kr r → zA V r (sd * r_hs r + r_cn (r_tK b L) (r_kr r) j) = r_val b L r j
def r_tb (b : Nat → Nat) (L sd i cm : Nat) (V : zV) : Prop :=
  ((∀ k, k ≤ 7 → zA V 8 (9 * sd + k) = nI (r_cn (r_tK b L) k i)) ∧ zA V 8 (9 * sd + 8) = nI (r_cn (r_tK b L) 11 i)) ∧ r_tB b L sd i V ∧
  (∀ j, j < i → r_tK b L j = 7 → zA V 23 (13 * sd + r_cn (r_tK b L) 7 j) = nI (r_cn (r_tK b L) 11 j)) ∧
  (∀ j, j < i → r_tK b L j = 11 → ∃ c s, r_sh (r_tK b L) j c s ∧ s < i ∧ r_ru b L sd j c s cm V) ∧
  (0 < r_cn (r_tK b L) 11 i → zA V 25 (81 * sd + r_cn (r_tK b L) 11 i) = nI (400 * sd + r_nr (r_tK b L) i) ∧ zA V 26 (81 * sd + r_cn (r_tK b L) 11 i) = nI (1000 * sd + r_na (r_tK b L) i))
theorem r_nr_mono {K : Nat → Nat} {i j : Nat} (h : i ≤ j) : r_nr K i ≤ r_nr K j := by
  induction j with
  | zero => have : i = 0 := by omega
            rw [this]; exact Nat.le_refl _
  | succ j ih =>
    by_cases q : i = j + 1
    · rw [q]; exact Nat.le_refl _
    · have := ih (by omega)
      rw [r_nr]; omega
/-- a rule's rows stay as they were -/
theorem r_ru_same {j c s cm cr ca cs cc : Nat} {V' : zV} (h : r_ru b L sd j c s cm V) (h24 : zA V' 24 (80 * sd + r_cn (r_tK b L) 11 j) = zA V 24 (80 * sd + r_cn (r_tK b L) 11 j))
    (h25 : ∀ r, (r = 25 ∨ r = 26) → ∀ k, (k = 81 * sd + r_cn (r_tK b L) 11 j ∨ k = 81 * sd + r_cn (r_tK b L) 11 j + 1) → zA V' r k = zA V r k) (hb : ∀ r k, r_gb sd cr ca cs cc r k → zA V' r k = zA V r k)
    (h1 : r_nr (r_tK b L) s ≤ cr) (h2 : r_na (r_tK b L) s ≤ ca) (h3 : r_cn (r_tK b L) 18 s ≤ cs) (h4 : cm ≤ cc) (hjs : j ≤ s) (hsd : sd ≤ 1) (hcm : cm ≤ 1200) : r_ru b L sd j c s cm V' := by
  obtain ⟨g1, ⟨g2, g3⟩, ⟨g4, g5⟩, g6, g7, ⟨g8, g9⟩⟩ := h
  refine ⟨h24.trans g1, ⟨(h25 25 (Or.inl rfl) _ (Or.inl rfl)).trans g2, (h25 25 (Or.inl rfl) _ (Or.inr rfl)).trans g3⟩, ⟨(h25 26 (Or.inr rfl) _ (Or.inl rfl)).trans g4, (h25 26 (Or.inr rfl) _ (Or.inr rfl)).trans g5⟩, fun q => r_cs_same (g6 q) (r_nr_mono hjs) (fun r hr k hk => hb r k (Or.inl ⟨hr, by omega⟩)) (fun k hk => ⟨hb 37 k (Or.inr (Or.inr (Or.inr ⟨Or.inl rfl, by omega⟩))), hb 38 k (Or.inr (Or.inr (Or.inr ⟨Or.inr rfl, by omega⟩)))⟩) hsd hcm, g7, fun m m1 m2 m3 => ?_, fun m m1 m2 m3 => ?_⟩
  · obtain ⟨e, e1, e2, e3, f1, f2, f3, f4⟩ := g8 m m1 m2 m3
    have hlt := r_na_lt (K := r_tK b L) m2 m3
    have sr : ∀ r, (r = 31 ∨ r = 32 ∨ r = 33 ∨ r = 34) → zA V' r (1000 * sd + r_na (r_tK b L) m) = zA V r (1000 * sd + r_na (r_tK b L) m) := fun r hr => hb r _ (Or.inr (Or.inl ⟨hr, by omega⟩))
    refine ⟨e, e1, e2, e3, (sr 31 (by omega)).trans f1, fun q => (sr 32 (by omega)).trans (f2 q), fun q => (sr 32 (by omega)).trans (f3 q), fun q => ?_⟩
    obtain ⟨lo, hi, i1, i2, i3, i4, i5, i6⟩ := f4 q
    refine ⟨lo, hi, i1, i2, i3, (sr 33 (by omega)).trans i4, (sr 34 (by omega)).trans i5, fun E T hT hE hfol vars left ip => ?_⟩
    obtain ⟨v, v1, v2⟩ := i6 E T hT hE hfol vars left ip
    refine ⟨v, v1, ?_⟩
    rw [← v2]
    exact r_mE_same fun k hk => ⟨hb 37 k (Or.inr (Or.inr (Or.inr ⟨Or.inl rfl, by omega⟩))), hb 38 k (Or.inr (Or.inr (Or.inr ⟨Or.inr rfl, by omega⟩)))⟩
  · obtain ⟨f1, f2⟩ := g9 m m1 m2 m3
    have hlt := r_cn_lt (K := r_tK b L) m2 m3
    exact ⟨(hb 35 _ (Or.inr (Or.inr (Or.inl ⟨Or.inl rfl, by omega⟩)))).trans f1, (hb 36 _ (Or.inr (Or.inr (Or.inl ⟨Or.inr rfl, by omega⟩)))).trans f2⟩
theorem r_ru_cm {j c s cm cm' : Nat} (h : r_ru b L sd j c s cm V) (hc : cm ≤ cm') : r_ru b L sd j c s cm' V :=
  ⟨h.1, h.2.1, h.2.2.1, fun q => r_cs_cm (h.2.2.2.1 q) hc, h.2.2.2.2.1, r_al_cm h.2.2.2.2.2 hc⟩
/-- a rule keeps the table's rows -/
theorem r_tb_rule {i e c cm cm' : Nat} {V' : zV} (hK : r_tK b L i = 11) (h : r_tb b L sd i cm V) (f : r_gr sd (r_cn (r_tK b L) 11 i) (r_nr (r_tK b L) i) (r_na (r_tK b L) i) (r_cn (r_tK b L) 18 i) cm V V') (hc : cm ≤ cm') (hcm : cm ≤ 1200) (hsd : sd ≤ 1) (h8 : zA V' 8 (9 * sd + 8) = nI (r_cn (r_tK b L) 11 e)) (hsh : r_sh (r_tK b L) i c (e - 1)) (hru : r_ru b L sd i c (e - 1) cm' V')
    (h25 : zA V' 25 (81 * sd + r_cn (r_tK b L) 11 e) = nI (400 * sd + r_nr (r_tK b L) e)) (h26 : zA V' 26 (81 * sd + r_cn (r_tK b L) 11 e) = nI (1000 * sd + r_na (r_tK b L) e)) (hp : 0 < r_cn (r_tK b L) 11 i → zA V' 25 (81 * sd + r_cn (r_tK b L) 11 i) = zA V 25 (81 * sd + r_cn (r_tK b L) 11 i) ∧ zA V' 26 (81 * sd + r_cn (r_tK b L) 11 i) = zA V 26 (81 * sd + r_cn (r_tK b L) 11 i)) (hie : i < e) :
    r_tb b L sd e cm' V' ∧ ∀ a, i < a → a < e → 8 ≤ r_tK b L a ∧ ¬ r_tK b L a = 11 := by
  obtain ⟨⟨t1, t2⟩, t3, t4, t5, t6⟩ := h
  have kinds : ∀ a, i < a → a < e → 8 ≤ r_tK b L a ∧ ¬ r_tK b L a = 11 := by
    intro a h1 h2
    obtain ⟨s1, s2, s3, s4, s5, s6, s7, s8, s9, s10, s11, s12⟩ := hsh
    by_cases q1 : a = i + 1
    · subst q1; omega
    by_cases q0 : a = i + 2
    · subst q0
      rcases s3 with s3 | s3
      · omega
      · rw [← s3]; omega
    by_cases q2 : a < c
    · have := s10 a (by omega) q2; unfold r_ek at this; omega
    by_cases q3 : a = c
    · subst q3; omega
    by_cases q4 : a = e - 1
    · subst q4; omega
    · have := s11 a (by omega) (by omega); unfold r_ek at this; omega
  have cnk : ∀ k, k ≤ 7 → r_cn (r_tK b L) k e = r_cn (r_tK b L) k i := fun k hk => r_cn_eq (by omega) fun a h1 h2 => by
    by_cases q : a = i
    · subst q; omega
    · have := kinds a (by omega) h2; omega
  refine ⟨⟨⟨fun k hk => ?_, h8⟩, fun r h1 h2 j hj hkj => ?_, fun j hj hkj => ?_, fun j hj hkj => ?_, fun _ => ⟨h25, h26⟩⟩, kinds⟩
  · rw [f.2.2.2.2.2.1 _ (by omega), t1 k hk, cnk k hk]
  · have hr7 : r_kr r ≤ 7 := by
      unfold r_kr
      repeat' split
      all_goals omega
    have hji : j < i := by
      by_cases q : j < i
      · exact q
      · exfalso
        by_cases q2 : j = i
        · subst q2; omega
        · have := kinds j (by omega) hj; omega
    rw [f.2.2.1 r (by intro z; revert z; have : r < 27 := by omega
                      intro z
                      have := (show ∀ r ∈ r_ga, 27 ≤ r by decide) r z
                      omega) (by intro z
                                 have := (show ∀ r ∈ [8, 24, 25, 26], r = 8 ∨ 24 ≤ r by decide) r z
                                 omega)]
    exact t3 r h1 h2 j hji hkj
  · have hji : j < i := by
      by_cases q : j < i
      · exact q
      · exfalso
        by_cases q2 : j = i
        · subst q2; omega
        · have := kinds j (by omega) hj; omega
    rw [f.2.2.1 23 (by decide) (by decide)]
    exact t4 j hji hkj
  · by_cases q : j = i
    · subst q
      exact ⟨c, e - 1, hsh, by omega, hru⟩
    · have hji : j < i := by
        by_cases q2 : j < i
        · exact q2
        · exfalso
          have := kinds j (by omega) hj; omega
      obtain ⟨c', s', h1, h2, h3⟩ := t5 j hji hkj
      have hcn := r_cn_lt (K := r_tK b L) hji hkj
      refine ⟨c', s', h1, by omega, r_ru_cm (r_ru_same h3 (f.2.2.2.2.2.2.1 _ (by omega)) (fun r hr k hk => ?_) f.2.2.2.2.1 (r_nr_mono (by omega)) (r_na_mono (by omega)) (r_cn_mono (by omega)) (Nat.le_refl _) (by have := h1.2.2.2; omega) hsd hcm) hc⟩
      by_cases q3 : k < 81 * sd + r_cn (r_tK b L) 11 i
      · exact f.2.2.2.2.2.2.2 r hr k q3
      · have ek : k = 81 * sd + r_cn (r_tK b L) 11 i := by omega
        subst ek
        rcases hr with rfl | rfl
        · exact (hp (by omega)).1
        · exact (hp (by omega)).2
end
