/-! ===== the table's rows ===== -/
section
variable {b : Nat → Nat} {L E : Nat} {T : zV}
theorem r_cT_sz (hg : r_gf (r_tK b L) E) (h : r_cT b L E T) : y_sz T = min 1000 (E + 1) := by
  unfold y_sz
  rw [h.2.2.1.1.1, nI_clamp (by omega)]
theorem r_cT_TT (hg : r_gf (r_tK b L) E) (h : r_cT b L E T) : r_TT b L E T := by
  intro i hi
  have hs := r_cT_sz hg h
  have hE := hg.1.2.1
  obtain ⟨e1, e2⟩ := h.2.2.1.2.1 i (by omega)
  refine ⟨by omega, ?_, fun _ => ?_⟩
  · unfold y_K; rw [if_pos (by omega), e1]
  · unfold y_N; rw [if_pos (by omega), e2]
theorem r_cT_K {i : Nat} (hg : r_gf (r_tK b L) E) (h : r_cT b L E T) (hi : i ≤ E) : y_K T i = nI (r_tK b L i) := by
  by_cases q : i < E
  · exact (r_cT_TT hg h i q).2.1
  · have e : i = E := by omega
    subst e
    have hs := r_cT_sz hg h
    unfold y_K
    by_cases z : i < y_sz T
    · rw [if_pos z]; exact (h.2.2.1.2.1 i (by omega)).1
    · rw [if_neg z, hg.1.1]; rfl
/-- what stands only in rules -/
theorem r_rtok (hgr : r_gram (r_tK b L) = .ok E) {m : Nat} (hm : m < E) (hk : r_tK b L m = 14 ∨ r_tK b L m = 30 ∨ (16 ≤ r_tK b L m ∧ r_tK b L m ≤ 24)) : ∃ j c s, r_sh (r_tK b L) j c s ∧ s < E ∧ j < m ∧ m < s := by
  obtain ⟨-, -, p, h1, h2, h3, h4⟩ := r_gram_Q (K := r_tK b L) (E := E) (P := fun m => ¬ (r_tK b L m = 14 ∨ r_tK b L m = 30 ∨ (16 ≤ r_tK b L m ∧ r_tK b L m ≤ 24))) (Q := fun m => (r_tK b L m = 14 ∨ r_tK b L m = 30 ∨ (16 ≤ r_tK b L m ∧ r_tK b L m ≤ 24)) → ∃ j c s, r_sh (r_tK b L) j c s ∧ s < E ∧ j < m ∧ m < s)
    (fun i e hp m m1 m2 => by
      by_cases q : m = i
      · subst q; have := hp.1; omega
      · have := (r_psh_in hp).2 m (by omega) m2; omega)
    (fun i e _ hp m m1 m2 z => by
      by_cases q : m = i
      · subst q; have := hp.1; omega
      · have := (r_hs7_in hp).2 m (by omega) m2; omega)
    (fun i e he hk hr m m1 m2 z => by
      obtain ⟨c, sh, h0⟩ := r_rule_sh hk hr
      refine ⟨i, c, e - 1, sh, by omega, ?_, ?_⟩
      · by_cases q : m = i
        · subst q; omega
        · omega
      · by_cases q : m = e - 1
        · have := sh.2.2.2.2.2.2.2.1; subst q; omega
        · omega)
    (fun i hi z => by omega) hgr
  by_cases q : m < p
  · exact absurd hk (h2 m q)
  · exact h4 m (by omega) hm hk
theorem r_sh_in {K : Nat → Nat} {j c s m : Nat} (h : r_sh K j c s) (h1 : j < m) (h2 : m < s) : (m = j + 1 ∧ (K m = 12 ∨ K m = 13 ∨ K m = 27)) ∨ (m = j + 2 ∧ m < c ∧ K m = 14) ∨ (j + 3 ≤ m ∧ m < c ∧ (r_ek (K m) ∨ (37 ≤ K m ∧ K m ≤ 40) ∨ K m = 15)) ∨ (m = c ∧ K m = 30) ∨ (c < m ∧ (r_ek (K m) ∨ K m = 31 ∨ (16 ≤ K m ∧ K m ≤ 24))) := by
  obtain ⟨a1, a2, a3, a4, a5, a6, a7, a8, a9, a10, a11, a12⟩ := h
  by_cases q1 : m = j + 1
  · subst q1; exact Or.inl ⟨rfl, a2⟩
  by_cases q2 : m = c
  · subst q2; exact Or.inr (Or.inr (Or.inr (Or.inl ⟨rfl, a7⟩)))
  by_cases q3 : c < m
  · exact Or.inr (Or.inr (Or.inr (Or.inr ⟨q3, a11 m q3 h2⟩)))
  by_cases q4 : m = j + 2
  · subst q4
    refine Or.inr (Or.inl ⟨rfl, by omega, ?_⟩)
    rcases a3 with z | z
    · exact z
    · omega
  · exact Or.inr (Or.inr (Or.inl ⟨by omega, by omega, a10 m (by omega) (by omega)⟩))
theorem r_sh_cn {K : Nat → Nat} {j c s m : Nat} (h : r_sh K j c s) (h1 : j < m) (h2 : m ≤ s) : r_cn K 11 m = r_cn K 11 j + 1 := by
  rw [r_cn_eq (i := j + 1) (by omega) fun a b1 b2 z => ?_, r_cn_succ h.1]
  have := r_sh_in h (m := a) (by omega) (by omega)
  unfold r_ek at this
  omega
/-- a token of a rule, by the rules ahead of it -/
theorem r_own (hgr : r_gram (r_tK b L) = .ok E) {j c s m : Nat} (sh : r_sh (r_tK b L) j c s) (hm : m < E) (hk : r_tK b L m = 14 ∨ r_tK b L m = 30 ∨ (16 ≤ r_tK b L m ∧ r_tK b L m ≤ 24)) (hc : r_cn (r_tK b L) 11 m = r_cn (r_tK b L) 11 j + 1) : j < m ∧ m < s := by
  obtain ⟨j', c', s', sh', h1, h2, h3⟩ := r_rtok hgr hm hk
  have e := r_sh_cn sh' h2 (by omega)
  have : j = j' := by
    rcases Nat.lt_trichotomy j j' with y | y | y
    · have := r_cn_lt y sh.1; omega
    · exact y
    · have := r_cn_lt y sh'.1; omega
  subst this
  obtain ⟨rfl, rfl⟩ := r_sh_one sh sh'
  exact ⟨h2, h3⟩
/-- rows of the rule from token j -/
theorem r_cT_rule (hgr : r_gram (r_tK b L) = .ok E) (h : r_cT b L E T) {j c s : Nat} (sh : r_sh (r_tK b L) j c s) (hs : s < E) :
    zA T 17 (r_cn (r_tK b L) 11 j) = r_e5 b L E j ∧ zA T 18 (r_cn (r_tK b L) 11 j) = (if r_tK b L (j + 2) = 14 then nI (j + 3) else -1) ∧ zA T 19 (r_cn (r_tK b L) 11 j) = nI (c + 1) ∧
    (zA T 20 (r_cn (r_tK b L) 11 j) = 0 ↔ ∀ m, c < m → m < s → ¬ (r_tK b L m = 16 ∨ r_tK b L m = 18 ∨ r_tK b L m = 23)) ∧ (zA T 21 (r_cn (r_tK b L) 11 j) = 0 ↔ ∀ m, c < m → m < s → ¬ r_tK b L m = 21) := by
  have hg := r_gram_gf hgr
  have hE := hg.1.2.1
  obtain ⟨a1, a2, a3, a4, a5, a6, a7, a8, a9, a10, a11, a12⟩ := id sh
  obtain ⟨-, -, -, t17, tu⟩ := h.2.2.1
  have hr : r_cn (r_tK b L) 11 j < r_cn (r_tK b L) 11 (min 1000 (E + 1)) := r_cn_lt (by omega) a1
  obtain ⟨u1, u2, u3, u4⟩ := tu _ hr
  have low : ∀ m, m < min 1000 (E + 1) → ¬ r_tK b L m = 41 → m < E := fun m hm hk => by
    by_cases z : m < E
    · exact z
    · have : m = E := by omega
      subst this; exact absurd hg.1.1 hk
  refine ⟨t17 j (by omega) a1, ?_, ?_, ?_, ?_⟩
  · rcases u1 with ⟨z1, z2⟩ | ⟨m, m1, m2, m3, m4⟩
    · rw [if_neg fun y => z2 (j + 2) (by omega) (r_sh_cn sh (by omega) (by omega)) y]; exact z1
    · obtain ⟨o1, o2⟩ := r_own hgr sh (low m m1 (by omega)) (Or.inl m3) m2
      have := r_sh_in sh o1 o2
      unfold r_ek at this
      have em : m = j + 2 := by omega
      subst em
      rw [if_pos m3, m4]
  · rcases u2 with ⟨z1, z2⟩ | ⟨m, m1, m2, m3, m4⟩
    · exact absurd a7 (z2 c (by omega) (r_sh_cn sh (by omega) (by omega)))
    · obtain ⟨o1, o2⟩ := r_own hgr sh (low m m1 (by omega)) (Or.inr (Or.inl m3)) m2
      have := r_sh_in sh o1 o2
      unfold r_ek at this
      have em : m = c := by omega
      subst em
      exact m4
  · rw [u3]
    constructor
    · intro z m m1 m2
      exact z m (by omega) (r_sh_cn sh (by omega) (by omega))
    · intro z m m1 m2 m3
      obtain ⟨o1, o2⟩ := r_own hgr sh (low m m1 (by omega)) (Or.inr (Or.inr (by omega))) m2
      have := r_sh_in sh o1 o2
      unfold r_ek at this
      exact z m (by omega) o2 m3
  · rw [u4]
    constructor
    · intro z m m1 m2
      exact z m (by omega) (r_sh_cn sh (by omega) (by omega))
    · intro z m m1 m2 m3
      obtain ⟨o1, o2⟩ := r_own hgr sh (low m m1 (by omega)) (Or.inr (Or.inr (by omega))) m2
      have := r_sh_in sh o1 o2
      unfold r_ek at this
      exact z m (by omega) o2 m3
/-- acts as a list -/
theorem r_acts_list (hg : r_gf (r_tK b L) E) (h : r_cT b L E T) {s : Nat} (hs : s < E) (h29 : r_tK b L s = 29) : ∀ (n i : Nat), i ≤ s → s < n + i → (∀ m, i ≤ m → m < s → ¬ r_tK b L m = 29) →
    (y_acts T n i).length = r_na (r_tK b L) s - r_na (r_tK b L) i ∧ (∀ k x, (y_acts T n i)[k]? = some x → ∃ m, i ≤ m ∧ m < s ∧ (16 ≤ r_tK b L m ∧ r_tK b L m ≤ 24) ∧ r_na (r_tK b L) m = r_na (r_tK b L) i + k ∧ x = y_actAt T m) ∧
    ∀ m, i ≤ m → m < s → (16 ≤ r_tK b L m ∧ r_tK b L m ≤ 24) → y_actAt T m ∈ y_acts T n i := by
  have hsz := r_cT_sz hg h
  have hE := hg.1.2.1
  intro n
  induction n with
  | zero => intro i hi hn; omega
  | succ n ih =>
    intro i hi hn hno
    have kle := r_tK_le (b := b) (L := L) i
    rw [y_acts, if_neg (by omega), r_cT_K hg h (by omega)]
    by_cases q29 : r_tK b L i = 29
    · have e : i = s := by
        by_cases z : i = s
        · exact z
        · exact absurd q29 (hno i (Nat.le_refl _) (by omega))
      subst e
      rw [if_pos (show nI (r_tK b L i) = (29 : Int32) by rw [q29]; rfl)]
      exact ⟨by rw [Nat.sub_self]; rfl, fun k x z => (by cases z), fun m m1 m2 => by omega⟩
    have his : i < s := by
      by_cases z : i < s
      · exact z
      · have : i = s := by omega
        subst this; exact absurd h29 q29
    rw [if_neg (show ¬ nI (r_tK b L i) = (29 : Int32) from fun z => q29 ((nI_eq (b := 29) (by omega) (by decide)).mp z))]
    obtain ⟨i1, i2, i3⟩ := ih (i + 1) (by omega) (by omega) fun m m1 m2 => hno m (by omega) m2
    have mono := r_na_mono (K := r_tK b L) (i := i + 1) (j := s) (by omega)
    by_cases qa : 16 ≤ r_tK b L i ∧ r_tK b L i ≤ 24
    · have e := (show r_na (r_tK b L) (i + 1) = r_na (r_tK b L) i + 1 by rw [r_na, if_pos qa])
      rw [if_neg (show ¬ nI (r_tK b L i) < (16 : Int32) from nI_nlt (b := 16) qa.1 (by omega)), if_pos (show nI (r_tK b L i) ≤ (24 : Int32) from nI_le (b := 24) qa.2 (by decide))]
      refine ⟨by rw [List.length_cons, i1]; omega, fun k x z => ?_, fun m m1 m2 m3 => ?_⟩
      · cases k with
        | zero =>
          cases z
          exact ⟨i, Nat.le_refl _, his, qa, rfl, rfl⟩
        | succ k =>
          obtain ⟨m, m1, m2, m3, m4, m5⟩ := i2 k x z
          exact ⟨m, by omega, m2, m3, by omega, m5⟩
      · by_cases y : m = i
        · subst y; exact List.mem_cons_self ..
        · exact List.mem_cons_of_mem _ (i3 m (by omega) m2 m3)
    · have e := (show r_na (r_tK b L) (i + 1) = r_na (r_tK b L) i by rw [r_na, if_neg qa, Nat.add_zero])
      have same : (if nI (r_tK b L i) < (16 : Int32) then y_acts T n (i + 1) else if nI (r_tK b L i) ≤ (24 : Int32) then y_actAt T i :: y_acts T n (i + 1) else y_acts T n (i + 1)) = y_acts T n (i + 1) := by
        by_cases z : r_tK b L i < 16
        · rw [if_pos (show nI (r_tK b L i) < (16 : Int32) from nI_lt (b := 16) z (by decide))]
        · rw [if_neg (show ¬ nI (r_tK b L i) < (16 : Int32) from nI_nlt (b := 16) (by omega) (by omega)), if_neg (show ¬ nI (r_tK b L i) ≤ (24 : Int32) from nI_ge (a := 24) (by omega) (by omega))]
      rw [same]
      refine ⟨by rw [i1, e], fun k x z => ?_, fun m m1 m2 m3 => ?_⟩
      · obtain ⟨m, m1, m2, m3, m4, m5⟩ := i2 k x z
        exact ⟨m, by omega, m2, m3, by omega, m5⟩
      · by_cases y : m = i
        · subst y; exact absurd m3 qa
        · exact i3 m (by omega) m2 m3
end
