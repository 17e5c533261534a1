/-! ===== balls at a place, both sides ===== -/
section
variable {F : Nat} {T : zV} {lv n b : Nat} {S : y_S} {V0 V5 V7 : zV}
theorem m_balll {C : List Nat} (h59 : zI V7 0 59 = nI C.length) (hl : C.length ≤ 120) (hC : ∀ i c, C[i]? = some c → zA V7 40 i = nI (y_enc c)) (h9 : ∀ c ∈ C, c < 729 ∧ y_sd c = true) {a : Nat} (ha : a < 8) {x2 : Int32} : ∀ (l : List Nat) (i N x : Nat), C.drop i = l → i ≤ C.length → l.length + 1 ≤ N → x ≤ 3 →
    fX12_balls_l27 F N V7 (nI a) x2 (nI x) (nI i) = some (nI (if x2 = 0 then l.foldl (fun x c => min x (y_at c a)) x else l.foldl (fun x c => max x (y_at c a)) x)) := by
  intro l
  induction l with
  | nil =>
    intro i N x e hi hN hx
    obtain ⟨N, rfl⟩ : ∃ N', N = N' + 1 := ⟨N - 1, by omega⟩
    have hie := List.drop_eq_nil_iff.mp e
    rw [fX12_balls_l27, h59, if_pos (nI_le (by omega) (by omega))]
    split <;> rfl
  | cons c l ih =>
    intro i N x e hi hN hx
    have hN : l.length + 1 + 1 ≤ N := hN
    obtain ⟨N, rfl⟩ : ∃ N', N = N' + 1 := ⟨N - 1, by omega⟩
    have hlt : i < C.length := by
      by_cases q : i < C.length
      · exact q
      · rw [List.drop_eq_nil_iff.mpr (by omega)] at e; cases e
    have ei : C[i]? = some c := by
      have : (C.drop i)[0]? = some c := by rw [e]; rfl
      rw [List.getElem?_drop] at this; exact this
    have ed : C.drop (i + 1) = l := by
      have : (C.drop i).tail = l := by rw [e]; rfl
      rw [List.tail_drop] at this; exact this
    obtain ⟨hc, hsd⟩ := h9 c (List.mem_of_getElem? ei)
    have hat := y_at_m0 ⟨c, hc⟩ hsd ⟨a, ha⟩
    dsimp only at hat
    have hal : y_at c a ≤ 3 := y_at_le
    have hx1 : ¬ nI x = -1 := fun z => by
      have := nI_pos (n := x) (by omega)
      rw [z] at this
      exact this (by decide)
    rw [fX12_balls_l27, h59, if_neg (nI_ge hlt (by omega)), y_ck (by omega) (by decide), nI_clamp (by omega), hC i c ei, hat, y_let, if_neg hx1, fX12_balls_b75, fX12_balls_b78, fX12_balls_b78, nI_1, List.foldl_cons, List.foldl_cons, ih (i + 1) N x ed (by omega) (by omega) hx, ih (i + 1) N (y_at c a) ed (by omega) (by omega) hal]
    by_cases q2 : x2 = 0
    · rw [if_pos q2, if_pos q2, if_pos q2, if_pos q2]
      by_cases q : x ≤ y_at c a
      · rw [if_pos (nI_le q (by omega)), Nat.min_eq_left q]
      · rw [if_neg (nI_ge (by omega) (by omega)), Nat.min_eq_right (by omega)]
    · rw [if_neg q2, if_neg q2, if_neg q2, if_neg q2]
      by_cases q : y_at c a ≤ x
      · rw [if_pos (nI_le q (by omega)), Nat.max_eq_left q]
      · rw [if_neg (nI_ge (by omega) (by omega)), Nat.max_eq_right (by omega)]
theorem b_balls (hF : 3000 ≤ F) (hTT : y_T T) (hT : y_mt T lv V7) (x1 x2 : Int32) (hne : 0 < y_many T 4 → S.2.1 ≠ []) (h : y_op true lv n b T S V0 V5 V7) : ∃ a, fX11_balls F V0 T V5 x1 x2 = some a ∧ fX12_balls F V7 x1 x2 = some a := by
  have h4' := hTT.2.2.1
  have hc : fX9_has F T 4 x1 = some (if x1 < 0 then 0 else if zA T 1 4 ≤ x1 then 0 else 1) := c_hasx (k := 4) (by decide)
  have hs : fX12_sort F V7 4 = some (zA T 1 4) := m_sort (k := 4) hT (by decide)
  unfold fX11_balls fX12_balls
  rcases h with ⟨h1, h2⟩ | ⟨h1, h2, h3, h4, h5, -, -⟩
  · rw [if_pos h1, if_pos h2]; exact ⟨_, rfl, rfl⟩
  have hP := h4'.2.1
  rw [if_neg h1, if_neg h2, hc, y_bd, hs, y_bd, h4'.1]
  rcases y_cut (y_many T 4) (by omega) x1 with q | ⟨q, q2⟩ | ⟨a, ha', rfl⟩
  · rw [if_pos q, if_pos rfl, if_pos q]; exact ⟨_, rfl, rfl⟩
  · rw [if_neg q, if_pos q2, if_pos rfl, if_neg q, if_neg (Int32.not_lt.mpr q2)]; exact ⟨_, rfl, rfl⟩
  have ha : a < 8 := by omega
  rw [if_neg (nI_pos (by omega)), if_neg (nI_ge ha' (by omega)), if_neg (show ¬ (1 : Int32) = 0 by decide), if_neg (nI_pos (by omega)), if_pos (nI_lt ha' (by omega))]
  have hne := hne (by omega)
  obtain ⟨g1, g2, g3, g4, p, hp, g5, g6⟩ := h3
  obtain ⟨k, hk, hl⟩ := y_lay_lz hTT.2.2.1 hp g6
  obtain ⟨-, hn, hgd, -⟩ := g6
  obtain ⟨hpp, hlen, hnn, -, i5, hL, -⟩ := hl
  obtain ⟨-, -, -, -, -, -, -, -, p7, hp7, g8, g9⟩ := h4.2.1
  obtain ⟨⟨C, c1, c2, c3, c4⟩, -⟩ := g9
  have hCgd : ∀ c ∈ C, y_gd (y_many T 4) p c := fun c hc => hgd c ((c2 c).mp hc)
  have hCl := y_gd_len hP hp c1 hCgd
  have hzp : zP V5 14 1 = 15 ∨ zP V5 14 1 = 16 := by
    rcases hpp with z | z
    · exact Or.inl z.1
    · exact Or.inr z.1
  have hzn : zN V5 (zP V5 14 1) = 120 := by
    rcases hzp with z | z <;> rw [z]
    · exact hnn.1
    · exact hnn.2.1
  obtain ⟨d, C', hCe⟩ : ∃ d C', C = d :: C' := by
    cases C with
    | nil =>
      exfalso
      cases hS : S.2.1 with
      | nil => exact hne hS
      | cons x l =>
        have := (c2 x).mpr (by rw [hS]; exact List.mem_cons_self ..)
        cases this
    | cons d C' => exact ⟨d, C', rfl⟩
  have hC9 : ∀ c ∈ C, c < 729 ∧ y_sd c = true := fun c hc => ⟨(hCgd c hc).1, y_sd_of (hCgd c hc)⟩
  have hd := hC9 d (by rw [hCe]; exact List.mem_cons_self ..)
  have hat := y_at_m0 ⟨d, hd.1⟩ hd.2 ⟨a, ha⟩
  dsimp only at hat
  have hal : y_at d a ≤ 3 := y_at_le
  have hml := m_balll (F := F) (V7 := V7) c3 hCl c4 hC9 ha (x2 := x2) C' 1
  obtain ⟨F', hF'⟩ : ∃ F', F = F' + 1 := ⟨F - 1, by omega⟩
  have hlC : C'.length + 1 ≤ 120 := by rw [hCe] at hCl; exact hCl
  have hm0 : fX12_balls_l27 F (F' + 1) V7 (nI a) x2 (-1) (nI 0) = fX12_balls_l27 F F' V7 (nI a) x2 (nI (y_at d a)) (nI (0 + 1)) := by
    rw [fX12_balls_l27, c3, if_neg (nI_ge (by rw [hCe]; exact Nat.succ_pos _) (by omega)), y_ck (by omega) (by decide), nI_clamp (by omega), c4 0 d (by rw [hCe]; rfl), hat, y_let, if_pos rfl, fX12_balls_b75, fX12_balls_b78, nI_1]
  have hm1 : fX12_balls_l27 F (F' + 1) V7 (nI a) x2 (-1) 0 = _ := hm0
  rw [← hF'] at hm1
  rw [hm1, hml F' (y_at d a) (by rw [hCe]; rfl) (by rw [hCe]; exact Nat.succ_pos _) (by omega) hal]
  have cl := c_mostl (F := F) (V5 := V5) i5 hlen hzp hzn hL (fun c hc => (hgd c hc).1) ha
  have m0 := (cl S.2.1 0 F 0 rfl (Nat.zero_le _) (by omega) (by omega)).1
  have l0 := (cl S.2.1 0 F 3 rfl (Nat.zero_le _) (by omega) (by omega)).2
  have m0' : fX3_mostAt F V5 (nI a) = _ := m0
  have l0' : fX3_leastAt F V5 (nI a) = _ := l0
  by_cases q2 : x2 = 0
  · rw [if_pos q2, if_pos q2, l0', y_bd]
    refine ⟨_, rfl, ?_⟩
    rw [y_fmin_eq (f := fun c => y_at c a) (fun c => (c2 c).symm), hCe, List.foldl_cons, Nat.min_eq_right hal]
  · rw [if_neg q2, if_neg q2, m0', y_bd]
    refine ⟨_, rfl, ?_⟩
    rw [y_fmax_eq (f := fun c => y_at c a) (fun c => (c2 c).symm), hCe, List.foldl_cons, Nat.max_eq_right (Nat.zero_le _)]
end
