/-! ===== layouts in the class ===== -/
def y_gd (P p c : Nat) : Prop := c < 729 ∧ c / 81 ≤ P ∧ c / 9 % 9 ≤ c / 81 ∧ c % 9 ≤ c / 9 % 9 ∧ y_cnt c = p
theorem y_all_iff {P p c : Nat} : c ∈ y_all P p ↔ y_gd P p c := by
  unfold y_all y_gd
  rw [List.mem_filter, List.mem_range]
  simp only [decide_eq_true_eq]
theorem y_sub_len : ∀ (L M : List Nat), L.Nodup → (∀ x ∈ L, x ∈ M) → L.length ≤ M.length := by
  intro L
  induction L with
  | nil => intro M _ _; exact Nat.zero_le _
  | cons x l ih =>
    intro M hn hs
    have hx := hs x List.mem_cons_self
    have hn' := List.nodup_cons.mp hn
    have h1 := ih (M.erase x) hn'.2 fun y hy => (List.mem_erase_of_ne (show y ≠ x from fun e => hn'.1 (e ▸ hy))).mpr (hs y (List.mem_cons_of_mem _ hy))
    rw [List.length_erase_of_mem hx] at h1
    have : 0 < M.length := List.length_pos_of_mem hx
    show l.length + 1 ≤ _
    omega
theorem y_all_len : ∀ p, p ≤ 3 → (y_all 8 p).length ≤ 120 := by
  intro p hp
  have h : ∀ q : Fin 4, (y_all 8 q.1).length ≤ 120 := by decide +kernel
  exact h ⟨p, by omega⟩
theorem y_gd_len {P p : Nat} (hP : P ≤ 8) (hp : p ≤ 3) {L : List Nat} (hn : L.Nodup) (hg : ∀ c ∈ L, y_gd P p c) : L.length ≤ 120 := by
  refine Nat.le_trans (y_sub_len L (y_all 8 p) hn fun c hc => y_all_iff.mpr ?_) (y_all_len p hp)
  obtain ⟨h1, h2, h3⟩ := hg c hc
  exact ⟨h1, by omega, h3⟩
theorem y_dig {x y z : Nat} (hy : y ≤ 8) (hz : z ≤ 8) : ((x * 9 + y) * 9 + z) / 81 = x ∧ ((x * 9 + y) * 9 + z) / 9 % 9 = y ∧ ((x * 9 + y) * 9 + z) % 9 = z := by
  refine ⟨by omega, by omega, by omega⟩
theorem y_srt {P x y z : Nat} (hP : P ≤ 8) (hx : x ≤ P) (hy : y ≤ P) (hz : z ≤ P) : y_gd P (min x 1 + min y 1 + min z 1) ((max x (max y z) * 9 + (x + y + z - max x (max y z) - min x (min y z))) * 9 + min x (min y z)) := by
  have h := y_dig (x := max x (max y z)) (y := x + y + z - max x (max y z) - min x (min y z)) (z := min x (min y z)) (by omega) (by omega)
  unfold y_gd y_cnt
  rw [h.1, h.2.1, h.2.2]
  refine ⟨by omega, by omega, by omega, by omega, by omega⟩
theorem y_mv_gd {P p c a b d : Nat} (hP : P ≤ 8) (hc : y_gd P p c) (hb : b ≤ P) (h : y_mv c a b = some d) : y_gd P (p + min b 1 - min a 1) d ∧ min a 1 ≤ p := by
  obtain ⟨h1, h2, h3, h4, h5⟩ := hc
  unfold y_cnt at h5
  unfold y_mv at h
  dsimp only at h
  split at h
  · rename_i q
    cases h
    have g := y_srt (x := b) (y := c / 9 % 9) (z := c % 9) hP hb (by omega) (by omega)
    have e : min b 1 + min (c / 9 % 9) 1 + min (c % 9) 1 = p + min b 1 - min a 1 := by omega
    rw [e] at g
    exact ⟨g, by omega⟩
  split at h
  · rename_i q
    cases h
    have g := y_srt (x := c / 81) (y := b) (z := c % 9) hP (by omega) hb (by omega)
    have e : min (c / 81) 1 + min b 1 + min (c % 9) 1 = p + min b 1 - min a 1 := by omega
    rw [e] at g
    exact ⟨g, by omega⟩
  split at h
  · rename_i q
    cases h
    have g := y_srt (x := c / 81) (y := c / 9 % 9) (z := b) hP (by omega) (by omega) hb
    have e : min (c / 81) 1 + min (c / 9 % 9) 1 + min b 1 = p + min b 1 - min a 1 := by omega
    rw [e] at g
    exact ⟨g, by omega⟩
  · cases h
section
variable {F : Nat} {T : zV}
theorem c_srt {x y z : Nat} (hx : x ≤ 8) (hy : y ≤ 8) (hz : z ≤ 8) : fX3_moved_b56 F (nI x) (nI y) (nI z) = some (nI ((max x (max y z) * 9 + (x + y + z - max x (max y z) - min x (min y z))) * 9 + min x (min y z))) := by
  have m1 : ∀ a b : Nat, a ≤ 8 → b ≤ 8 → (if nI a < nI b then nI b else nI a) = nI (max a b) := by
    intro a b ha hb
    by_cases q : a < b
    · rw [if_pos (nI_lt q (by omega)), Nat.max_eq_right (by omega)]
    · rw [if_neg (nI_nlt (by omega) (by omega)), Nat.max_eq_left (by omega)]
  have m2 : ∀ a b : Nat, a ≤ 8 → b ≤ 8 → (if nI b < nI a then nI b else nI a) = nI (min a b) := by
    intro a b ha hb
    by_cases q : b < a
    · rw [if_pos (nI_lt q (by omega)), Nat.min_eq_right (by omega)]
    · rw [if_neg (nI_nlt (by omega) (by omega)), Nat.min_eq_left (by omega)]
  have l9 : (9 : Int32) = nI 9 := rfl
  unfold fX3_moved_b56
  rw [y_let, y_let, m1 y z hy hz, m1 x _ hx (by omega), m2 y z hy hz, m2 x _ hx (by omega), l9, pk_mul, nI_add, nI_add, pk_sub (by omega), pk_sub (by omega), nI_add, pk_mul, nI_add]
def y_o (c : Option Nat) : Int32 := match c with
  | none => -1
  | some d => nI d
theorem c_mv {c a b : Nat} (hc : c < 729) (ha : a ≤ 8) (hb : b ≤ 8) : fX3_moved F (nI c) (nI a) (nI b) = some (y_o (y_mv c a b)) := by
  have l9 : (9 : Int32) = nI 9 := rfl
  have l81 : (81 : Int32) = nI 81 := rfl
  unfold fX3_moved
  rw [y_let, y_let, y_let, l9, l81, pk_div (by omega) (by decide) (by decide), pk_rem (by omega) (by decide) (by decide), pk_div (by omega) (by decide) (by decide), pk_rem (by omega) (by decide) (by decide)]
  unfold y_mv
  dsimp only
  by_cases q1 : c / 81 = a
  · rw [if_pos (by rw [q1]), if_pos q1, c_srt hb (by omega) (by omega)]; rfl
  rw [if_neg (by rw [nI_eq (by omega) (by omega)]; exact q1), if_neg q1]
  by_cases q2 : c / 9 % 9 = a
  · rw [if_pos (by rw [q2]), if_pos q2, c_srt (by omega) hb (by omega)]; rfl
  rw [if_neg (by rw [nI_eq (by omega) (by omega)]; exact q2), if_neg q2]
  by_cases q3 : c % 9 = a
  · rw [if_pos (by rw [q3]), if_pos q3, c_srt (by omega) (by omega) hb]; rfl
  rw [if_neg (by rw [nI_eq (by omega) (by omega)]; exact q3), if_neg q3]; rfl
/-! the class's layouts: known A, before B, mark j -/
def y_PP (V : zV) : Prop := zP V 14 1 = 15 ∧ zP V 14 2 = 16 ∨ zP V 14 1 = 16 ∧ zP V 14 2 = 15
def y_la : List Nat := [15, 16, 17]
def y_ly (j : Nat) (A : List Nat) (V : zV) : Prop :=
  y_PP V ∧ (zN V 15 = 120 ∧ zN V 16 = 120 ∧ zN V 17 = 729) ∧ zI V 14 4 = nI j ∧ zI V 14 5 = nI A.length ∧ (∀ i c, A[i]? = some c → zA V (zP V 14 1) i = nI c) ∧
  ∀ c, c < 729 → ∃ i, i ≤ j ∧ zA V 17 c = nI i ∧ (i = j ↔ c ∈ A)
def y_bf (B : List Nat) (V : zV) : Prop := B.length ≤ 120 ∧ zI V 14 6 = nI B.length ∧ ∀ i c, B[i]? = some c → zA V (zP V 14 2) i = nI c
def y_lp (P p j : Nat) (A B : List Nat) (V : zV) : Prop := y_ly j A V ∧ y_bf B V ∧ A.Nodup ∧ (∀ c ∈ A, y_gd P p c)
theorem y_pN {j : Nat} {A : List Nat} {V : zV} (h : y_ly j A V) : zN V (zP V 14 1) = 120 ∧ zN V (zP V 14 2) = 120 ∧ ¬ zP V 14 1 = 17 ∧ ¬ zP V 14 2 = 17 ∧ ¬ zP V 14 1 = zP V 14 2 ∧ (zP V 14 1 = 15 ∨ zP V 14 1 = 16) ∧ (zP V 14 2 = 15 ∨ zP V 14 2 = 16) := by
  obtain ⟨hp, ⟨n1, n2, n3⟩, -⟩ := h
  rcases hp with ⟨p1, p2⟩ | ⟨p1, p2⟩ <;> rw [p1, p2]
  · exact ⟨n1, n2, by decide, by decide, by decide, by decide, by decide⟩
  · exact ⟨n2, n1, by decide, by decide, by decide, by decide, by decide⟩
theorem y_put_nd {A : List Nat} {c : Option Nat} (h : A.Nodup) : (y_put A c).Nodup := by
  cases c with
  | none => exact h
  | some c =>
    unfold y_put
    dsimp only
    split
    · exact h
    · rename_i q
      rw [List.nodup_append]
      refine ⟨h, List.nodup_cons.mpr ⟨List.not_mem_nil, List.nodup_nil⟩, ?_⟩
      intro a ha b hb
      rw [List.mem_singleton] at hb
      subst hb
      rintro rfl
      exact q ha
theorem y_put_mem {A : List Nat} {c : Option Nat} {x : Nat} : x ∈ y_put A c ↔ x ∈ A ∨ c = some x := by
  cases c with
  | none => simp [y_put]
  | some c =>
    unfold y_put
    dsimp only
    split
    · rename_i q
      constructor
      · exact Or.inl
      · rintro (h | h)
        · exact h
        · cases h; exact q
    · rw [List.mem_append, List.mem_singleton]
      constructor
      · rintro (h | h)
        · exact Or.inl h
        · exact Or.inr (by rw [h])
      · rintro (h | h)
        · exact Or.inl h
        · cases h; exact Or.inr rfl
theorem y_put_old {A : List Nat} {c : Nat} (h : c ∈ A) : y_put A (some c) = A := if_pos h
theorem y_put_new {A : List Nat} {c : Nat} (h : ¬ c ∈ A) : y_put A (some c) = A ++ [c] := if_neg h
theorem c_put {P p j : Nat} (hP : P ≤ 8) (hp : p ≤ 3) (hj : j < 2 ^ 31) {A B : List Nat} {V : zV} (h : y_lp P p j A B V) {c : Option Nat} (hg : ∀ d, c = some d → y_gd P p d) :
    ∃ V', fX3_put F V (y_o c) = some V' ∧ y_lp P p j (y_put A c) B V' ∧ y_fr [(14, 5)] y_la V V' := by
  cases c with
  | none => exact ⟨V, rfl, h, y_fr_refl⟩
  | some d =>
    have hgd := hg d rfl
    obtain ⟨hy, hbf, hn, hA⟩ := h
    have hpn := y_pN hy
    obtain ⟨hpp, hnn, h4, h5, hk, hm⟩ := hy
    obtain ⟨i, hi, hmi, hmem⟩ := hm d hgd.1
    have hl : d ∉ A → A.length < 120 := by
      intro q
      have := y_gd_len hP hp (y_put_nd (A := A) (c := some d) hn) (fun x hx => by
        rcases y_put_mem.mp hx with h | h
        · exact hA x h
        · cases h; exact hgd)
      rw [y_put_new q, List.length_append] at this
      exact this
    unfold fX3_put
    rw [show y_o (some d) = nI d from rfl, if_neg (nI_pos (by have := hgd.1; omega)), hnn.2.2, if_neg (nI_ge hgd.1 (by decide)), y_ck hgd.1 (by decide)]
    simp only [nI_clamp (show d < 2 ^ 31 by have := hgd.1; omega), hmi, h4]
    by_cases hmA : d ∈ A
    · rw [if_pos (by rw [hmem.mpr hmA])]
      refine ⟨V, rfl, ?_, y_fr_refl⟩
      rw [y_put_old hmA]
      exact ⟨⟨hpp, hnn, h4, h5, hk, hm⟩, hbf, hn, hA⟩
    · have hlt := hl hmA
      rw [if_neg (by rw [nI_eq (by omega) hj]; exact fun q => hmA (hmem.mp q)), zchk_t hpn.2.2.2.2.2.1, hpn.1, h5, if_neg (nI_ge hlt (by decide)), y_ck hgd.1 (by decide), y_let]
      simp only [y_get, hpn.2.2.1, reduceIte, h5]
      rw [zchk_t hpn.2.2.2.2.2.1, hpn.1, y_ck hlt (by decide), y_let, y_let, nI_clamp (by omega)]
      simp only [y_get, h5]
      refine ⟨_, rfl, ⟨⟨?_, ?_, ?_, ?_, ?_, ?_⟩, ⟨hbf.1, hbf.2.1, ?_⟩, y_put_nd hn, ?_⟩, ?_⟩
      · exact hpp
      · exact hnn
      · exact h4
      · rw [y_put_new hmA, List.length_append]
        exact nI_1 _
      · intro i' c' hc'
        show (if zP V 14 1 = zP V 14 1 then upd (zA V (zP V 14 1)) A.length (nI d) else _) i' = nI c'
        rw [if_pos rfl, y_upd]
        rw [y_put_new hmA] at hc'
        by_cases q : i' = A.length
        · rw [if_pos q]
          subst q
          rw [List.getElem?_append_right (Nat.le_refl _), Nat.sub_self] at hc'
          cases hc'; rfl
        · rw [if_neg q]
          have : i' < (A ++ [d]).length := (List.getElem?_eq_some_iff.mp hc').1
          rw [List.length_append] at this
          have : i' < A.length := by
            have : i' < A.length + 1 := this
            omega
          rw [List.getElem?_append_left this] at hc'
          exact hk i' c' hc'
      · intro c' hc'
        have e0 : ∀ (W : zV) (x : Nat → Int32) (y : Int32) (r : Nat), zA (zsI (zsA W (zP V 14 1) x) 14 5 y) r = if r = zP V 14 1 then x else zA W r := fun _ _ _ _ => rfl
        have e1 : zA (zsA V 17 (upd (zA V 17) d (nI j))) 17 = upd (zA V 17) d (nI j) := rfl
        rw [e0, if_neg (fun q => hpn.2.2.1 q.symm), e1, y_upd]
        by_cases q : c' = d
        · rw [if_pos q]
          exact ⟨j, Nat.le_refl _, rfl, ⟨fun _ => y_put_mem.mpr (Or.inr (by rw [q])), fun _ => rfl⟩⟩
        · rw [if_neg q]
          obtain ⟨i1, a1, a2, a3⟩ := hm c' hc'
          refine ⟨i1, a1, a2, a3.trans ⟨fun z => y_put_mem.mpr (Or.inl z), fun z => ?_⟩⟩
          rcases y_put_mem.mp z with z | z
          · exact z
          · cases z; exact absurd rfl q
      · intro i' c' hc'
        have e0 : ∀ (W : zV) (x : Nat → Int32) (y : Int32) (r : Nat), zA (zsI (zsA W (zP V 14 1) x) 14 5 y) r = if r = zP V 14 1 then x else zA W r := fun _ _ _ _ => rfl
        have e1 : ∀ (x : Nat → Int32) (r : Nat), zA (zsA V 17 x) r = if r = 17 then x else zA V r := fun _ _ => rfl
        change zA (zsI (zsA (zsA V 17 (upd (zA V 17) d (nI j))) (zP V 14 1) (upd (zA V (zP V 14 1)) A.length (nI d))) 14 5 (nI A.length + 1)) (zP V 14 2) i' = nI c'
        rw [e0, if_neg (fun q => hpn.2.2.2.2.1 q.symm), e1, if_neg hpn.2.2.2.1]
        exact hbf.2.2 i' c' hc'
      · intro x hx
        rcases y_put_mem.mp hx with h | h
        · exact hA x h
        · cases h; exact hgd
      · refine y_fr_I (y_fr_A (y_fr_A y_fr_refl (by decide)) ?_) (by decide)
        rcases hpn.2.2.2.2.2.1 with q | q <;> rw [q] <;> decide
end
