/-! ===== balls at a place ===== -/
def y_at (c a : Nat) : Nat := (if c / 81 = a + 1 then 1 else 0) + (if c / 9 % 9 = a + 1 then 1 else 0) + (if c % 9 = a + 1 then 1 else 0)
theorem y_at_c0 : ∀ c : Fin 729, ∀ a : Fin 8, fX3_ballsAt 0 (nI c.1) (nI a.1) = some (nI (y_at c.1 a.1)) := by decide +kernel
theorem y_at_m0 : ∀ c : Fin 729, y_sd c.1 = true → ∀ a : Fin 8, (nI (y_enc c.1) >>> (((2 : Int32) * nI a.1) &&& 31)) &&& (3 : Int32) = nI (y_at c.1 a.1) := by decide +kernel
theorem y_at_le {c a : Nat} : y_at c a ≤ 3 := by unfold y_at; split <;> split <;> split <;> omega
section
variable {F : Nat} {T : zV} {lv n b : Nat} {S : y_S} {V0 V5 V7 : zV}
theorem y_fmax {f : Nat → Nat} : ∀ (L : List Nat) (x : Nat), (∀ c ∈ L, f c ≤ L.foldl (fun x c => max x (f c)) x) ∧ x ≤ L.foldl (fun x c => max x (f c)) x ∧ (L.foldl (fun x c => max x (f c)) x = x ∨ ∃ c ∈ L, L.foldl (fun x c => max x (f c)) x = f c) := by
  intro L
  induction L with
  | nil => intro x; exact ⟨fun c h => absurd h List.not_mem_nil, Nat.le_refl _, Or.inl rfl⟩
  | cons d L ih =>
    intro x
    obtain ⟨h1, h2, h3⟩ := ih (max x (f d))
    rw [List.foldl_cons]
    refine ⟨fun c hc => ?_, by omega, ?_⟩
    · rcases List.mem_cons.mp hc with rfl | hc
      · omega
      · exact h1 c hc
    · rcases h3 with h3 | ⟨c, hc, h3⟩
      · by_cases q : f d ≤ x
        · left; omega
        · right; exact ⟨d, List.mem_cons_self .., by omega⟩
      · exact Or.inr ⟨c, List.mem_cons_of_mem _ hc, h3⟩
theorem y_fmin {f : Nat → Nat} : ∀ (L : List Nat) (x : Nat), (∀ c ∈ L, L.foldl (fun x c => min x (f c)) x ≤ f c) ∧ L.foldl (fun x c => min x (f c)) x ≤ x ∧ (L.foldl (fun x c => min x (f c)) x = x ∨ ∃ c ∈ L, L.foldl (fun x c => min x (f c)) x = f c) := by
  intro L
  induction L with
  | nil => intro x; exact ⟨fun c h => absurd h List.not_mem_nil, Nat.le_refl _, Or.inl rfl⟩
  | cons d L ih =>
    intro x
    obtain ⟨h1, h2, h3⟩ := ih (min x (f d))
    rw [List.foldl_cons]
    refine ⟨fun c hc => ?_, by omega, ?_⟩
    · rcases List.mem_cons.mp hc with rfl | hc
      · omega
      · exact h1 c hc
    · rcases h3 with h3 | ⟨c, hc, h3⟩
      · by_cases q : x ≤ f d
        · left; omega
        · right; exact ⟨d, List.mem_cons_self .., by omega⟩
      · exact Or.inr ⟨c, List.mem_cons_of_mem _ hc, h3⟩
theorem y_fmax_eq {f : Nat → Nat} {L M : List Nat} {x : Nat} (h : ∀ c, c ∈ L ↔ c ∈ M) : L.foldl (fun x c => max x (f c)) x = M.foldl (fun x c => max x (f c)) x := by
  obtain ⟨a1, a2, a3⟩ := y_fmax (f := f) L x
  obtain ⟨b1, b2, b3⟩ := y_fmax (f := f) M x
  apply Nat.le_antisymm
  · rcases a3 with e | ⟨c, hc, e⟩
    · omega
    · have := b1 c ((h c).mp hc); omega
  · rcases b3 with e | ⟨c, hc, e⟩
    · omega
    · have := a1 c ((h c).mpr hc); omega
theorem y_fmin_eq {f : Nat → Nat} {L M : List Nat} {x : Nat} (h : ∀ c, c ∈ L ↔ c ∈ M) : L.foldl (fun x c => min x (f c)) x = M.foldl (fun x c => min x (f c)) x := by
  obtain ⟨a1, a2, a3⟩ := y_fmin (f := f) L x
  obtain ⟨b1, b2, b3⟩ := y_fmin (f := f) M x
  apply Nat.le_antisymm
  · rcases b3 with e | ⟨c, hc, e⟩
    · omega
    · have := a1 c ((h c).mpr hc); omega
  · rcases a3 with e | ⟨c, hc, e⟩
    · omega
    · have := b1 c ((h c).mp hc); omega
theorem c_mostl {L : List Nat} (h5 : zI V5 14 5 = nI L.length) (hl : L.length ≤ 120) (hp : zP V5 14 1 = 15 ∨ zP V5 14 1 = 16) (hn : zN V5 (zP V5 14 1) = 120) (hL : ∀ i c, L[i]? = some c → zA V5 (zP V5 14 1) i = nI c) (h9 : ∀ c ∈ L, c < 729) {a : Nat} (ha : a < 8) : ∀ (l : List Nat) (i N x : Nat), L.drop i = l → i ≤ L.length → l.length + 1 ≤ N → x ≤ 3 →
    fX3_mostAt_l4 F N V5 (nI a) (nI x) (nI i) = some (nI (l.foldl (fun x c => max x (y_at c a)) x)) ∧ fX3_leastAt_l4 F N V5 (nI a) (nI x) (nI i) = some (nI (l.foldl (fun x c => min x (y_at c a)) x)) := by
  intro l
  induction l with
  | nil =>
    intro i N x e hi hN hx
    obtain ⟨N, rfl⟩ : ∃ N', N = N' + 1 := ⟨N - 1, by omega⟩
    have hie := List.drop_eq_nil_iff.mp e
    rw [fX3_mostAt_l4, fX3_leastAt_l4, h5, if_pos (nI_le (by omega) (by omega)), if_pos (nI_le (by omega) (by omega))]
    exact ⟨rfl, rfl⟩
  | cons c l ih =>
    intro i N x e hi hN hx
    have hN : l.length + 1 + 1 ≤ N := hN
    obtain ⟨N, rfl⟩ : ∃ N', N = N' + 1 := ⟨N - 1, by omega⟩
    have hlt : i < L.length := by
      by_cases q : i < L.length
      · exact q
      · rw [List.drop_eq_nil_iff.mpr (by omega)] at e; cases e
    have ei : L[i]? = some c := by
      have : (L.drop i)[0]? = some c := by rw [e]; rfl
      rw [List.getElem?_drop] at this; exact this
    have ed : L.drop (i + 1) = l := by
      have : (L.drop i).tail = l := by rw [e]; rfl
      rw [List.tail_drop] at this; exact this
    have hc := h9 c (List.mem_of_getElem? ei)
    have hat : fX3_ballsAt F (nI c) (nI a) = some (nI (y_at c a)) := y_at_c0 ⟨c, hc⟩ ⟨a, ha⟩
    have hal : y_at c a ≤ 3 := y_at_le
    rw [fX3_mostAt_l4, fX3_leastAt_l4, h5, if_neg (nI_ge hlt (by omega)), if_neg (nI_ge hlt (by omega)), hn, zchk_t hp, if_neg (nI_ge (by omega) (by decide)), zchk_t hp, y_ck (by omega) (by decide), zchk_t hp, if_neg (nI_ge (by omega) (by decide)), zchk_t hp, y_ck (by omega) (by decide), nI_clamp (by omega), hL i c ei, hat, y_bd, y_bd, y_let, y_let, nI_1, List.foldl_cons, List.foldl_cons]
    constructor
    · have : (if nI x < nI (y_at c a) then nI (y_at c a) else nI x) = nI (max x (y_at c a)) := by
        by_cases q : x < y_at c a
        · rw [if_pos (nI_lt q (by omega)), Nat.max_eq_right (by omega)]
        · rw [if_neg (nI_nlt (by omega) (by omega)), Nat.max_eq_left (by omega)]
      rw [this]
      exact (ih (i + 1) N (max x (y_at c a)) ed (by omega) (by omega) (by omega)).1
    · have : (if nI (y_at c a) < nI x then nI (y_at c a) else nI x) = nI (min x (y_at c a)) := by
        by_cases q : y_at c a < x
        · rw [if_pos (nI_lt q (by omega)), Nat.min_eq_right (by omega)]
        · rw [if_neg (nI_nlt (by omega) (by omega)), Nat.min_eq_left (by omega)]
      rw [this]
      exact (ih (i + 1) N (min x (y_at c a)) ed (by omega) (by omega) (by omega)).2
end
