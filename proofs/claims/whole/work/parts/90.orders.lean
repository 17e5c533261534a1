/-! ===== the order of modes in the reference: the class sorts in the same way ===== -/
def y_i1 (rk : Nat → Int32) (x : Nat) : Nat → (Nat → Int32) → Nat → Int32
  | 0, f => upd f 0 (nI x)
  | p + 1, f => if rk x ≤ rk (f p).toNatClampNeg then upd f (p + 1) (nI x) else y_i1 rk x p (upd f (p + 1) (f p))
def y_is (rk : Nat → Int32) : Nat → (Nat → Int32) → Nat → Int32
  | 0, f => f
  | n + 1, f => y_i1 rk n n (y_is rk n f)
theorem y_i1_out {rk : Nat → Int32} {x : Nat} : ∀ (p : Nat) (f : Nat → Int32) (i : Nat), p < i → y_i1 rk x p f i = f i := by
  intro p
  induction p with
  | zero => intro f i hi; rw [y_i1, y_upd, if_neg (by omega)]
  | succ p ih =>
    intro f i hi
    rw [y_i1]
    split
    · rw [y_upd, if_neg (by omega)]
    · rw [ih _ i (by omega), y_upd, if_neg (by omega)]
theorem y_i1_ok {rk : Nat → Int32} {x M : Nat} (hx : x < M) : ∀ (p : Nat) (f : Nat → Int32), (∀ i, i < p → ∃ m, m < M ∧ f i = nI m) → ∀ i, i ≤ p → ∃ m, m < M ∧ y_i1 rk x p f i = nI m := by
  intro p
  induction p with
  | zero => intro f h i hi; rw [y_i1, y_upd, if_pos (by omega)]; exact ⟨x, hx, rfl⟩
  | succ p ih =>
    intro f h i hi
    rw [y_i1]
    split
    · rw [y_upd]
      split
      · exact ⟨x, hx, rfl⟩
      · exact h i (by omega)
    · by_cases q : i ≤ p
      · refine ih _ (fun j hj => ?_) i q
        rw [y_upd, if_neg (by omega)]; exact h j (by omega)
      · rw [y_i1_out p _ i (by omega), y_upd, if_pos (by omega)]; exact h p (by omega)
theorem y_i1_eq {rk : Nat → Int32} {x : Nat} : ∀ (p : Nat) (f g : Nat → Int32), (∀ i, i < p → f i = g i) → ∀ i, i ≤ p → y_i1 rk x p f i = y_i1 rk x p g i := by
  intro p
  induction p with
  | zero => intro f g h i hi; rw [y_i1, y_i1, y_upd, y_upd, if_pos (by omega), if_pos (by omega)]
  | succ p ih =>
    intro f g h i hi
    rw [y_i1, y_i1, h p (by omega)]
    split
    · rw [y_upd, y_upd]
      by_cases q : i = p + 1
      · rw [if_pos q, if_pos q]
      · rw [if_neg q, if_neg q]; exact h i (by omega)
    · by_cases q : i ≤ p
      · refine ih _ _ (fun j hj => ?_) i q
        rw [y_upd, y_upd, if_neg (by omega), if_neg (by omega)]; exact h j (by omega)
      · rw [y_i1_out p _ i (by omega), y_i1_out p _ i (by omega), y_upd, y_upd, if_pos (by omega), if_pos (by omega)]
theorem y_is_eq {rk : Nat → Int32} {f g : Nat → Int32} : ∀ (n i : Nat), i < n → y_is rk n f i = y_is rk n g i := by
  intro n
  induction n with
  | zero => intro i hi; omega
  | succ n ih =>
    intro i hi
    rw [y_is, y_is]
    exact y_i1_eq n _ _ (fun j hj => ih j hj) i (by omega)
theorem y_is_ok {rk : Nat → Int32} {f : Nat → Int32} : ∀ (n i : Nat), i < n → ∃ m, m < n ∧ y_is rk n f i = nI m := by
  intro n
  induction n with
  | zero => intro i hi; omega
  | succ n ih =>
    intro i hi
    rw [y_is]
    refine y_i1_ok (by omega) n _ (fun j hj => ?_) i (by omega)
    obtain ⟨m, h1, h2⟩ := ih j hj
    exact ⟨m, by omega, h2⟩
/-- the table's order is the modes' by rank -/
def y_to (T : zV) : Prop := ∀ i, i < y_many T 7 → zA T 12 i = y_is (zA T 10) (y_many T 7) (fun _ => 0) i
section
variable {F : Nat} {T : zV} {lv : Nat} {V V' : zV}
theorem m_ord1 (h12 : y_many T 7 ≤ 12) {x : Nat} (hx : x < y_many T 7) {x1 : Int32} {k9 : zV → Int32 → Int32 → Option zV} : ∀ (p N : Nat) (V : zV), p < y_many T 7 → p + 1 ≤ N → y_mt T lv V → (∀ i, i < p → ∃ m, m < y_many T 7 ∧ zA V 56 i = nI m) →
    ∃ V', fX12_orders_l16 F k9 N V x1 (nI x) (nI p) = k9 V' x1 (nI (x + 1)) ∧ zA V' 56 = y_i1 (zA T 10) x p (zA V 56) ∧ y_fr [] [56] V V' := by
  intro p
  induction p with
  | zero =>
    intro N V hp hN hT h
    obtain ⟨N, rfl⟩ : ∃ N', N = N' + 1 := ⟨N - 1, by omega⟩
    rw [fX12_orders_l16, if_pos (show nI 0 ≤ (0 : Int32) by decide), fX12_orders_b78, y_ck (by omega) (by decide), y_let, nI_1, nI_clamp (by omega)]
    exact ⟨_, rfl, rfl, y_fr_A y_fr_refl (by decide)⟩
  | succ p ih =>
    intro N V hp hN hT h
    obtain ⟨N, rfl⟩ : ∃ N', N = N' + 1 := ⟨N - 1, by omega⟩
    have hlv := hT.1.1
    obtain ⟨m, hm, em⟩ := h p (by omega)
    have r1 : zA V 21 (12 * lv + x) = zA T 10 x := (hT.2.2.1 x hx).1
    have r2 : zA V 21 (12 * lv + m) = zA T 10 m := (hT.2.2.1 m hm).1
    rw [fX12_orders_l16, if_neg (show ¬ nI (p + 1) ≤ (0 : Int32) from nI_nle (by omega) (by omega)), nI_pred, y_ck (by omega) (by decide), hT.1.2, show (12 : Int32) = nI 12 from rfl, pk_mul]
    simp only [nI_clamp (show p < 2 ^ 31 by omega), em, nI_add, y_ck (show 12 * lv + m < 24 by omega) (by decide), y_ck (show 12 * lv + x < 24 by omega) (by decide), nI_clamp (show 12 * lv + m < 2 ^ 31 by omega), nI_clamp (show 12 * lv + x < 2 ^ 31 by omega), r1, r2]
    have e2 : (zA V 56 p).toNatClampNeg = m := by rw [em, nI_clamp (by omega)]
    rw [y_i1, e2]
    by_cases q : zA T 10 x ≤ zA T 10 m
    · rw [if_pos q, if_pos q, fX12_orders_b78, y_ck (by omega) (by decide), y_let, nI_1, nI_clamp (by omega)]
      exact ⟨_, rfl, rfl, y_fr_A y_fr_refl (by decide)⟩
    · rw [if_neg q, if_neg q, y_ck (by omega) (by decide), y_ck (by omega) (by decide), y_let, pk_m1, nI_clamp (show p + 1 < 2 ^ 31 by omega)]
      have f1 : y_fr [] [56] V (zsA V 56 (upd (zA V 56) (p + 1) (nI m))) := y_fr_A y_fr_refl (by decide)
      obtain ⟨V2, a1, a2, a3⟩ := ih N (zsA V 56 (upd (zA V 56) (p + 1) (nI m))) (by omega) (by omega) (y_mt_fr hT f1 List.not_mem_nil (by decide)) (fun i hi => by
        show ∃ m', m' < y_many T 7 ∧ upd (zA V 56) (p + 1) (nI m) i = nI m'
        rw [y_upd, if_neg (by omega)]; exact h i (by omega))
      refine ⟨V2, a1, ?_, y_fr_trans f1 a3⟩
      rw [a2, em]; rfl
theorem m_ordl (hF : 3000 ≤ F) (h12 : y_many T 7 ≤ 12) {f0 : Nat → Int32} : ∀ (r x N : Nat) (V : zV), x + r = y_many T 7 → r + 1 ≤ N → y_mt T lv V → zA V 56 = y_is (zA T 10) x f0 →
    ∃ V', fX12_orders_l9 F N V (nI (y_many T 7)) (nI x) = some V' ∧ zA V' 56 = y_is (zA T 10) (y_many T 7) f0 ∧ y_fr [] [56] V V' := by
  intro r
  induction r with
  | zero =>
    intro x N V e hN hT h
    obtain ⟨N, rfl⟩ : ∃ N', N = N' + 1 := ⟨N - 1, by omega⟩
    rw [fX12_orders_l9, if_pos (nI_le (by omega) (by omega))]
    have : x = y_many T 7 := by omega
    exact ⟨V, rfl, by rw [h, this], y_fr_refl⟩
  | succ r ih =>
    intro x N V e hN hT h
    obtain ⟨N, rfl⟩ : ∃ N', N = N' + 1 := ⟨N - 1, by omega⟩
    rw [fX12_orders_l9, if_neg (nI_ge (by omega) (by omega))]
    obtain ⟨V1, a1, a2, a3⟩ := m_ord1 (F := F) h12 (show x < y_many T 7 by omega) (x1 := nI (y_many T 7)) (k9 := fX12_orders_l9 F N) x F V (by omega) (by omega) hT (fun i hi => by
      rw [h]
      obtain ⟨m, h1, h2⟩ := y_is_ok (rk := zA T 10) (f := f0) x i hi
      exact ⟨m, by omega, h2⟩)
    obtain ⟨V2, b1, b2, b3⟩ := ih (x + 1) N V1 (by omega) (by omega) (y_mt_fr hT a3 List.not_mem_nil (by decide)) (by rw [a2, h]; rfl)
    exact ⟨V2, a1.trans b1, b2, y_fr_trans a3 b3⟩
theorem m_orders (hF : 3000 ≤ F) (hTT : y_T T) (hto : y_to T) (hT : y_mt T lv V) :
    ∃ V', fX12_orders F V = some V' ∧ (∀ i, i < y_many T 7 → zA V' 56 i = zA T 12 i) ∧ y_fr [] [56] V V' := by
  have h7 := hTT.2.1.1
  obtain ⟨V1, a1, a2, a3⟩ := m_ordl (F := F) (lv := lv) (f0 := zA V 56) hF h7.2 (y_many T 7) 0 F V (by omega) (by omega) hT rfl
  have a1' : fX12_orders_l9 F F V (nI (y_many T 7)) 0 = some V1 := a1
  rw [fX12_orders, show (7 : Int32) = nI 7 from rfl, m_sort hT (by decide), y_bd, h7.1, a1']
  refine ⟨V1, rfl, fun i hi => ?_, a3⟩
  rw [a2, hto i hi]
  exact y_is_eq _ i hi
end
