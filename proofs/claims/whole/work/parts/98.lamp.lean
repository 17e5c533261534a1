/-! ===== lamps: the class's modes; the reference's acts and rules ===== -/
section
variable {F : Nat} {T : zV} {w : Bool} {lv b : Nat} {S : y_S} {V V5 : zV}
theorem c_lampl (hF : 2000 ≤ F) (hT : y_T T) (hp : y_pw T) (hmo : ∀ m, m < y_many T 7 → y_hd T m ≤ y_hd T (m + 1)) {ev : Int32} : ∀ (r i N : Nat) (V : zV), i + r = y_many T 7 → r + 1 ≤ N → y_rb w b T S V →
    ∃ V', y_rb w b T S V' ∧ fX1_wouldPay_l18 F N T V ev (nI i) = some ((if y_lo T S ev ((List.range' i r).map fun i => (zA T 12 i).toNatClampNeg) = true then 1 else 0), V') := by
  have h7 := hT.2.1.1
  have e7 : zA T 1 ((7 : Int32)).toNatClampNeg = nI (y_many T 7) := h7.1
  intro r
  induction r with
  | zero =>
    intro i N V e hN h
    obtain ⟨N, rfl⟩ : ∃ N', N = N' + 1 := ⟨N - 1, by omega⟩
    rw [fX1_wouldPay_l18, e7, if_pos (nI_le (by omega) (by omega))]
    exact ⟨V, h, rfl⟩
  | succ r ih =>
    intro i N V e hN h
    obtain ⟨N, rfl⟩ : ∃ N', N = N' + 1 := ⟨N - 1, by omega⟩
    obtain ⟨R, hR, hR3, hh, hcond⟩ := id hT.2.2.2.2.1
    obtain ⟨m, hm, e1, e2⟩ := c_inOrder (F := F) hT (i := i) (by omega)
    have hm12 : m < 12 := by omega
    rw [fX1_wouldPay_l18, e7, if_neg (nI_ge (by omega) (by omega)), e1, y_bd, c_isOn hm12 h, y_bd, List.range'_succ, List.map_cons, e2, y_lo]
    by_cases q : y_R S 19 m = 0
    · rw [if_pos q, if_pos rfl, if_pos q, fX1_wouldPay_b66, c_head hT.2.2.2.2.1 (by omega), y_bd]
      obtain ⟨n0, hn0⟩ : ∃ n', F = n' + 1 := ⟨F - 1, by omega⟩
      have : ∀ M, fX1_wouldPay_l78 F (fX1_wouldPay_l18 F N) (M + 1) T V ev (nI i) (nI m) 0 (nI (y_hd T m)) = fX1_wouldPay_l18 F N T V ev (nI (i + 1)) := by
        intro M
        rw [fX1_wouldPay_l78, if_pos (show (0 : Int32) ≤ nI (y_hd T m) from nI_le (a := 0) (Nat.zero_le _) (by have := (hh m (by omega)).2; omega)), nI_1]
      have e0 := this n0
      rw [← hn0] at e0
      rw [e0]
      exact ih (i + 1) N V (by omega) (by omega) h
    · rw [if_neg q, if_neg (show ¬ (1 : Int32) = 0 by decide), if_neg q, nI_1, c_head hT.2.2.2.2.1 (by omega), y_bd, fX1_wouldPay_b66, c_head hT.2.2.2.2.1 (by omega), y_bd]
      have hmm := hmo m hm
      have hRm := (hh (m + 1) (by omega)).2
      obtain ⟨V1, a1, a2⟩ := c_payl (F := F) (k18 := fX1_wouldPay_l18 F N) (ev := ev) (x2 := nI i) hF hT hp hm12 hR hR3 hRm (y_hd T (m + 1) - y_hd T m) (y_hd T m) F V (by omega) (by omega) h
      rw [a2]
      unfold y_rs
      cases q2 : y_lr T S ev m (List.range' (y_hd T m) (y_hd T (m + 1) - y_hd T m)) with
      | some bb => exact ⟨V1, a1, rfl⟩
      | none =>
        dsimp only
        rw [nI_1]
        exact ih (i + 1) N V1 (by omega) (by omega) a1
/-- the reference's acts of a rule that would run -/
theorem m_actl (hT : y_mt T lv V) {ev x3 : Int32} {m r : Nat} (hr : r < 80) {k103 : zV → Int32 → Int32 → Int32 → Int32 → Option (Int32 × zV)} : ∀ (A : List y_A) (a N : Nat) (fl : Int32), a + A.length ≤ 2000 → A.length + 1 ≤ N → zA V 26 (81 * lv + r + 1) = nI (a + A.length) → (∀ i x, A[i]? = some x → y_ma T V (a + i) x) →
    fX12_lamp_l178 F k103 N V ev x3 (nI m) (nI r) fl (nI a) = if (A.any fun x => x.1 = 16 ∨ x.1 = 18 ∨ x.1 = 23) = true then some (1, V) else if fl = 0 ∧ (A.any fun x => x.1 = 21) = false then fX12_lamp_b266 F k103 V ev x3 (nI m) (nI r) else some (0, V) := by
  have hlv := hT.1.1
  intro A
  induction A with
  | nil =>
    intro a N fl h1 hN h26 h
    obtain ⟨N, rfl⟩ : ∃ N', N = N' + 1 := ⟨N - 1, by omega⟩
    have h1 : a + 0 ≤ 2000 := h1
    have h26 : zA V 26 (81 * lv + r + 1) = nI (a + 0) := h26
    rw [fX12_lamp_l178, hT.1.2, show (81 : Int32) = nI 81 from rfl, pk_mul, nI_add, nI_1, y_ck (by omega) (by decide), nI_clamp (by omega), h26, if_pos (nI_le (by omega) (by omega)), if_neg (show ¬ (([] : List y_A).any fun x => x.1 = 16 ∨ x.1 = 18 ∨ x.1 = 23) = true from fun z => by cases z)]
    by_cases q : fl = 0
    · rw [if_pos q, if_pos ⟨q, rfl⟩]
    · rw [if_neg q, if_neg (fun z => q z.1)]
  | cons x A ih =>
    intro a N fl h1 hN h26 h
    obtain ⟨N, rfl⟩ : ∃ N', N = N' + 1 := ⟨N - 1, by omega⟩
    have h1 : a + (A.length + 1) ≤ 2000 := h1
    have h26 : zA V 26 (81 * lv + r + 1) = nI (a + (A.length + 1)) := h26
    have hN : A.length + 1 + 1 ≤ N + 1 := hN
    obtain ⟨k1, k2, k3, -⟩ := h 0 x rfl
    have k1 : zA V 31 a = nI (x.1 + 19) := k1
    have ne : ∀ c : Nat, c < 100 → (nI (x.1 + 19) = nI (c + 19) ↔ x.1 = c) := fun c hc => by
      rw [nI_eq (by omega) (by omega)]; omega
    have i1 := fun fl => ih (a + 1) N fl (by omega) (by omega) (by rw [h26]; congr 1; omega) (fun i y hy => by
      have := h (i + 1) y hy
      rw [show a + 1 + i = a + (i + 1) by omega]; exact this)
    rw [fX12_lamp_l178, hT.1.2, show (81 : Int32) = nI 81 from rfl, pk_mul, nI_add, nI_1, y_ck (by omega) (by decide), nI_clamp (by omega), h26, if_neg (nI_ge (by omega) (by omega)), List.any_cons, List.any_cons]
    simp only [y_ck (show a < 2000 by omega) (by decide), nI_clamp (show a < 2 ^ 31 by omega), k1]
    rw [show (35 : Int32) = nI (16 + 19) from rfl, show (37 : Int32) = nI (18 + 19) from rfl, show (42 : Int32) = nI (23 + 19) from rfl, show (40 : Int32) = nI (21 + 19) from rfl]
    by_cases q16 : x.1 = 16
    · rw [if_pos ((ne 16 (by decide)).mpr q16), if_pos (by rw [q16]; rfl)]
    rw [if_neg (fun z => q16 ((ne 16 (by decide)).mp z))]
    by_cases q18 : x.1 = 18
    · rw [if_pos ((ne 18 (by decide)).mpr q18), if_pos (by rw [q18]; rfl)]
    rw [if_neg (fun z => q18 ((ne 18 (by decide)).mp z))]
    by_cases q23 : x.1 = 23
    · rw [if_pos ((ne 23 (by decide)).mpr q23), if_pos (by rw [q23]; rfl)]
    rw [if_neg (fun z => q23 ((ne 23 (by decide)).mp z))]
    have e1 : decide (x.1 = 16 ∨ x.1 = 18 ∨ x.1 = 23) = false := decide_eq_false (fun z => z.elim q16 (fun z => z.elim q18 q23))
    rw [e1, Bool.false_or]
    by_cases q21 : x.1 = 21
    · rw [if_pos ((ne 21 (by decide)).mpr q21), fX12_lamp_b253, nI_1, i1 1]
      have e2 : decide (x.1 = 21) = true := decide_eq_true q21
      rw [e2, Bool.true_or, if_neg (show ¬ ((1 : Int32) = 0 ∧ (A.any fun x => decide (x.1 = 21)) = false) from fun z => absurd z.1 (by decide)), if_neg (show ¬ (fl = 0 ∧ true = false) from fun z => by cases z.2)]
    · rw [if_neg (fun z => q21 ((ne 21 (by decide)).mp z)), fX12_lamp_b253, nI_1, i1 fl]
      have e2 : decide (x.1 = 21) = false := decide_eq_false q21
      rw [e2, Bool.false_or]
end
