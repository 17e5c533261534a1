/-! ===== lamps: the class ===== -/
def y_pay (T : zV) (r : Nat) : Bool := (y_ra T r).any fun x => x.1 = 16 ∨ x.1 = 18 ∨ x.1 = 23
def y_hol (T : zV) (r : Nat) : Bool := (y_ra T r).any fun x => x.1 = 21
/-- the table's rows 20 and 21 -/
def y_pw (T : zV) : Prop := ∀ R, zI T 13 3 = nI R → R ≤ 80 → ∀ r, r < R → (zA T 20 r = 0 ↔ y_pay T r = false) ∧ (zA T 21 r = 0 ↔ y_hol T r = false)
/-- the first rule that pays or holds, and whether it pays -/
def y_lr (T : zV) (S : y_S) (ev : Int32) (m : Nat) : List Nat → Option Bool
  | [] => none
  | r :: l => if zA T 17 r = ev ∧ (y_pay T r = true ∨ y_hol T r = true) ∧ y_cond T r (y_R S 1) (y_R S 20 m) (y_I S 14 7) = some true then some (y_pay T r) else y_lr T S ev m l
def y_lo (T : zV) (S : y_S) (ev : Int32) : List Nat → Bool
  | [] => false
  | m :: l => if y_R S 19 m = 0 then y_lo T S ev l else match y_lr T S ev m (y_rs T m) with
    | some b => b
    | none => y_lo T S ev l
def y_lamp (T : zV) (S : y_S) (ev : Int32) : Bool := if y_I S 0 9 = 0 then false else if y_I S 0 12 = 0 then y_lo T S ev (y_ord T) else false
section
variable {F : Nat} {T : zV} {w : Bool} {b : Nat} {S : y_S} {V V5 : zV}
theorem c_pays (hp : y_pw T) {R r : Nat} (hR : R ≤ 80) (hR3 : zI T 13 3 = nI R) (hr : r < R) : fX6_pays F T (nI r) = some (if y_pay T r = true then 1 else 0) := by
  unfold fX6_pays
  rw [if_neg (nI_pos (by omega)), hR3, if_neg (nI_ge hr (by omega)), y_ck (by omega) (by decide), nI_clamp (by omega)]
  have := (hp R hR3 hR r hr).1
  cases q : y_pay T r with
  | true => rw [if_neg (fun z => by rw [this.mp z] at q; cases q), if_pos rfl]
  | false => rw [if_pos (this.mpr q)]; rfl
theorem c_hold (hp : y_pw T) {R r : Nat} (hR : R ≤ 80) (hR3 : zI T 13 3 = nI R) (hr : r < R) : fX6_hasHold F T (nI r) = some (if y_hol T r = true then 1 else 0) := by
  unfold fX6_hasHold
  rw [if_neg (nI_pos (by omega)), hR3, if_neg (nI_ge hr (by omega)), y_ck (by omega) (by decide), nI_clamp (by omega)]
  have := (hp R hR3 hR r hr).2
  cases q : y_hol T r with
  | true => rw [if_neg (fun z => by rw [this.mp z] at q; cases q), if_pos rfl]
  | false => rw [if_pos (this.mpr q)]; rfl
theorem c_payl (hF : 2000 ≤ F) (hT : y_T T) (hp : y_pw T) {k18 : zV → zV → Int32 → Int32 → Option (Int32 × zV)} {ev x2 : Int32} {m e R : Nat} (hm : m < 12) (hR : R ≤ 80) (hR3 : zI T 13 3 = nI R) (he : e ≤ R) : ∀ (c r N : Nat) (V : zV), r + c = e → c + 1 ≤ N → y_rb w b T S V →
    ∃ V', y_rb w b T S V' ∧ fX1_wouldPay_l78 F k18 N T V ev x2 (nI m) (nI e) (nI r) = match y_lr T S ev m (List.range' r c) with
      | some q => some ((if q = true then 1 else 0), V')
      | none => k18 T V' ev (x2 + 1) := by
  intro c
  induction c with
  | zero =>
    intro r N V er hN h
    obtain ⟨N, rfl⟩ : ∃ N', N = N' + 1 := ⟨N - 1, by omega⟩
    rw [fX1_wouldPay_l78, if_pos (nI_le (by omega) (by omega))]
    exact ⟨V, h, rfl⟩
  | succ c ih =>
    intro r N V er hN h
    obtain ⟨N, rfl⟩ : ∃ N', N = N' + 1 := ⟨N - 1, by omega⟩
    have hr : r < R := by omega
    rw [fX1_wouldPay_l78, if_neg (nI_ge (by omega) (by omega)), c_isRule hR hR3 hr, y_bd, List.range'_succ, y_lr]
    have skip : ∀ V1, y_rb w b T S V1 → ∃ V', y_rb w b T S V' ∧ fX1_wouldPay_b154 F (fX1_wouldPay_l78 F k18 N) T V1 ev x2 (nI m) (nI e) (nI r) = match y_lr T S ev m (List.range' (r + 1) c) with
      | some q => some ((if q = true then 1 else 0), V')
      | none => k18 T V' ev (x2 + 1) := by
      intro V1 h1
      rw [fX1_wouldPay_b154, nI_1]
      exact ih (r + 1) N V1 (by omega) (by omega) h1
    by_cases q1 : zA T 17 r = ev
    rotate_left
    · rw [if_neg q1, if_pos rfl, if_neg (fun z => q1 z.1), fX1_wouldPay_b126, fX1_wouldPay_b127, if_pos rfl]
      exact skip V h
    rw [if_pos q1, if_neg (show ¬ (1 : Int32) = 0 by decide), c_pays hp hR hR3 hr, y_bd, c_hold hp hR hR3 hr]
    -- it pays or holds
    have yes : (y_pay T r = true ∨ y_hol T r = true) → ∃ V', y_rb w b T S V' ∧ fX1_wouldPay_b122 F (fX1_wouldPay_l78 F k18 N) T V ev x2 (nI m) (nI e) (nI r) = match (if zA T 17 r = ev ∧ (y_pay T r = true ∨ y_hol T r = true) ∧ y_cond T r (y_R S 1) (y_R S 20 m) (y_I S 14 7) = some true then some (y_pay T r) else y_lr T S ev m (List.range' (r + 1) c)) with
      | some q => some ((if q = true then 1 else 0), V')
      | none => k18 T V' ev (x2 + 1) := by
      intro q2
      obtain ⟨R', hR', hR3', hh, hcond⟩ := hT.2.2.2.2.1
      have e1 : R' = R := (nI_eq (by omega) (by omega)).mp (hR3'.symm.trans hR3)
      subst e1
      obtain ⟨bb, hbb⟩ := (hcond r hr).1 (y_R S 1) (y_R S 20 m) (y_I S 14 7)
      obtain ⟨V1, a1, a2⟩ := c_holds (F := F) hT.1 hF hR hR3 (V := V) hm hr (hcond r hr).2 ((y_sim_cond h.1 hm).trans hbb)
      have h1 : y_rb w b T S V1 := y_rb_fr h a2 (by decide) (by decide)
      rw [fX1_wouldPay_b122, fX1_wouldPay_b127, if_neg (show ¬ (1 : Int32) = 0 by decide), a1, y_bd]
      cases bb with
      | true =>
        rw [if_neg (show ¬ (if true = true then (1 : Int32) else 0) = 0 by decide), c_pays hp hR hR3 hr, y_bd, if_pos (show zA T 17 r = ev ∧ (y_pay T r = true ∨ y_hol T r = true) ∧ y_cond T r (y_R S 1) (y_R S 20 m) (y_I S 14 7) = some true from ⟨q1, q2, hbb⟩)]
        refine ⟨V1, h1, ?_⟩
        cases y_pay T r with
        | true => exact zchk_t (Or.inr rfl)
        | false => exact zchk_t (Or.inl rfl)
      | false =>
        rw [if_pos (show (if false = true then (1 : Int32) else 0) = 0 from rfl), if_neg (show ¬ (zA T 17 r = ev ∧ (y_pay T r = true ∨ y_hol T r = true) ∧ y_cond T r (y_R S 1) (y_R S 20 m) (y_I S 14 7) = some true) from fun z => by have z := hbb.symm.trans z.2.2; cases z)]
        exact skip V1 h1
    cases qp : y_pay T r with
    | true =>
      rw [qp] at yes
      rw [if_neg (show ¬ (if true = true then (1 : Int32) else 0) = 0 by decide)]
      exact yes (Or.inl rfl)
    | false =>
      rw [qp] at yes
      rw [if_pos (show (if false = true then (1 : Int32) else 0) = 0 from rfl), y_bd]
      cases qh : y_hol T r with
      | true =>
        rw [qh] at yes
        rw [if_neg (show ¬ (if true = true then (1 : Int32) else 0) = 0 by decide)]
        exact yes (Or.inr rfl)
      | false =>
        rw [if_pos (show (if false = true then (1 : Int32) else 0) = 0 from rfl), if_neg (fun z => by rcases z.2.1 with z | z <;> cases z), fX1_wouldPay_b126, fX1_wouldPay_b127, if_pos rfl]
        exact skip V h
end
